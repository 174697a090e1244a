/-! routers, the model: a greeting -/
theorem hUpd_get {H : List Nb} {i : Nat} {n : Nb} {f : Nb → Nb} (h : H[i]? = some n) : (hUpd H n.1 f)[i]? = some (f n) := by
  unfold hUpd
  rw [List.getElem?_map, h]
  exact congrArg some (if_pos rfl)
theorem hUpd_hUpd {H : List Nb} {key : Nat} {f g : Nb → Nb} (hf : ∀ n, (f n).1 = n.1) : hUpd (hUpd H key f) key g = hUpd H key (fun n => g (f n)) := by
  unfold hUpd
  rw [List.map_map]
  refine List.map_congr_left (fun n _ => ?_)
  show (if (if n.1 = key then f n else n).1 = key then g (if n.1 = key then f n else n) else (if n.1 = key then f n else n)) = _
  by_cases c : n.1 = key
  · rw [if_pos c, if_pos (by rw [hf]; exact c), if_pos c]
  · rw [if_neg c, if_neg c, if_neg c]
theorem zAdw_cg {w w' : St} {x of_ num : Nat} {L : List En} (h1 : ∀ k, k < 76 → mad w' x k = mad w x k) (h : zAdw w x of_ num L) : zAdw w' x of_ num L := by
  obtain ⟨⟨x4, x5⟩, nN, ⟨y0, y1⟩, y2, y3, y4, y5⟩ := h
  refine ⟨⟨(h1 0 (by omega)).trans x4, (h1 1 (by omega)).trans x5⟩, nN, ⟨y0, y1⟩, (h1 2 (by omega)).trans y2, (h1 3 (by omega)).trans y3, fun i e hi => ?_, fun k k1 k2 => (h1 k k2).trans (y5 k k1 k2)⟩
  obtain ⟨z1, z2, z3, z4⟩ := y4 i e hi
  have hil := (List.getElem?_eq_some_iff.mp hi).1
  exact ⟨(h1 _ (by omega)).trans z1, (h1 _ (by omega)).trans z2, (h1 _ (by omega)).trans z3, z4⟩
theorem zRmB_cg {w w' : St} {b : Nat} {Ba : Nat → Option Ad} (h1 : ∀ k i, k = 150 ∨ k = 151 → zgA w' k b i = zgA w k b i) (h2 : ∀ x r, r < 16 → x < 2400 → zgA w 150 b r = Int32.ofNat x → ∀ k, k < 76 → mad w' x k = mad w x k) (h : zRmB w b Ba) : zRmB w' b Ba := fun r hr => by
  have := h r hr
  cases e : Ba r with
  | none => rw [e] at this; exact (h1 150 r (by simp)).trans this
  | some a =>
    rw [e] at this
    obtain ⟨x, x1, x2, x3, x4⟩ := this
    exact ⟨x, x1, (h1 150 r (by simp)).trans x2, (h1 151 r (by simp)).trans x3, zAdw_cg (h2 x r hr x1 x2) x4⟩
theorem zRmB_none {w : St} {b r : Nat} {Ba : Nat → Option Ad} (h : zRmB w b Ba) (hr : r < 16) : zgA w 150 b r = -1 ↔ Ba r = none := by
  have := h r hr
  cases e : Ba r with
  | none => rw [e] at this; exact ⟨fun _ => rfl, fun _ => this⟩
  | some a =>
    rw [e] at this
    obtain ⟨x, x1, x2, -⟩ := this
    rw [x2]
    exact ⟨fun y => absurd y (zo_ne1 (by omega)), fun y => by cases y⟩
theorem zRmT_cg {w w' : St} {T : Tp} {b : Nat} {L : List (Nat × Nat × Nat)} (h1 : zgI w' 12 22 b = zgI w 12 22 b) (h2 : ∀ k i, k = 152 ∨ k = 153 ∨ k = 154 → zgA w' k b i = zgA w k b i) (h : zRmT w T b L) : zRmT w' T b L := ⟨h1.trans h.1, fun i e hi => by
  obtain ⟨a1, ⟨p, a2, a3⟩, a4⟩ := h.2 i e hi
  exact ⟨(h2 152 i (by simp)).trans a1, ⟨p, a2, (h2 153 i (by simp)).trans a3⟩, (h2 154 i (by simp)).trans a4⟩⟩
theorem zkeys_ne {H : List Nb} (hp : H.Pairwise (fun a b => a.1 < b.1)) {i j : Nat} {a b : Nb} (hi : H[i]? = some a) (hj : H[j]? = some b) (h : j ≠ i) : b.1 ≠ a.1 := fun q => by
  obtain ⟨l1, g1⟩ := List.getElem?_eq_some_iff.mp hj
  obtain ⟨l2, g2⟩ := List.getElem?_eq_some_iff.mp hi
  have pw := List.pairwise_iff_getElem.mp hp
  rcases Nat.lt_trichotomy j i with c1 | c1 | c1
  · have := pw j i l1 l2 c1
    rw [g1, g2] at this; omega
  · exact h c1
  · have := pw i j l2 l1 c1
    rw [g1, g2] at this; omega
/-- the names are taken over, and what is due there -/
theorem zm_greet49 {w : St} {b i now N : Nat} {H : List Nb} {ids : Nat → Nat} {Ba : Nat → Option Ad} {n : Nb} {nm : Bool} {names : Int32} (h13 : zgI w 12 13 b = Int32.ofNat H.length) (hid : (∀ i, i < 16 → 16 * b ≤ ids i ∧ ids i < 16 * b + 16 ∧ zgQ w 149 b i = some (ids i)) ∧ ∀ i j, i < 16 → j < 16 → ids i = ids j → i = j) (hl : H.length ≤ 16) (hoth : ∀ j m, H[j]? = some m → j ≠ i → zNb w (ids j) m) (hi : H[i]? = some n) (hp : H.Pairwise (fun a b => a.1 < b.1)) (hown : zgI w 15 0 (ids i) = Int32.ofNat (n.1 / 16) ∧ zgI w 15 1 (ids i) = Int32.ofNat (n.1 % 16) ∧ zgI w 15 3 (ids i) = zbi n.2.2.1 ∧ ∀ k, k < 16 → zgA w 162 (ids i) k = zbi (decide (n.2.2.2 k ≠ 0)) ∧ (n.2.2.2 k ≠ 0 → zgA w 163 (ids i) k = Int32.ofNat (n.2.2.2 k))) (hB : zRmB w b Ba) (hnow : zgI w 19 24 0 = Int32.ofNat now) (hn1 : 1 ≤ now) (h24 : zgI w 12 24 b = 0 ∨ zgI w 12 24 b = 1) (h0 : zgI w 12 0 b = Int32.ofNat b) (hbit : (names >>> ((Int32.ofNat b) &&& 31)) &&& (1 : Int32) = 1 ↔ nm = true) (hN : 16 < N) :
    ∃ w', fX19_greeted_49 N 0 b names (some (ids i)) w = some (0, w') ∧ zRmI w' b (hFr (hLast H n.1 now) Ba n.1 nm now) ids ∧ (∀ k j o, ¬ (k = 12 ∧ j = 24 ∧ o = b) → ¬ (k = 15 ∧ o = ids i) → zgI w' k j o = zgI w k j o) ∧ zgI w' 12 24 b = (if n.2.2.1 = nm then zgI w 12 24 b else 1) ∧ (∀ k o j, ¬ ((k = 162 ∨ k = 163) ∧ o = ids i) → zgA w' k o j = zgA w k o j) ∧ (∀ k o j, zgQ w' k o j = zgQ w k o j) ∧ zMr b w w' := by
  have hil := (List.getElem?_eq_some_iff.mp hi).1
  obtain ⟨x1, x2, x3⟩ := hid.1 i (by omega)
  generalize hx : ids i = x at *
  have zbi_inj : ∀ x y : Bool, zbi x = zbi y ↔ x = y := by intro x y; cases x <;> cases y <;> decide
  let t : Int32 := if n.2.2.1 = nm then zgI w 12 24 b else 1
  let w1 : St := zsI (zsI (zsI w 15 2 x (Int32.ofNat now)) 15 3 x (zbi nm)) 12 24 b t
  have I1 : ∀ k j o, zgI w1 k j o = if k = 12 ∧ j = 24 ∧ o = b then t else if k = 15 ∧ j = 3 ∧ o = x then zbi nm else if k = 15 ∧ j = 2 ∧ o = x then Int32.ofNat now else zgI w k j o := fun k j o => by
    show zgI (zsI (zsI (zsI w 15 2 x _) 15 3 x _) 12 24 b t) k j o = _
    rw [zgI_sI, zgI_sI, zgI_sI]
  have K1 : zMr b w w1 := zMr_tr (zMr_I (Or.inr (Or.inl ⟨rfl, x1, x2⟩))) (zMr_tr (zMr_I (Or.inr (Or.inl ⟨rfl, x1, x2⟩))) (zMr_I (Or.inl ⟨rfl, rfl, by omega⟩)))
  have run1 : fX19_greeted_49 N 0 b names (some x) w = fX19_greeted_117 N N 0 b x (zbi n.2.2.1) (0 : Int32) w1 := by
    unfold fX19_greeted_49
    have e0 : zgI (zsI w 15 2 x (Int32.ofNat now)) 12 0 b = Int32.ofNat b := by rw [zgI_sI, if_neg (by omega)]; exact h0
    have s85 : ∀ v : Bool, fX19_greeted_85 N 0 b x (zbi n.2.2.1) x (zbi v) (zsI w 15 2 x (Int32.ofNat now)) = fX19_greeted_117 N N 0 b x (zbi n.2.2.1) (0 : Int32) (zsI (zsI (zsI w 15 2 x (Int32.ofNat now)) 15 3 x (zbi v)) 12 24 b (if n.2.2.1 = v then zgI w 12 24 b else 1)) := fun v => by
      unfold fX19_greeted_85 fX19_greeted_106 fX19_greeted_111
      have q1 : zgI (zsI (zsI w 15 2 x (Int32.ofNat now)) 15 3 x (zbi v)) 12 24 b = zgI w 12 24 b := by rw [zgI_sI, if_neg (by omega), zgI_sI, if_neg (by omega)]
      have q2 : zgI (zsI (zsI w 15 2 x (Int32.ofNat now)) 15 3 x (zbi v)) 15 3 x = zbi v := by rw [zgI_sI, if_pos ⟨rfl, rfl, rfl⟩]
      rw [zq_e (by cases v <;> simp [zbi]), zl_e, q1, q2]
      rcases h24 with h24 | h24
      · rw [h24, if_neg (fun y => y rfl)]
        by_cases c : n.2.2.1 = v
        · rw [if_pos ((zbi_inj _ _).mpr c), zq_e (Or.inl rfl), zl_e, if_pos c]
        · rw [if_neg (fun y => c ((zbi_inj _ _).mp y)), zq_e (Or.inr rfl), zl_e, if_neg c]
      · rw [h24, if_pos (by decide), zq_e (Or.inr rfl), zl_e]
        by_cases c : n.2.2.1 = v
        · rw [if_pos c]
        · rw [if_neg c]
    rw [zd_e, hown.2.2.1, zl_e, hnow, zl_e, e0]
    cases nm with
    | false =>
      rw [if_pos (fun y => by have := hbit.mp y; cases this)]
      exact s85 false
    | true =>
      rw [if_neg (fun y => y (hbit.mpr rfl))]
      exact s85 true
  let v : Nat → Nat := fun k => if nm = true ∧ (Ba k).isSome = true then now else 0
  have B1 : zRmB w1 b Ba := zRmB_cg (fun _ _ _ => rfl) (fun _ _ _ _ _ _ _ => rfl) hB
  have e13 : zgI w1 15 3 x = zbi nm := by rw [I1, if_neg (by omega), if_pos ⟨rfl, rfl, rfl⟩]
  have n1 : zgI w1 19 24 0 = Int32.ofNat now := by rw [I1, if_neg (by omega), if_neg (by omega), if_neg (by omega)]; exact hnow
  have vp : ∀ c : Bool, vp_nar .boolean (zbi c) = zbi c := by intro c; cases c <;> decide
  have loop : ¬ n.2.2.1 = nm → ∀ (m j nn : Nat) (y : St), j + m = 16 → m < nn → (∀ k, k < j → zgA y 162 x k = zbi (decide (v k ≠ 0)) ∧ zgA y 163 x k = Int32.ofNat now) → (∀ k o j, ¬ ((k = 162 ∨ k = 163) ∧ o = x) → zgA y k o j = zgA w1 k o j) → (∀ k j o, zgI y k j o = zgI w1 k j o) → (∀ k o j, zgQ y k o j = zgQ w1 k o j) → zMr b w1 y → ∃ y', fX19_greeted_117 N nn 0 b x (zbi n.2.2.1) (Int32.ofNat j) y = some (0, y') ∧ (∀ k, k < 16 → zgA y' 162 x k = zbi (decide (v k ≠ 0)) ∧ zgA y' 163 x k = Int32.ofNat now) ∧ (∀ k o j, ¬ ((k = 162 ∨ k = 163) ∧ o = x) → zgA y' k o j = zgA w1 k o j) ∧ (∀ k j o, zgI y' k j o = zgI w1 k j o) ∧ (∀ k o j, zgQ y' k o j = zgQ w1 k o j) ∧ zMr b w1 y' := by
    intro hne m
    induction m with
    | zero =>
      intro j nn y hj hn y1 y2 y3 y5 y4
      obtain ⟨nn, rfl⟩ : ∃ k, nn = k + 1 := ⟨nn - 1, by omega⟩
      refine ⟨y, ?_, fun k hk => y1 k (by omega), y2, y3, y5, y4⟩
      show fX19_greeted_117b N (fX19_greeted_117 N nn) 0 b x (zbi n.2.2.1) (Int32.ofNat j) y = _
      unfold fX19_greeted_117b
      rw [if_pos (by rw [show (16 : Int32) = Int32.ofNat 16 from rfl, zo_le (by omega) (by omega)]; omega)]
    | succ m ih =>
      intro j nn y hj hn y1 y2 y3 y5 y4
      obtain ⟨nn, rfl⟩ : ∃ k, nn = k + 1 := ⟨nn - 1, by omega⟩
      obtain ⟨y', s1, s2⟩ := ih (j + 1) nn (zsA (zsA y 162 x j (zbi (decide (v j ≠ 0)))) 163 x j (Int32.ofNat now)) (by omega) (by omega) (fun k hk => by
        rw [zgA_sA, if_neg (by omega), zgA_sA, zgA_sA, zgA_sA]
        by_cases c : k = j
        · rw [if_pos ⟨rfl, rfl, c⟩, if_pos ⟨rfl, rfl, c⟩, c]; exact ⟨rfl, rfl⟩
        · rw [if_neg (fun y => c y.2.2), if_neg (fun y => c y.2.2), if_neg (by omega)]; exact y1 k (by omega)) (fun k o j nn => by rw [zgA_sA, if_neg (fun y => nn ⟨Or.inr y.1, y.2.1⟩), zgA_sA, if_neg (fun y => nn ⟨Or.inl y.1, y.2.1⟩)]; exact y2 k o j nn) y3 y5 (zMr_tr y4 (zMr_tr (zMr_A (Or.inr (Or.inl ⟨Or.inl rfl, x1, x2⟩))) (zMr_A (Or.inr (Or.inl ⟨Or.inr rfl, x1, x2⟩)))))
      refine ⟨y', ?_, s2⟩
      have s165 : ∀ c : Bool, c = decide (v j ≠ 0) → fX19_greeted_165 N (fX19_greeted_117 N nn) 0 b x (zbi n.2.2.1) (Int32.ofNat j) x (Int32.ofNat j) (zbi c) y = some (0, y') := fun c hc => by
        unfold fX19_greeted_165
        have q : zgI (zsA y 162 x j (zbi c)) 19 24 0 = Int32.ofNat now := (y3 19 24 0).trans n1
        rw [zkk (by omega) (by omega), zoC (by omega), vp, zl_e, zkk (by omega) (by omega), q, zl_e, zl_e, zo_i1, hc]
        exact s1
      have hBy : zgA y 150 b j = zgA w1 150 b j := y2 150 b j (by omega)
      have hnone := zRmB_none B1 (show j < 16 by omega)
      show fX19_greeted_117b N (fX19_greeted_117 N nn) 0 b x (zbi n.2.2.1) (Int32.ofNat j) y = _
      unfold fX19_greeted_117b
      rw [if_neg (by rw [show (16 : Int32) = Int32.ofNat 16 from rfl, zo_le (by omega) (by omega)]; omega), y3, e13, if_neg (fun y => hne ((zbi_inj _ _).mp y))]
      cases hnm : nm with
      | false =>
        rw [if_pos (show zbi false = 0 from rfl)]
        unfold fX19_greeted_164
        exact s165 false (by show false = decide ((if nm = true ∧ (Ba j).isSome = true then now else 0) ≠ 0); rw [hnm]; simp)
      | true =>
        rw [if_neg (show ¬ zbi true = 0 by decide), zkk (by omega) (by omega), zoC (by omega), hBy]
        cases hb : Ba j with
        | none =>
          rw [if_pos (hnone.mpr hb)]
          unfold fX19_greeted_164
          exact s165 false (by show false = decide ((if nm = true ∧ (Ba j).isSome = true then now else 0) ≠ 0); rw [hb]; simp)
        | some a =>
          rw [if_neg (fun y => by rw [hnone.mp y] at hb; cases hb)]
          exact s165 true (by show true = decide ((if nm = true ∧ (Ba j).isSome = true then now else 0) ≠ 0); rw [hnm, hb]; simp; omega)
  have others : ∀ {y' : St}, (∀ k o j, ¬ ((k = 162 ∨ k = 163) ∧ o = x) → zgA y' k o j = zgA w1 k o j) → (∀ k j o, zgI y' k j o = zgI w1 k j o) → ∀ j m, H[j]? = some m → j ≠ i → zNb y' (ids j) m := fun {y'} f1 f2 j m hm hne => by
    have hjl := (List.getElem?_eq_some_iff.mp hm).1
    have hxx : ids j ≠ x := fun q => hne (hid.2 j i (by omega) (by omega) (q.trans hx.symm))
    exact zNb_cg (w := w) (fun jj _ => by rw [f2, I1, if_neg (by omega), if_neg (fun y => hxx y.2.2), if_neg (fun y => hxx y.2.2)]) (fun k ii hk => (f1 k _ ii (fun y => hxx y.2)).trans rfl) (hoth j m hm hne)
  have fnl : fn (hLast H n.1 now) n.1 = n.2.2.1 := by
    unfold hLast
    rw [fn_upd (by intro _; rfl) (by intro _; rfl), fn_mem hp (List.mem_of_getElem? hi)]
  have fin : ∀ {y' : St}, (∀ k o j, ¬ ((k = 162 ∨ k = 163) ∧ o = x) → zgA y' k o j = zgA w1 k o j) → (∀ k j o, zgI y' k j o = zgI w1 k j o) → (∀ k o j, zgQ y' k o j = zgQ w1 k o j) → ∀ (f : Nb → Nb), (∀ n, (f n).1 = n.1) → (f n).2.1 = now → (f n).2.2.1 = nm → (∀ k, k < 16 → zgA y' 162 x k = zbi (decide ((f n).2.2.2 k ≠ 0)) ∧ ((f n).2.2.2 k ≠ 0 → zgA y' 163 x k = Int32.ofNat ((f n).2.2.2 k))) → zRmI y' b (hUpd H n.1 f) ids := by
    intro y' f1 f2 f3 f hf e2 e3 e4
    refine ⟨⟨by rw [hUpd_len, f2, I1, if_neg (by omega), if_neg (by omega), if_neg (by omega)]; exact h13, fun j hj => ⟨(hid.1 j hj).1, (hid.1 j hj).2.1, by rw [f3]; exact (hid.1 j hj).2.2⟩, hid.2⟩, by rw [hUpd_len]; exact hl, fun j m hm => ?_⟩
    by_cases c : j = i
    · subst c
      rw [hUpd_get hi] at hm
      have hm := Option.some.inj hm
      rw [← hm, hx]
      refine ⟨?_, ?_, ?_, ?_, e4⟩
      · rw [f2, I1, if_neg (by omega), if_neg (by omega), if_neg (by omega), hf]; exact hown.1
      · rw [f2, I1, if_neg (by omega), if_neg (by omega), if_neg (by omega), hf]; exact hown.2.1
      · rw [f2, I1, if_neg (by omega), if_neg (by omega), if_pos ⟨rfl, rfl, rfl⟩, e2]
      · rw [f2, e13, e3]
    · obtain ⟨m0, hm0, -⟩ := hUpd_at hf hm
      have hkn : ¬ m0.1 = n.1 := zkeys_ne hp hi hm0 c
      unfold hUpd at hm
      rw [List.getElem?_map, hm0] at hm
      have hm : (if m0.1 = n.1 then f m0 else m0) = m := Option.some.inj hm
      rw [if_neg hkn] at hm
      rw [← hm]
      exact others f1 f2 j m0 hm0 c
  by_cases c : n.2.2.1 = nm
  · obtain ⟨N', rfl⟩ : ∃ k, N = k + 1 := ⟨N - 1, by omega⟩
    refine ⟨w1, ?_, ?_, fun k j o a1 a2 => ?_, ?_, fun _ _ _ _ => rfl, fun _ _ _ => rfl, K1⟩
    · rw [run1]
      show fX19_greeted_117b (N' + 1) (fX19_greeted_117 (N' + 1) N') 0 b x (zbi n.2.2.1) (0 : Int32) w1 = _
      unfold fX19_greeted_117b
      rw [if_neg (by decide), e13, if_pos ((zbi_inj _ _).mpr c)]
    · unfold hFr
      rw [fnl, if_pos c]
      exact fin (fun _ _ _ _ => rfl) (fun _ _ _ => rfl) (fun _ _ _ => rfl) (fun n => (n.1, now, n.2.2)) (fun _ => rfl) rfl c hown.2.2.2
    · rw [I1, if_neg (fun y => a1 ⟨y.1, y.2.1, y.2.2⟩), if_neg (fun y => a2 ⟨y.1, y.2.2⟩), if_neg (fun y => a2 ⟨y.1, y.2.2⟩)]
    · rw [I1, if_pos ⟨rfl, rfl, rfl⟩]
  · obtain ⟨y', s1, s2, s3, s4, s5, s6⟩ := loop c 16 0 N w1 rfl hN (fun k hk => by omega) (fun _ _ _ _ => rfl) (fun _ _ _ => rfl) (fun _ _ _ => rfl) (zMr_rf _ _)
    refine ⟨y', run1.trans s1, ?_, fun k j o a1 a2 => ?_, ?_, fun k o j a => (s3 k o j a), fun k o j => s5 k o j, zMr_tr K1 s6⟩
    · unfold hFr
      rw [fnl, if_neg c]
      unfold hLast
      rw [hUpd_hUpd (by intro _; rfl)]
      exact fin s3 s4 s5 _ (fun _ => rfl) rfl rfl (fun k hk => by
        show zgA y' 162 x k = zbi (decide ((if k < 16 then v k else n.2.2.2 k) ≠ 0)) ∧ ((if k < 16 then v k else n.2.2.2 k) ≠ 0 → zgA y' 163 x k = Int32.ofNat (if k < 16 then v k else n.2.2.2 k))
        rw [if_pos hk]
        refine ⟨(s2 k hk).1, fun hv => ?_⟩
        rw [(s2 k hk).2]
        have : v k = now := by
          show (if nm = true ∧ (Ba k).isSome = true then now else 0) = now
          by_cases d : nm = true ∧ (Ba k).isSome = true
          · rw [if_pos d]
          · exact absurd (if_neg d) hv
        rw [this])
    · rw [s4, I1, if_neg (fun y => a1 ⟨y.1, y.2.1, y.2.2⟩), if_neg (fun y => a2 ⟨y.1, y.2.2⟩), if_neg (fun y => a2 ⟨y.1, y.2.2⟩)]
    · rw [s4, I1, if_pos ⟨rfl, rfl, rfl⟩]
theorem zm_greeted {w : St} {T : Tp} {b port rt_ now N : Nat} {H : List Nb} {Ba : Nat → Option Ad} {nm : Bool} {names : Int32} (hT : zTM w T) (hc : zTc T) (hb : b < tb T) (hpt : port < tp T b) (hr : rt_ < 16) (hup : zgI w 18 5 (tq T b port) = 1) (h : zRmN w b H) (hH : zHk H) (hB : zRmB w b Ba) (hnow : zgI w 19 24 0 = Int32.ofNat now) (hn1 : 1 ≤ now) (h24 : zgI w 12 24 b = 0 ∨ zgI w 12 24 b = 1) (hbit : (names >>> ((Int32.ofNat b) &&& 31)) &&& (1 : Int32) = 1 ↔ nm = true) (hN : 16 < N) :
    ∃ w', fX19_greeted N 0 b (Int32.ofNat port) (Int32.ofNat rt_) names w = some (0, w') ∧ zRmN w' b (rGr H Ba (16 * port + rt_) nm now) ∧ (∀ k j o, ¬ (k = 12 ∧ (j = 13 ∨ j = 24) ∧ o = b) → ¬ (k = 15 ∧ 16 * b ≤ o ∧ o < 16 * b + 16) → ¬ (k = 19 ∧ j = 27) → zgI w' k j o = zgI w k j o) ∧ zgI w' 19 27 0 = (if (hAt H (16 * port + rt_)).isSome = false ∧ H.length = 16 then Int32.ofNat now else zgI w 19 27 0) ∧ (zgI w' 12 24 b = 0 ∨ zgI w' 12 24 b = 1) ∧ (zgI w' 12 24 b = zgI w 12 24 b ∨ zgI w' 12 24 b = 1) ∧ ((∀ key, fn (rGr H Ba (16 * port + rt_) nm now) key = fn H key) ∨ zgI w' 12 24 b = 1) ∧ (∀ k o j, ¬ ((k = 162 ∨ k = 163) ∧ 16 * b ≤ o ∧ o < 16 * b + 16) → zgA w' k o j = zgA w k o j) ∧ zMr b w w' := by
  obtain ⟨ids, hI⟩ := h
  have ht6 := tp_le hc hb
  have hb0 := hT.2.1.2 b hb
  have q147 := hb0.2.2.2.2 port hpt
  have nb := zm_neighbour (N := N) hI hH (show port < 6 by omega) hr hN
  have run0 : fX19_greeted N 0 b (Int32.ofNat port) (Int32.ofNat rt_) names w = (zc (fX19_neighbour N b (Int32.ofNat port) (Int32.ofNat rt_) w) fun r5 z6 => zo r5 (if ¬ (zgI z6 12 13 b) = (16 : Int32) then (zc (fX19_newNeighbour N 0 b (Int32.ofNat port) (Int32.ofNat rt_) z6) fun r12 z13 => fX19_greeted_49 N 0 b names r12 z13) else (zc (fX19_stir N 0 z6) fun _ z17 => some (0, z17))) fun a10 => fX19_greeted_49 N 0 b names (some a10) z6) := by
    unfold fX19_greeted
    rw [zkk (by omega) (by omega), zl_e, zoC (by omega), q147, zd_e, hup, if_pos (by decide)]
  generalize hkey : 16 * port + rt_ = key at *
  have fnFr : ∀ H0 : List Nb, fn H0 key = nm → ∀ key', fn (hFr (hLast H0 key now) Ba key nm now) key' = fn H0 key' := fun H0 hf key' => by
    have e : ∀ k, fn (hLast H0 key now) k = fn H0 k := fun k => fn_upd (by intro _; rfl) (by intro _; rfl) H0 k
    unfold hFr
    rw [if_pos (by rw [e]; exact hf), e]
  rw [nb, zc_e] at run0
  cases e : hix H key with
  | some i =>
    obtain ⟨n, n1, n2, n3⟩ := hix_some hH.2.1 e
    have hil := (List.getElem?_eq_some_iff.mp n1).1
    obtain ⟨c0, c1, c2, c3, c4⟩ := hI.2.2 i n n1
    obtain ⟨w', r1, r2, r3, r4, r5, r6, r7⟩ := zm_greet49 (N := N) (Ba := Ba) (nm := nm) (names := names) hI.1.1 hI.1.2 hI.2.1 (fun j m hm _ => hI.2.2 j m hm) n1 hH.2.1 ⟨c0, c1, c3, c4⟩ hB hnow hn1 h24 hb0.2.1 hbit hN
    obtain ⟨x1, x2, -⟩ := hI.1.2.1 i (by have := hI.2.1; omega)
    rw [n2] at r2
    have eG : rGr H Ba key nm now = hFr (hLast H key now) Ba key nm now := by
      unfold rGr; rw [n3, if_pos (show (some n).isSome = true from rfl)]
    have efn : fn H key = n.2.2.1 := by unfold fn; rw [n3]
    rw [e] at run0
    rw [eG]
    refine ⟨w', run0.trans r1, ⟨ids, r2⟩, fun k j o a1 a2 _ => r3 k j o (fun y => a1 ⟨y.1, Or.inr y.2.1, y.2.2⟩) (fun y => a2 ⟨y.1, by omega, by omega⟩), ?_, ?_, ?_, ?_, fun k o j a => r5 k o j (fun y => a ⟨y.1, by omega, by omega⟩), r7⟩
    · rw [n3, if_neg (by simp)]; exact r3 19 27 0 (by omega) (by omega)
    · rw [r4]; split
      · exact h24
      · exact Or.inr rfl
    · rw [r4]; split
      · exact Or.inl rfl
      · exact Or.inr rfl
    · by_cases c : n.2.2.1 = nm
      · exact Or.inl (fnFr H (efn.trans c))
      · right; rw [r4, if_neg c]
  | none =>
    have hno := hix_none.mp e
    have hno' := hAt_none.mp hno
    rw [e] at run0
    have run0 : fX19_greeted N 0 b (Int32.ofNat port) (Int32.ofNat rt_) names w = (if ¬ (zgI w 12 13 b) = (16 : Int32) then (zc (fX19_newNeighbour N 0 b (Int32.ofNat port) (Int32.ofNat rt_) w) fun r12 z13 => fX19_greeted_49 N 0 b names r12 z13) else (zc (fX19_stir N 0 w) fun _ z17 => some (0, z17))) := run0
    have hl16 := hH.2.2
    by_cases c16 : H.length = 16
    · have eG : rGr H Ba key nm now = H := by unfold rGr; rw [hno, if_neg (by simp), if_pos c16]
      rw [hI.1.1, c16, if_neg (by decide)] at run0
      let w' : St := zsI w 19 27 0 (Int32.ofNat now)
      have I' : ∀ k j o, ¬ (k = 19 ∧ j = 27 ∧ o = 0) → zgI w' k j o = zgI w k j o := fun k j o n => by
        show zgI (zsI w 19 27 0 _) k j o = _
        rw [zgI_sI, if_neg n]
      have st : fX19_stir N 0 w = some (0, w') := by
        unfold fX19_stir
        rw [hnow, zl_e]
      rw [eG]
      refine ⟨w', by rw [run0, st, zc_e], ⟨ids, zRmI_cg (I' 12 13 b (by omega)) (fun _ => rfl) (fun x _ _ => ⟨fun j _ => I' 15 j x (by omega), fun _ _ _ => rfl⟩) hI⟩, fun k j o _ _ n => I' k j o (fun y => n ⟨y.1, y.2.1⟩), ?_, ?_, Or.inl (I' 12 24 b (by omega)), Or.inl (fun _ => rfl), fun _ _ _ _ => rfl, zMr_I (Or.inr (Or.inr ⟨rfl, Or.inr rfl⟩))⟩
      · rw [hno, if_pos ⟨rfl, c16⟩]
        show zgI (zsI w 19 27 0 _) 19 27 0 = _
        rw [zgI_sI, if_pos ⟨rfl, rfl, rfl⟩]
      · rw [I' 12 24 b (by omega)]; exact h24
    · rw [hI.1.1, if_pos (by rw [show (16 : Int32) = Int32.ofNat 16 from rfl, zo_eq (by omega) (by omega)]; exact c16)] at run0
      obtain ⟨w1, ids', i, r1, r2, r3, r4, r5, r6, r7, r8, r9⟩ := zm_newNeighbour (N := N) hI hH (by omega) (show port < 6 by omega) hr (by rw [hkey]; exact hno') hN
      rw [hkey] at r4 r5
      rw [r1, zc_e] at run0
      obtain ⟨x1, x2, -⟩ := r3.2.1 i r2
      have B1 : zRmB w1 b Ba := zRmB_cg (fun k i hk => r8 k b i (by omega)) (fun x r _ _ _ k _ => r8 178 0 _ (by omega)) hB
      have e24 : zgI w1 12 24 b = zgI w 12 24 b := r7 12 24 b (by omega) (by omega)
      have k16 : key / 16 = port ∧ key % 16 = rt_ := by omega
      obtain ⟨w', s1, s2, s3, s4, s5, s6, s7⟩ := zm_greet49 (N := N) (H := hIns (key, 0, false, fun _ => 0) H) (Ba := Ba) (nm := nm) (names := names) (w := w1) (ids := ids') (i := i) (by rw [hIns_len]; exact r3.1) r3.2 (by rw [hIns_len]; omega) (fun j m hm hj => (r4 j m hm).1 hj) r5 (hIns_pw hH.2.1 hno') (by
        refine ⟨?_, ?_, ?_, fun k hk => ⟨?_, fun y => absurd rfl y⟩⟩
        · rw [r6.1]; show _ = Int32.ofNat (key / 16); rw [k16.1]
        · rw [r6.2.1]; show _ = Int32.ofNat (key % 16); rw [k16.2]
        · rw [r6.2.2.1]; rfl
        · rw [r6.2.2.2 k hk]; rfl) B1 ((r7 19 24 0 (by omega) (by omega)).trans hnow) hn1 (by rw [e24]; exact h24) ((r7 12 0 b (by omega) (by omega)).trans hb0.2.1) hbit hN
      have eG : rGr H Ba key nm now = hFr (hLast (hIns (key, 0, false, fun _ => 0) H) key now) Ba key nm now := by
        unfold rGr; rw [hno, if_neg (by simp), if_neg c16]
      have fni : ∀ key', fn (hIns (key, 0, false, fun _ => 0) H) key' = fn H key' := fun key' => by
        unfold fn
        rw [hAt_ins (n := ((key, 0, false, fun _ => 0) : Nb)) key' hno']
        by_cases c : key' = key
        · rw [if_pos c, c, hno]
        · rw [if_neg c]
      have fnk : fn (hIns (key, 0, false, fun _ => 0) H) key = false := by
        rw [fni]; unfold fn; rw [hno]
      rw [eG]
      refine ⟨w', run0.trans s1, ⟨ids', s2⟩, fun k j o a1 a2 _ => (s3 k j o (fun y => a1 ⟨y.1, Or.inr y.2.1, y.2.2⟩) (fun y => a2 ⟨y.1, by omega, by omega⟩)).trans (r7 k j o (fun y => a1 ⟨y.1, Or.inl y.2.1, y.2.2⟩) (fun y => a2 ⟨y.1, by omega, by omega⟩)), ?_, ?_, ?_, ?_, fun k o j a => (s5 k o j (fun y => a ⟨y.1, by omega, by omega⟩)).trans (r8 k o j (fun y => a ⟨y.1, by omega, by omega⟩)), zMr_tr r9 s7⟩
      · rw [if_neg (fun y => c16 y.2), s3 19 27 0 (by omega) (by omega), r7 19 27 0 (by omega) (by omega)]
      · rw [s4, e24]; split
        · exact h24
        · exact Or.inr rfl
      · rw [s4, e24]; split
        · exact Or.inl rfl
        · exact Or.inr rfl
      · by_cases c : false = nm
        · exact Or.inl (fun key' => (fnFr _ (fnk.trans c) key').trans (fni key'))
        · right; rw [s4, if_neg c]
