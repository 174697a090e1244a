/-! the model: what a router would tell -/
def zTlM (w : St) (T : Tp) (tl : Nat → Nat) : Prop := ∀ p, tv T p → zgI w 18 4 p = Int32.ofNat (tl p) ∧ 1 ≤ tl p ∧ tl p ≤ 1000
theorem ins3 {L A B : List En} {e : En} (hL : L = A ++ B) (hp : L.Pairwise (fun x y => eMs x < eMs y)) (h1 : ∀ x, x ∈ A → eMs x < eMs e) (h2 : ∀ x, x ∈ B → eMs e < eMs x) : (A ++ e :: B).Pairwise (fun x y => eMs x < eMs y) ∧ (∀ x, x ∈ A ++ e :: B ↔ x = e ∨ x ∈ L) ∧ (A ++ e :: B).length = L.length + 1 := by
  rw [hL] at hp
  obtain ⟨p1, p2, p3⟩ := List.pairwise_append.mp hp
  refine ⟨List.pairwise_append.mpr ⟨p1, List.pairwise_cons.mpr ⟨h2, p2⟩, fun x hx y hy => ?_⟩, fun x => ?_, ?_⟩
  · rcases List.mem_cons.mp hy with q | q
    · rw [q]; exact h1 x hx
    · exact p3 x hx y q
  · rw [hL, List.mem_append, List.mem_cons, List.mem_append]
    constructor
    · rintro (q | q | q)
      · exact Or.inr (Or.inl q)
      · exact Or.inl q
      · exact Or.inr (Or.inr q)
    · rintro (q | q | q)
      · exact Or.inr (Or.inl q)
      · exact Or.inl q
      · exact Or.inr (Or.inr q)
  · rw [hL, List.length_append, List.length_append, List.length_cons]; omega
def zRows (y : St) (a f : Nat) (L : List En) : Prop := ∀ i x, L[i]? = some x → R3 y a (f + i) x
/-- only the text of advert a changes -/
def zAx (a : Nat) (w w' : St) : Prop := (∀ k j o, zgI w' k j o = zgI w k j o) ∧ (∀ k o i, ¬ (k = 178 ∧ o = 0 ∧ 76 * a ≤ i ∧ i < 76 * a + 76) → zgA w' k o i = zgA w k o i) ∧ (∀ k o i, zgL w' k o i = zgL w k o i) ∧ (∀ k o i, zgQ w' k o i = zgQ w k o i) ∧ ∀ k o i, zgR w' k o i = zgR w k o i
theorem zAx_of {a lo hi : Nat} {w w' : St} (hh : hi ≤ 24) (h : zA3 a lo hi w w') : zAx a w w' := ⟨h.1, fun k o i n => h.2.1 k o i (fun q => n ⟨q.1, q.2.1, by omega, by omega⟩), h.2.2⟩
theorem zAx_tr {a : Nat} {x y z : St} (h1 : zAx a x y) (h2 : zAx a y z) : zAx a x z := ⟨fun k j o => (h2.1 k j o).trans (h1.1 k j o), fun k o i n => (h2.2.1 k o i n).trans (h1.2.1 k o i n), fun k o i => (h2.2.2.1 k o i).trans (h1.2.2.1 k o i), fun k o i => (h2.2.2.2.1 k o i).trans (h1.2.2.2.1 k o i), fun k o i => (h2.2.2.2.2 k o i).trans (h1.2.2.2.2 k o i)⟩
theorem zAx_A {a i : Nat} {w : St} {v : Int32} (h : 76 * a ≤ i ∧ i < 76 * a + 76) : zAx a w (zsA w 178 0 i v) := ⟨fun _ _ _ => rfl, fun k o j n => by rw [zgA_sA, if_neg (fun q => n ⟨q.1, q.2.1, by omega, by omega⟩)], fun _ _ _ => rfl, fun _ _ _ => rfl, fun _ _ _ => rfl⟩
theorem zm_wouldTell {w : St} {T : Tp} {E : Ev} {K : Int32 → Int32 → Int32 → Prop} {g : Sg} {X TS TB : List Nat} {tl : Nat → Nat} {b N : Nat} {H : List Nb} {ids : Nat → Nat} (h : zMV w T E g K X TS (zTA w T) TB) (hX : X.length ≤ 40) (hW : ∀ q, tv T q → (gW g q).length ≤ 16) (hTT : TS.length + TB.length ≤ 4000) (hb : b < tb T) (hTl : zTlM w T tl) (hM : zRmI w b H ids) (hH : zHk H) (hup : ∀ j, j < tp T b → zgI w 18 5 (tq T b j) = zbi (eU E (tq T b j / 8))) (hHu : ∀ n, n ∈ H → n.1 / 16 < tp T b ∧ eU E (tq T b (n.1 / 16) / 8) = true) (hN : 76 < N) :
    ∃ w' a, fX19_wouldTell N 0 b w = some (Int32.ofNat a, w') ∧ a < 2400 ∧ a ∉ zTA w T ∧ zMV w' T E g K X TS (a :: zTA w T) TB ∧ zgA w' 179 0 a = 1 ∧ zAdw w' a b 0 (rDr T E tl b (fks H)) ∧ (∀ d D, d ∈ X → zMD w T K d D → zMD w' T K d D) ∧ (∀ k j o, ¬ (k = 19 ∧ j = 11) → zgI w' k j o = zgI w k j o) ∧ (∀ k o i, ¬ (k = 178 ∧ o = 0 ∧ 76 * a ≤ i ∧ i < 76 * a + 76) → ¬ (k = 179 ∧ o = 0 ∧ i = a) → zgA w' k o i = zgA w k o i) ∧ (∀ k o i, zgL w' k o i = zgL w k o i) ∧ (∀ k o i, zgQ w' k o i = zgQ w k o i) ∧ (∀ k o i, zgR w' k o i = zgR w k o i) := by
  have hc := h.2.1
  have hT := h.1
  have hb16 : b < 16 := Nat.lt_of_lt_of_le hb hc.1
  have t6 := tp_le hc hb
  have n24 := hc.2.1
  obtain ⟨-, tI0, -, tI3, tQ⟩ := hT.2.1.2 b hb
  have hl16 := hH.2.2
  obtain ⟨w1, a, r1, r2, r3, r4, r5, r6, r7, r8, r9, r10, r11, r12⟩ := zm_newAd (r := Int32.ofNat b) h hX hW (zTA_len w T) (by have := zTA_len w T; omega) hN
  have vq : ∀ j, j < tp T b → tv T (tq T b j) := fun j hj => tv_q hc hb hj
  have inj : ∀ i j, i < tp T b → j < tp T b → tq T b i / 8 = tq T b j / 8 → i = j := fun i j hi hj => hc.2.2.2.2.2.2.2 b i j hb hi hj
  have res : ∀ (y : St) (L M : List En), zA3 a 0 24 w1 y → zRows y a 0 L → zRows y a L.length M → (∀ k, 4 + 3 * (L.length + M.length) ≤ k → k < 76 → mad y a k = 0) → (∀ x, x ∈ L → x.1 = 0) → (∀ x, x ∈ M → x.1 ≠ 0) → L.length + M.length ≤ 24 → L ++ M = rDr T E tl b (fks H) → ∃ w', some (Int32.ofNat a, zsA (zsA y 178 0 (76 * a + 2) (Int32.ofNat L.length)) 178 0 (76 * a + 3) (Int32.ofNat M.length)) = some (Int32.ofNat a, w') ∧ zAx a w1 w' ∧ zAdw w' a b 0 (rDr T E tl b (fks H)) := fun y L M f1 q1 q2 q3 q4 q5 q6 q7 => by
    let y' : St := zsA (zsA y 178 0 (76 * a + 2) (Int32.ofNat L.length)) 178 0 (76 * a + 3) (Int32.ofNat M.length)
    have my : ∀ k, mad y' a k = if k = 3 then Int32.ofNat M.length else if k = 2 then Int32.ofNat L.length else mad y a k := fun k => by
      show zgA (zsA (zsA y 178 0 (76 * a + 2) _) 178 0 (76 * a + 3) _) 178 0 (76 * a + k) = _
      rw [zgA_sA, zgA_sA]
      by_cases c3 : k = 3
      · rw [if_pos ⟨rfl, rfl, by omega⟩, if_pos c3]
      · rw [if_neg (by omega), if_neg c3]
        by_cases c2 : k = 2
        · rw [if_pos ⟨rfl, rfl, by omega⟩, if_pos c2]
        · rw [if_neg (by omega), if_neg c2]; rfl
    have m1 : ∀ k, k < 4 → mad y a k = if k = 0 then Int32.ofNat b else 0 := fun k hk => (zA3_mad f1 (by omega) (by omega) (Nat.le_refl _)).trans (r6 k (by omega))
    have R' : ∀ r e, R3 y a r e → R3 y' a r e := fun r e hr => ⟨by rw [my, if_neg (by omega), if_neg (by omega)]; exact hr.1, by rw [my, if_neg (by omega), if_neg (by omega)]; exact hr.2.1, by rw [my, if_neg (by omega), if_neg (by omega)]; exact hr.2.2⟩
    refine ⟨y', rfl, zAx_tr (zAx_of (Nat.le_refl _) f1) (zAx_tr (zAx_A (by omega)) (zAx_A (by omega))), ⟨?_, ?_⟩, L.length, ⟨by rw [← q7, List.length_append]; omega, by rw [← q7, List.length_append]; exact q6⟩, ?_, ?_, fun i e hi => ?_, fun k h1 h2 => ?_⟩
    · rw [my, if_neg (by omega), if_neg (by omega), m1 0 (by omega), if_pos rfl]
    · rw [my, if_neg (by omega), if_neg (by omega), m1 1 (by omega), if_neg (by omega)]; rfl
    · rw [my, if_neg (by omega), if_pos rfl]
    · rw [my, if_pos rfl, ← q7, List.length_append, Nat.add_sub_cancel_left]
    · rw [← q7] at hi
      by_cases c : i < L.length
      · rw [List.getElem?_append_left c] at hi
        have := q1 i e hi
        rw [Nat.zero_add] at this
        obtain ⟨x1, x2, x3⟩ := R' _ _ this
        exact ⟨x1, x2, x3, fun _ => c, fun _ => q4 e (List.mem_of_getElem? hi)⟩
      · rw [List.getElem?_append_right (by omega)] at hi
        have := q2 _ e hi
        rw [show L.length + (i - L.length) = i from by omega] at this
        obtain ⟨x1, x2, x3⟩ := R' _ _ this
        exact ⟨x1, x2, x3, fun y => absurd y (q5 e (List.mem_of_getElem? hi)), fun y => absurd y c⟩
    · rw [← q7, List.length_append] at h1
      rw [my, if_neg (by omega), if_neg (by omega)]
      exact q3 k (by omega) h2
  -- friends
  have loop2 : ∀ (L : List En), L = dN T E tl b (tn T) → ∀ (C A : List Nb) (nn : Nat) (y : St) (M : List En), A ++ C = H → C.length < nn → zA3 a 0 24 w1 y → zRows y a 0 L → zRows y a L.length M → (∀ k, 4 + 3 * (L.length + M.length) ≤ k → k < 76 → mad y a k = 0) → M.Pairwise (fun x y => eMs x < eMs y) → (∀ e, e ∈ M ↔ ∃ n, n ∈ A ∧ n.2.2.1 = true ∧ e = (n.1 % 16 + 1, tq T b (n.1 / 16) / 8, tl (tq T b (n.1 / 16)))) → M.length ≤ A.length → ∃ w', fX19_wouldTell_76 N nn 0 b (Int32.ofNat a) (Int32.ofNat L.length) (Int32.ofNat M.length) (Int32.ofNat A.length) y = some (Int32.ofNat a, w') ∧ zAx a w1 w' ∧ zAdw w' a b 0 (rDr T E tl b (fks H)) := by
    intro L hL C
    have l6 : L.length ≤ 6 := by rw [hL]; exact dN_len hc hb (tn T)
    induction C with
    | nil =>
      intro A nn y M e hn f1 q1 q2 q3 q4 q5 q6
      obtain ⟨nn, rfl⟩ : ∃ k, nn = k + 1 := ⟨nn - 1, by omega⟩
      rw [List.append_nil] at e
      subst e
      have eM : M = dF T tl b (fks A) (tn T) := eMs_ext q4 (dF_pw hc hb (fks_pw hH.2.1) _) (fun e => by
        rw [q5, dF_mem]
        constructor
        · rintro ⟨n, n1, n2, n3⟩
          have u := hHu n n1
          have v := vq _ u.1
          refine ⟨tq T b (n.1 / 16) / 8, tq T b (n.1 / 16), n.1, v.1, tpo_of hc hb u.1 rfl, ?_, ((hc.2.2.2.2.2.2.1 b _ hb u.1).2.2).symm, n3⟩
          exact (fks_mem hH.2.1).mpr (by rw [fn_mem hH.2.1 n1]; exact n2)
        · rintro ⟨n, p, x, x1, x2, x3, x4, x5⟩
          obtain ⟨m, m1, m2, m3⟩ := fks_sub x3
          obtain ⟨-, -, -, -, p5⟩ := tpo_some hc hb x2
          refine ⟨m, m1, m3, ?_⟩
          rw [x5, m2, x4, p5])
      obtain ⟨w', s1, s2, s3⟩ := res y L M f1 q1 q2 q3 (fun x hx => by
        rw [hL] at hx
        obtain ⟨n, p, -, -, -, e⟩ := dN_mem.mp hx
        rw [e]) (fun x hx => by
        obtain ⟨n, -, -, e⟩ := (q5 x).mp hx
        rw [e]; exact Nat.succ_ne_zero _) (by omega) (by rw [hL, eM]; rfl)
      refine ⟨w', ?_, s2, s3⟩
      show fX19_wouldTell_76b N (fX19_wouldTell_76 N nn) 0 b (Int32.ofNat a) (Int32.ofNat L.length) (Int32.ofNat M.length) (Int32.ofNat A.length) y = _
      unfold fX19_wouldTell_76b
      have e13 : zgI y 12 13 b = Int32.ofNat A.length := ((f1.1 12 13 b).trans (r8 12 13 b (by omega))).trans hM.1.1
      rw [e13, if_pos (Int32.le_refl _), zmu76, show (2 : Int32) = Int32.ofNat 2 from rfl, show (3 : Int32) = Int32.ofNat 3 from rfl, zo_add, zo_add, zkk (by omega) (by omega), zoC (by omega), zl_e, zkk (by omega) (by omega), zoC (by omega), zl_e]
      exact s1
    | cons n C ih =>
      intro A nn y M e hn f1 q1 q2 q3 q4 q5 q6
      obtain ⟨nn, rfl⟩ : ∃ k, nn = k + 1 := ⟨nn - 1, by omega⟩
      have hlen : A.length < H.length := by rw [← e, List.length_append, List.length_cons]; omega
      have hget : H[A.length]? = some n := by rw [← e, List.getElem?_append_right (Nat.le_refl _), Nat.sub_self]; rfl
      have hnm : n ∈ H := List.mem_of_getElem? hget
      obtain ⟨u1, u2⟩ := hHu n hnm
      have v := vq _ u1
      have n96 := (hH.1 n hnm).1
      obtain ⟨b0, b1, -, b3, -⟩ := hM.2.2 A.length n hget
      have iQ := (hM.1.2.1 A.length (by omega)).2.2
      have I' : ∀ k j o, ¬ (k = 19 ∧ j = 11) → zgI y k j o = zgI w k j o := fun k j o nn' => (f1.1 k j o).trans (r8 k j o nn')
      have e13 : zgI y 12 13 b = Int32.ofNat H.length := (I' 12 13 b (by omega)).trans hM.1.1
      have e149 : zgQ y 149 b A.length = some (ids A.length) := ((f1.2.2.2.1 149 b _).trans (r11 149 b _)).trans iQ
      have e150 : zgI y 15 0 (ids A.length) = Int32.ofNat (n.1 / 16) := (I' 15 0 _ (by omega)).trans b0
      have e151 : zgI y 15 1 (ids A.length) = Int32.ofNat (n.1 % 16) := (I' 15 1 _ (by omega)).trans b1
      have e153 : zgI y 15 3 (ids A.length) = zbi n.2.2.1 := (I' 15 3 _ (by omega)).trans b3
      have e147 : zgQ y 147 b (n.1 / 16) = some (tq T b (n.1 / 16)) := ((f1.2.2.2.1 147 b _).trans (r11 147 b _)).trans (tQ _ u1)
      have e185 : zgI y 18 5 (tq T b (n.1 / 16)) = 1 := ((I' 18 5 _ (by omega)).trans (hup _ u1)).trans (by rw [u2]; rfl)
      have e182 : zgR y 18 2 (tq T b (n.1 / 16)) = some (tq T b (n.1 / 16) / 8) := ((f1.2.2.2.2 18 2 _).trans (r12 18 2 _)).trans (hT.2.2.2 _ v).2.1
      have e160 : zgI y 16 0 (tq T b (n.1 / 16) / 8) = Int32.ofNat (tq T b (n.1 / 16) / 8) := (I' 16 0 _ (by omega)).trans (hT.2.1.1 _ v.1).2.1
      have e184 : zgI y 18 4 (tq T b (n.1 / 16)) = Int32.ofNat (tl (tq T b (n.1 / 16))) := (I' 18 4 _ (by omega)).trans (hTl _ v).1
      have e' : (A ++ [n]) ++ C = H := by rw [List.append_assoc]; exact e
      have step : ∀ (M' : List En) (y' : St), fX19_wouldTell_151 N (fX19_wouldTell_76 N nn) 0 b (Int32.ofNat a) (Int32.ofNat L.length) (Int32.ofNat M'.length) (Int32.ofNat A.length) y' = fX19_wouldTell_76 N nn 0 b (Int32.ofNat a) (Int32.ofNat L.length) (Int32.ofNat M'.length) (Int32.ofNat (A ++ [n]).length) y' := fun M' y' => by
        unfold fX19_wouldTell_151
        rw [zo_i1, zl_e, List.length_append]; rfl
      have start : fX19_wouldTell_76 N (nn + 1) 0 b (Int32.ofNat a) (Int32.ofNat L.length) (Int32.ofNat M.length) (Int32.ofNat A.length) y = (if zbi n.2.2.1 = 0 then (fX19_wouldTell_151 N (fX19_wouldTell_76 N nn) 0 b (Int32.ofNat a) (Int32.ofNat L.length) (Int32.ofNat M.length) (Int32.ofNat A.length) y) else (zc (fX19_insert N 0 (Int32.ofNat a) (Int32.ofNat L.length) (Int32.ofNat M.length) (Int32.ofNat (n.1 % 16)) (Int32.ofNat (tq T b (n.1 / 16) / 8)) (Int32.ofNat (tl (tq T b (n.1 / 16)))) y) fun _ z17 => zl (Int32.ofNat M.length + 1) fun v20 => fX19_wouldTell_151 N (fX19_wouldTell_76 N nn) 0 b (Int32.ofNat a) (Int32.ofNat L.length) v20 (Int32.ofNat A.length) z17)) := by
        show fX19_wouldTell_76b N (fX19_wouldTell_76 N nn) 0 b (Int32.ofNat a) (Int32.ofNat L.length) (Int32.ofNat M.length) (Int32.ofNat A.length) y = _
        unfold fX19_wouldTell_76b
        rw [e13, if_neg (by rw [zo_le (by omega) (by omega)]; omega), zkk (show A.length < 16 by omega) (by omega), zoC (by omega), zl_e, e149, zd_e, e150, zkk (show n.1 / 16 < 6 by omega) (by omega), zoC (by omega), zl_e, e153, e147]
        by_cases c : n.2.2.1 = true
        · rw [c, if_neg (by decide), if_neg (by decide), zd_e, e185, if_neg (by decide), zl_e, e182, zd_e, e151, e160, e184]
        · have c : n.2.2.1 = false := by simpa using c
          rw [c, if_pos (by decide), if_pos (by decide)]
      by_cases c : n.2.2.1 = true
      · let en : En := (n.1 % 16 + 1, tq T b (n.1 / 16) / 8, tl (tq T b (n.1 / 16)))
        have bnd : ∀ x, x ∈ M → x.1 ≤ 16 ∧ x.2.1 < 24 := fun x hx => by
          obtain ⟨m, m1, -, m3⟩ := (q5 x).mp hx
          have um := hHu m (by rw [← e]; exact List.mem_append.mpr (Or.inl m1))
          have := (vq _ um.1).1
          rw [m3]
          exact ⟨show m.1 % 16 + 1 ≤ 16 by omega, show tq T b (m.1 / 16) / 8 < 24 by omega⟩
        have v1 := v.1
        have hmem : ∀ m, m ∈ A → m.1 ≠ n.1 := fun m hm => by
          have hp := hH.2.1
          rw [← e] at hp
          have := (List.pairwise_append.mp hp).2.2 m hm n List.mem_cons_self
          omega
        have dist : ∀ x, x ∈ M → eMs x ≠ eMs en := fun x hx q => by
          obtain ⟨m, m1, -, m3⟩ := (q5 x).mp hx
          have um := hHu m (by rw [← e]; exact List.mem_append.mpr (Or.inl m1))
          rw [m3] at q
          have q : tq T b (m.1 / 16) / 8 * 32 + (m.1 % 16 + 1) = tq T b (n.1 / 16) / 8 * 32 + (n.1 % 16 + 1) := q
          have e1 : tq T b (m.1 / 16) / 8 = tq T b (n.1 / 16) / 8 := by omega
          have e2 := inj _ _ um.1 u1 e1
          exact hmem m m1 (by omega)
        obtain ⟨y', A2, B2, t1, t2, t3, t4, t5, t6⟩ := zm_insert (w := y) (f := L.length) (e := en) (N := N) r2 (by omega) q4 q2 bnd ⟨show n.1 % 16 + 1 ≤ 16 by omega, show tq T b (n.1 / 16) / 8 < 24 by omega⟩ dist (by omega)
        have t1 : fX19_insert N 0 (Int32.ofNat a) (Int32.ofNat L.length) (Int32.ofNat M.length) (Int32.ofNat (n.1 % 16)) (Int32.ofNat (tq T b (n.1 / 16) / 8)) (Int32.ofNat (tl (tq T b (n.1 / 16)))) y = some (0, y') := by
          have s1 : Int32.ofNat (n.1 % 16 + 1) - 1 = Int32.ofNat (n.1 % 16) := zo_s1 (by omega)
          rw [← s1]; exact t1
        obtain ⟨i1, i2, i3⟩ := ins3 t2 q4 t3 t4
        obtain ⟨w', s1, s2, s3⟩ := ih (A ++ [n]) nn y' (A2 ++ en :: B2) e' (by rw [List.length_cons] at hn; omega) (zA3_tr f1 (zA3_w (Nat.zero_le _) (by omega) t6)) (fun i x hx => by
          have hi := (List.getElem?_eq_some_iff.mp hx).1
          exact R3_cg t6 (by omega) (by omega) (by omega) (q1 i x hx)) t5 (fun k k1 k2 => by
          rw [i3] at k1
          rw [zA3_mad t6 k2 (by omega) (by omega)]
          exact q3 k (by omega) k2) i1 (fun x => by
          rw [i2, q5]
          constructor
          · rintro (q | ⟨m, m1, m2, m3⟩)
            · exact ⟨n, by simp, c, q⟩
            · exact ⟨m, List.mem_append.mpr (Or.inl m1), m2, m3⟩
          · rintro ⟨m, m1, m2, m3⟩
            rcases List.mem_append.mp m1 with q | q
            · exact Or.inr ⟨m, q, m2, m3⟩
            · rw [List.mem_singleton.mp q] at m3; exact Or.inl m3) (by rw [i3, List.length_append, List.length_singleton]; omega)
        refine ⟨w', ?_, s2, s3⟩
        rw [start, c, if_neg (by decide), t1, zc_e, zo_i1, zl_e, ← i3, step]
        exact s1
      · have c : n.2.2.1 = false := by simpa using c
        obtain ⟨w', s1, s2, s3⟩ := ih (A ++ [n]) nn y M e' (by rw [List.length_cons] at hn; omega) f1 q1 q2 q3 q4 (fun x => by
          rw [q5]
          constructor
          · rintro ⟨m, m1, m2, m3⟩
            exact ⟨m, List.mem_append.mpr (Or.inl m1), m2, m3⟩
          · rintro ⟨m, m1, m2, m3⟩
            rcases List.mem_append.mp m1 with q | q
            · exact ⟨m, q, m2, m3⟩
            · rw [List.mem_singleton.mp q, c] at m2; cases m2) (by rw [List.length_append, List.length_singleton]; omega)
        refine ⟨w', ?_, s2, s3⟩
        rw [start, c, if_pos (by decide), step]
        exact s1
  -- nets
  have loop1 : ∀ (m i nn : Nat) (y : St) (L : List En), i + m = tp T b → m < nn → zA3 a 0 24 w1 y → zRows y a 0 L → (∀ k, 4 + 3 * L.length ≤ k → k < 76 → mad y a k = 0) → L.Pairwise (fun x y => eMs x < eMs y) → (∀ e, e ∈ L ↔ ∃ j, j < i ∧ eU E (tq T b j / 8) = true ∧ e = (0, tq T b j / 8, tl (tq T b j))) → L.length ≤ i → ∃ w', fX19_wouldTell_14 N nn 0 b (Int32.ofNat a) (Int32.ofNat L.length) (Int32.ofNat i) y = some (Int32.ofNat a, w') ∧ zAx a w1 w' ∧ zAdw w' a b 0 (rDr T E tl b (fks H)) := by
    intro m
    induction m with
    | zero =>
      intro i nn y L hi hn f1 q1 q3 q4 q5 q6
      obtain ⟨nn, rfl⟩ : ∃ k, nn = k + 1 := ⟨nn - 1, by omega⟩
      have : i = tp T b := by omega
      subst this
      have eL : L = dN T E tl b (tn T) := eMs_ext q4 (dN_pw T E tl b _) (fun e => by
        rw [q5, dN_mem]
        constructor
        · rintro ⟨j, j1, j2, j3⟩
          exact ⟨tq T b j / 8, tq T b j, (vq j j1).1, tpo_of hc hb j1 rfl, j2, j3⟩
        · rintro ⟨n, p, n1, n2, n3, n4⟩
          obtain ⟨-, -, p3, p4, p5⟩ := tpo_some hc hb n2
          exact ⟨ti T p, p4, by rw [p5, p3]; exact n3, by rw [p5, p3]; exact n4⟩)
      have q2 : zRows y a L.length [] := fun i x hx => by cases hx
      obtain ⟨w', s1, s2, s3⟩ := loop2 L eL H [] N y [] rfl (by omega) f1 q1 q2 (fun k k1 k2 => q3 k (by simpa using k1) k2) List.Pairwise.nil (fun e => ⟨fun q => (by cases q), fun ⟨n, n1, _⟩ => (by cases n1)⟩) (Nat.le_refl _)
      refine ⟨w', ?_, s2, s3⟩
      show fX19_wouldTell_14b N (fX19_wouldTell_14 N nn) 0 b (Int32.ofNat a) (Int32.ofNat L.length) (Int32.ofNat (tp T b)) y = _
      unfold fX19_wouldTell_14b
      have e3 : zgI y 12 3 b = Int32.ofNat (tp T b) := ((f1.1 12 3 b).trans (r8 12 3 b (by omega))).trans tI3
      rw [e3, if_pos (Int32.le_refl _)]
      exact s1
    | succ m ih =>
      intro i nn y L hi hn f1 q1 q3 q4 q5 q6
      obtain ⟨nn, rfl⟩ : ∃ k, nn = k + 1 := ⟨nn - 1, by omega⟩
      have hi' : i < tp T b := by omega
      have v := vq i hi'
      have v1 := v.1
      have I' : ∀ k j o, ¬ (k = 19 ∧ j = 11) → zgI y k j o = zgI w k j o := fun k j o nn' => (f1.1 k j o).trans (r8 k j o nn')
      have e3 : zgI y 12 3 b = Int32.ofNat (tp T b) := (I' 12 3 b (by omega)).trans tI3
      have e147 : zgQ y 147 b i = some (tq T b i) := ((f1.2.2.2.1 147 b _).trans (r11 147 b _)).trans (tQ _ hi')
      have e185 : zgI y 18 5 (tq T b i) = zbi (eU E (tq T b i / 8)) := (I' 18 5 _ (by omega)).trans (hup _ hi')
      have e182 : zgR y 18 2 (tq T b i) = some (tq T b i / 8) := ((f1.2.2.2.2 18 2 _).trans (r12 18 2 _)).trans (hT.2.2.2 _ v).2.1
      have e160 : zgI y 16 0 (tq T b i / 8) = Int32.ofNat (tq T b i / 8) := (I' 16 0 _ (by omega)).trans (hT.2.1.1 _ v.1).2.1
      have e184 : zgI y 18 4 (tq T b i) = Int32.ofNat (tl (tq T b i)) := (I' 18 4 _ (by omega)).trans (hTl _ v).1
      have step : ∀ (x : Int32) (y' : St), fX19_wouldTell_64 N (fX19_wouldTell_14 N nn) 0 b (Int32.ofNat a) x (Int32.ofNat i) y' = fX19_wouldTell_14 N nn 0 b (Int32.ofNat a) x (Int32.ofNat (i + 1)) y' := fun x y' => by
        unfold fX19_wouldTell_64
        rw [zo_i1, zl_e]
      have start : fX19_wouldTell_14 N (nn + 1) 0 b (Int32.ofNat a) (Int32.ofNat L.length) (Int32.ofNat i) y = (if zbi (eU E (tq T b i / 8)) = 0 then (fX19_wouldTell_64 N (fX19_wouldTell_14 N nn) 0 b (Int32.ofNat a) (Int32.ofNat L.length) (Int32.ofNat i) y) else (zc (fX19_insert N 0 (Int32.ofNat a) (0 : Int32) (Int32.ofNat L.length) (-1 : Int32) (Int32.ofNat (tq T b i / 8)) (Int32.ofNat (tl (tq T b i))) y) fun _ z9 => zl (Int32.ofNat L.length + 1) fun v12 => fX19_wouldTell_64 N (fX19_wouldTell_14 N nn) 0 b (Int32.ofNat a) v12 (Int32.ofNat i) z9)) := by
        show fX19_wouldTell_14b N (fX19_wouldTell_14 N nn) 0 b (Int32.ofNat a) (Int32.ofNat L.length) (Int32.ofNat i) y = _
        unfold fX19_wouldTell_14b
        rw [e3, if_neg (by rw [zo_le (by omega) (by omega)]; omega), zkk (show i < 6 by omega) (by omega), zoC (by omega), zl_e, e147, zd_e, e185]
        by_cases c : eU E (tq T b i / 8) = true
        · rw [c, if_neg (by decide), if_neg (by decide), zl_e, e182, zd_e, e160, e184]
        · have c : eU E (tq T b i / 8) = false := by simpa using c
          rw [c, if_pos (by decide), if_pos (by decide)]
      by_cases c : eU E (tq T b i / 8) = true
      · let en : En := (0, tq T b i / 8, tl (tq T b i))
        have bnd : ∀ x, x ∈ L → x.1 ≤ 16 ∧ x.2.1 < 24 := fun x hx => by
          obtain ⟨j, j1, -, j3⟩ := (q5 x).mp hx
          have := (vq j (by omega)).1
          rw [j3]
          exact ⟨Nat.zero_le _, show tq T b j / 8 < 24 by omega⟩
        have dist : ∀ x, x ∈ L → eMs x ≠ eMs en := fun x hx q => by
          obtain ⟨j, j1, -, j3⟩ := (q5 x).mp hx
          rw [j3] at q
          have q : tq T b j / 8 * 32 + 0 = tq T b i / 8 * 32 + 0 := q
          have := inj j i (by omega) hi' (by omega)
          omega
        obtain ⟨y', A2, B2, t1, t2, t3, t4, t5, t6⟩ := zm_insert (w := y) (f := 0) (e := en) (N := N) r2 (by omega) q4 q1 bnd ⟨Nat.zero_le _, show tq T b i / 8 < 24 by omega⟩ dist (by omega)
        have t1 : fX19_insert N 0 (Int32.ofNat a) (0 : Int32) (Int32.ofNat L.length) (-1 : Int32) (Int32.ofNat (tq T b i / 8)) (Int32.ofNat (tl (tq T b i))) y = some (0, y') := by
          have s1 : Int32.ofNat 0 - 1 = (-1 : Int32) := by decide
          rw [← s1]; exact t1
        obtain ⟨i1, i2, i3⟩ := ins3 t2 q4 t3 t4
        obtain ⟨w', s1, s2, s3⟩ := ih (i + 1) nn y' (A2 ++ en :: B2) (by omega) (by omega) (zA3_tr f1 (zA3_w (Nat.le_refl _) (by omega) t6)) t5 (fun k k1 k2 => by
          rw [i3] at k1
          rw [zA3_mad t6 k2 (by omega) (by omega)]
          exact q3 k (by omega) k2) i1 (fun x => by
          rw [i2, q5]
          constructor
          · rintro (q | ⟨j, j1, j2, j3⟩)
            · exact ⟨i, by omega, c, q⟩
            · exact ⟨j, by omega, j2, j3⟩
          · rintro ⟨j, j1, j2, j3⟩
            by_cases cj : j = i
            · rw [cj] at j3; exact Or.inl j3
            · exact Or.inr ⟨j, by omega, j2, j3⟩) (by rw [i3]; omega)
        refine ⟨w', ?_, s2, s3⟩
        rw [start, c, if_neg (by decide), t1, zc_e, zo_i1, zl_e, ← i3, step]
        exact s1
      · have c : eU E (tq T b i / 8) = false := by simpa using c
        obtain ⟨w', s1, s2, s3⟩ := ih (i + 1) nn y L (by omega) (by omega) f1 q1 q3 q4 (fun x => by
          rw [q5]
          constructor
          · rintro ⟨j, j1, j2, j3⟩
            exact ⟨j, by omega, j2, j3⟩
          · rintro ⟨j, j1, j2, j3⟩
            by_cases cj : j = i
            · rw [cj, c] at j2; cases j2
            · exact ⟨j, by omega, j2, j3⟩) (by omega)
        refine ⟨w', ?_, s2, s3⟩
        rw [start, c, if_pos (by decide), step]
        exact s1
  obtain ⟨w', s1, s2, s3⟩ := loop1 (tp T b) 0 N w1 [] (by omega) (by omega) (zA3_rf _ _ _ _) (fun i x hx => by cases hx) (fun k k1 k2 => by
    rw [r6 k k2, if_neg (by rw [List.length_nil] at k1; omega)]) List.Pairwise.nil (fun e => ⟨fun q => (by cases q), fun ⟨j, j1, _⟩ => absurd j1 (by omega)⟩) (Nat.le_refl _)
  obtain ⟨m1, -, m3⟩ := zm_setAd (w' := w') r4 r5 r2 s2.2.1 s2.1 s2.2.2.1 s2.2.2.2.1 s2.2.2.2.2
  refine ⟨w', a, ?_, r2, r3, m1, (s2.2.1 179 0 a (by omega)).trans r5, s3, fun d D hd hD => m3 d D hd (r7 d D hd hD), fun k j o n => (s2.1 k j o).trans (r8 k j o n), fun k o i n1 n2 => (s2.2.1 k o i n1).trans (r9 k o i n1 n2), fun k o i => (s2.2.2.1 k o i).trans (r10 k o i), fun k o i => (s2.2.2.2.1 k o i).trans (r11 k o i), fun k o i => (s2.2.2.2.2 k o i).trans (r12 k o i)⟩
  unfold fX19_wouldTell
  rw [tI0, r1, zc_e]
  exact s1
