noncomputable def fLaw_one (N : Nat) (sc : Nat → Int32) (S : St × List (Nat × Nat) × Nat × Nat) : Option (St × List (Nat × Nat) × Nat × Nat) := if (sc 0 &&& (31 : Int32)) = (0 : Int32) then (fLaw_0 N sc S.2.1 S.2.2.1 S.2.2.2 S.1) else if (sc 0 &&& (31 : Int32)) = (1 : Int32) then (fLaw_1 N sc S.2.1 S.2.2.1 S.2.2.2 S.1) else if (sc 0 &&& (31 : Int32)) = (2 : Int32) then (fLaw_2 N sc S.2.1 S.2.2.1 S.2.2.2 S.1) else if (sc 0 &&& (31 : Int32)) = (3 : Int32) then (fLaw_3 N sc S.2.1 S.2.2.1 S.2.2.2 S.1) else if (sc 0 &&& (31 : Int32)) = (4 : Int32) then (fLaw_4 N sc S.2.1 S.2.2.1 S.2.2.2 S.1) else if (sc 0 &&& (31 : Int32)) = (5 : Int32) then (fLaw_5 N sc S.2.1 S.2.2.1 S.2.2.2 S.1) else if (sc 0 &&& (31 : Int32)) = (6 : Int32) then (fLaw_6 N sc S.2.1 S.2.2.1 S.2.2.2 S.1) else if (sc 0 &&& (31 : Int32)) = (7 : Int32) then (fLaw_7 N sc S.2.1 S.2.2.1 S.2.2.2 S.1) else if (sc 0 &&& (31 : Int32)) = (8 : Int32) then (fLaw_8 N sc S.2.1 S.2.2.1 S.2.2.2 S.1) else if (sc 0 &&& (31 : Int32)) = (9 : Int32) then (fLaw_9 N sc S.2.1 S.2.2.1 S.2.2.2 S.1) else if (sc 0 &&& (31 : Int32)) = (10 : Int32) then (fLaw_10 N sc S.2.1 S.2.2.1 S.2.2.2 S.1) else if (sc 0 &&& (31 : Int32)) = (11 : Int32) then (fLaw_11 N sc S.2.1 S.2.2.1 S.2.2.2 S.1) else if (sc 0 &&& (31 : Int32)) = (12 : Int32) then (fLaw_12 N sc S.2.1 S.2.2.1 S.2.2.2 S.1) else if (sc 0 &&& (31 : Int32)) = (13 : Int32) then (fLaw_13 N sc S.2.1 S.2.2.1 S.2.2.2 S.1) else if (sc 0 &&& (31 : Int32)) = (14 : Int32) then (fLaw_14 N sc S.2.1 S.2.2.1 S.2.2.2 S.1) else if (sc 0 &&& (31 : Int32)) = (15 : Int32) then (fLaw_15 N sc S.2.1 S.2.2.1 S.2.2.2 S.1) else if (sc 0 &&& (31 : Int32)) = (16 : Int32) then (fLaw_16 N sc S.2.1 S.2.2.1 S.2.2.2 S.1) else if (sc 0 &&& (31 : Int32)) = (17 : Int32) then (fLaw_17 N sc S.2.1 S.2.2.1 S.2.2.2 S.1) else if (sc 0 &&& (31 : Int32)) = (18 : Int32) then (fLaw_18 N sc S.2.1 S.2.2.1 S.2.2.2 S.1) else if (sc 0 &&& (31 : Int32)) = (19 : Int32) then (fLaw_19 N sc S.2.1 S.2.2.1 S.2.2.2 S.1) else if (sc 0 &&& (31 : Int32)) = (20 : Int32) then (fLaw_20 N sc S.2.1 S.2.2.1 S.2.2.2 S.1) else if (sc 0 &&& (31 : Int32)) = (21 : Int32) then (fLaw_21 N sc S.2.1 S.2.2.1 S.2.2.2 S.1) else if (sc 0 &&& (31 : Int32)) = (22 : Int32) then (fLaw_22 N sc S.2.1 S.2.2.1 S.2.2.2 S.1) else if (sc 0 &&& (31 : Int32)) = (23 : Int32) then (fLaw_23 N sc S.2.1 S.2.2.1 S.2.2.2 S.1) else if (sc 0 &&& (31 : Int32)) = (24 : Int32) then (fLaw_24 N sc S.2.1 S.2.2.1 S.2.2.2 S.1) else if (sc 0 &&& (31 : Int32)) = (25 : Int32) then (fLaw_25 N sc S.2.1 S.2.2.1 S.2.2.2 S.1) else if (sc 0 &&& (31 : Int32)) = (26 : Int32) then (fLaw_26 N sc S.2.1 S.2.2.1 S.2.2.2 S.1) else if (sc 0 &&& (31 : Int32)) = (27 : Int32) then (fLaw_27 N sc S.2.1 S.2.2.1 S.2.2.2 S.1) else if (sc 0 &&& (31 : Int32)) = (28 : Int32) then (fLaw_28 N sc S.2.1 S.2.2.1 S.2.2.2 S.1) else (some S)
noncomputable def fLaw (N : Nat) (xs : Nat → Int32) : Nat → Nat → St × List (Nat × Nat) × Nat × Nat → Option (St × List (Nat × Nat) × Nat × Nat)
  | 0, _, S => some S
  | n + 1, k, S => zd (fLaw_one N (fun j => xs (6 * k + j)) S) (fLaw N xs n (k + 1))
theorem zsw0_28 {x : Int32} (c0 : ¬ x = (0 : Int32)) (c1 : ¬ x = (1 : Int32)) (c2 : ¬ x = (2 : Int32)) (c3 : ¬ x = (3 : Int32)) (c4 : ¬ x = (4 : Int32)) (c5 : ¬ x = (5 : Int32)) (c6 : ¬ x = (6 : Int32)) (c7 : ¬ x = (7 : Int32)) (c8 : ¬ x = (8 : Int32)) (c9 : ¬ x = (9 : Int32)) (c10 : ¬ x = (10 : Int32)) (c11 : ¬ x = (11 : Int32)) (c12 : ¬ x = (12 : Int32)) (c13 : ¬ x = (13 : Int32)) (c14 : ¬ x = (14 : Int32)) (c15 : ¬ x = (15 : Int32)) (c16 : ¬ x = (16 : Int32)) (c17 : ¬ x = (17 : Int32)) (c18 : ¬ x = (18 : Int32)) (c19 : ¬ x = (19 : Int32)) (c20 : ¬ x = (20 : Int32)) (c21 : ¬ x = (21 : Int32)) (c22 : ¬ x = (22 : Int32)) (c23 : ¬ x = (23 : Int32)) (c24 : ¬ x = (24 : Int32)) (c25 : ¬ x = (25 : Int32)) (c26 : ¬ x = (26 : Int32)) (c27 : ¬ x = (27 : Int32)) (c28 : ¬ x = (28 : Int32)) : x.toInt < 0 ∨ 28 < x.toInt := by
  have h0 := zti_ne (n := 0) (by decide) c0
  have h1 := zti_ne (n := 1) (by decide) c1
  have h2 := zti_ne (n := 2) (by decide) c2
  have h3 := zti_ne (n := 3) (by decide) c3
  have h4 := zti_ne (n := 4) (by decide) c4
  have h5 := zti_ne (n := 5) (by decide) c5
  have h6 := zti_ne (n := 6) (by decide) c6
  have h7 := zti_ne (n := 7) (by decide) c7
  have h8 := zti_ne (n := 8) (by decide) c8
  have h9 := zti_ne (n := 9) (by decide) c9
  have h10 := zti_ne (n := 10) (by decide) c10
  have h11 := zti_ne (n := 11) (by decide) c11
  have h12 := zti_ne (n := 12) (by decide) c12
  have h13 := zti_ne (n := 13) (by decide) c13
  have h14 := zti_ne (n := 14) (by decide) c14
  have h15 := zti_ne (n := 15) (by decide) c15
  have h16 := zti_ne (n := 16) (by decide) c16
  have h17 := zti_ne (n := 17) (by decide) c17
  have h18 := zti_ne (n := 18) (by decide) c18
  have h19 := zti_ne (n := 19) (by decide) c19
  have h20 := zti_ne (n := 20) (by decide) c20
  have h21 := zti_ne (n := 21) (by decide) c21
  have h22 := zti_ne (n := 22) (by decide) c22
  have h23 := zti_ne (n := 23) (by decide) c23
  have h24 := zti_ne (n := 24) (by decide) c24
  have h25 := zti_ne (n := 25) (by decide) c25
  have h26 := zti_ne (n := 26) (by decide) c26
  have h27 := zti_ne (n := 27) (by decide) c27
  have h28 := zti_ne (n := 28) (by decide) c28
  omega
theorem zL_sub {L : Nat} (h : 6 ≤ L) : Int32.ofNat L - 6 = nI (L - 6) := by
  have e : Int32.ofNat L = nI (L - 6) + 6 := by
    show nI L = nI (L - 6) + nI 6
    rw [nI_add]
    congr 1
    omega
  rw [e]
  exact Int32.add_sub_cancel _ _
theorem zL_go {L k : Nat} (hL : L ≤ 3072) (h : k < L / 6) : ¬ Int32.ofNat L - 6 < Int32.ofNat (6 * k) := by
  rw [zL_sub (by omega)]
  exact nI_nlt (a := L - 6) (b := 6 * k) (by omega) (by omega)
theorem zL_stop {L : Nat} (hL : L ≤ 3072) : Int32.ofNat L - 6 < Int32.ofNat (6 * (L / 6)) := by
  rcases Nat.lt_or_ge L 6 with h | h
  · have h0 : L / 6 = 0 := by omega
    rw [h0]
    match L, h with
    | 0, _ => decide
    | 1, _ => decide
    | 2, _ => decide
    | 3, _ => decide
    | 4, _ => decide
    | 5, _ => decide
    | n + 6, h => omega
  · rw [zL_sub h]
    exact nI_lt (a := L - 6) (b := 6 * (L / 6)) (by omega) (by omega)
theorem zL_at {L k j : Nat} (hL : L ≤ 3072) (h : k < L / 6) (hj : j < 6) {xs : Nat → Int32} {x : Int32} (hx : x = nI (6 * k + j)) : vp_in x L ∧ xs (Int32.toNatClampNeg x) = xs (6 * k + j) := by
  subst hx
  exact ⟨nI_in (by omega) (by omega), by rw [nI_clamp (by omega)]⟩
section SLOOP
variable {p : Program} {l : Launch} {e : Env} {s : State} {m : MethodId} {below : List Frame} {meth : Method} {c : Code} {D : va_G} {cy : Nat → ClassId} {B : Nat → Nat → Nat} {ids : List (Nat × Nat)} {A : Nat → Prop} {b L : Nat} {xs : Nat → Int32}
set_option maxHeartbeats 8000000 in
set_option maxRecDepth 100000 in
theorem lLaw (hA : ∀ q : Nat, s.heap.size ≤ q → A q) (hlf : l.stackTraces = false) (hXK : zXK A s s.heap) (hLK : zLK s) (hAO : zAO s) (hX : va_X b L xs s s.heap) (hbl : b < s.heap.size) (hbA : ¬ A b) (hL : L ≤ 3072) {Q : State → Prop} {N : Nat} {S' : St × List (Nat × Nat) × Nat × Nat}
    (fin : ∀ (H : Heap) (locs : List Loc) (ls : Array Slot) (cc ss : Nat), cc ≤ room_1.cells ∧ ss ≤ room_1.slots → (∀ q ∈ locs, A q.base) → W p l e room_1 s m #[.ref b] below meth c H locs cc ss Q (F0 m 2085 ls [])) : ∀ (n k : Nat) {B : Nat → Nat → Nat} {z : St} {ids : List (Nat × Nat)} {cc ss : Nat} (_ : zSt B ids) (_ : zI9 ids) (_ : zFx p m c cL_law 7 s #[.ref b] RL D cy B ids A) (_ : (11, 0) ∈ ids) (_ : (19, 0) ∈ ids) (_ : (193, 0) ∈ ids) (_ : cc ≤ room_1.cells ∧ ss ≤ room_1.slots) (_ : n + k = L / 6) {H : Heap} {locs : List Loc} {ls : Array Slot} (_ : zRep D cy B ids A s.heap z H locs) (_ : lv_has ls 7 [(0, .ref b), (1, .ref (B 11 0)), (2, .ref (B 19 0)), (3, .ref (B 193 0)), (4, .int (Int32.ofNat (6 * k)))]) (_ : fLaw N xs n k (z, ids, cc, ss) = some S'), W p l e room_1 s m #[.ref b] below meth c H locs cc ss Q (F0 m 23 ls []) := by
  intro n
  induction n with
  | zero =>
    intro k B z ids cc ss hst h9 F h11 h19 h193 hcs hnk H locs ls hr hl h
    have hk : k = L / 6 := by omega
    subst hk
    refine lv_iload F.1 F.2.1 dL_law_23 (lv_at hl 4 rfl) ?_
    refine lv_aload_n F.1 F.2.1 dL_law_25 rfl (lv_at hl 0 rfl) ?_
    refine va_slen F.1 F.2.1 hX hbl hbA hr.2.1 dL_law_26 ?_
    refine lv_bipush (v := (6 : Int32)) F.1 F.2.1 dL_law_27 (by decide) ?_
    refine lv_isub F.1 F.2.1 dL_law_29 ?_
    refine lv_icmp_gt (tgt := 2085) F.1 F.2.1 dL_law_30 (by decide) (fun _ => ?_) (fun hc => absurd (zL_stop hL) hc)
    exact fin H locs ls cc ss hcs hr.2.1.2.2
  | succ n ih =>
    intro k B z ids cc ss hst h9 F h11 h19 h193 hcs hnk H locs ls hr hl h
    have hk : k < L / 6 := by omega
    have h := zd_some h
    obtain ⟨S1, h1, h2⟩ := h
    obtain ⟨z1, I1, c1, s1⟩ := S1
    have h0 := zL_at (xs := xs) (j := 0) hL hk (by decide) (x := Int32.ofNat (6 * k)) rfl
    have a1 := zL_at (xs := xs) (j := 1) hL hk (by decide) (x := Int32.ofNat (6 * k) + (1 : Int32)) (nI_add (6 * k) 1)
    have a2 := zL_at (xs := xs) (j := 2) hL hk (by decide) (x := Int32.ofNat (6 * k) + (2 : Int32)) (nI_add (6 * k) 2)
    have a3 := zL_at (xs := xs) (j := 3) hL hk (by decide) (x := Int32.ofNat (6 * k) + (3 : Int32)) (nI_add (6 * k) 3)
    have a4 := zL_at (xs := xs) (j := 4) hL hk (by decide) (x := Int32.ofNat (6 * k) + (4 : Int32)) (nI_add (6 * k) 4)
    have a5 := zL_at (xs := xs) (j := 5) hL hk (by decide) (x := Int32.ofNat (6 * k) + (5 : Int32)) (nI_add (6 * k) 5)
    have K : ∀ (B1 : Nat → Nat → Nat) (H : Heap) (locs : List Loc) (ls : Array Slot), zSt B1 I1 → zI9 I1 → zFx p m c cL_law 7 s #[.ref b] RL D cy B1 I1 A → (11, 0) ∈ I1 → (19, 0) ∈ I1 → (193, 0) ∈ I1 → c1 ≤ room_1.cells ∧ s1 ≤ room_1.slots → zRep D cy B1 I1 A s.heap z1 H locs → lv_has ls 7 [(0, .ref b), (1, .ref (B1 11 0)), (2, .ref (B1 19 0)), (3, .ref (B1 193 0)), (4, .int (Int32.ofNat (6 * k)))] → W p l e room_1 s m #[.ref b] below meth c H locs c1 s1 Q (F0 m 2079 ls []) := by
      intro B1 H locs ls hst h9 F h11 h19 h193 hcs hr hl
      refine lv_iinc (v := Int32.ofNat (6 * (k + 1))) (lv' := [(4, .int (Int32.ofNat (6 * (k + 1)))), (0, .ref b), (1, .ref (B1 11 0)), (2, .ref (B1 19 0)), (3, .ref (B1 193 0))]) F.1 F.2.1 dL_law_2079 hl (k := 4) rfl (show nI (6 * k) + nI 6 = nI (6 * (k + 1)) from nI_add (6 * k) 6) (by decide) rfl (fun ls hl => ?_)
      refine lv_goto (tgt := 23) F.1 F.2.1 dL_law_2082 (by decide) ?_
      exact ih (k + 1) hst h9 F h11 h19 h193 hcs (by omega) hr (lv_sub hl [1, 2, 3, 4, 0] rfl) h2
    refine lv_iload F.1 F.2.1 dL_law_23 (lv_at hl 4 rfl) ?_
    refine lv_aload_n F.1 F.2.1 dL_law_25 rfl (lv_at hl 0 rfl) ?_
    refine va_slen F.1 F.2.1 hX hbl hbA hr.2.1 dL_law_26 ?_
    refine lv_bipush (v := (6 : Int32)) F.1 F.2.1 dL_law_27 (by decide) ?_
    refine lv_isub F.1 F.2.1 dL_law_29 ?_
    refine lv_icmp_gt (tgt := 2085) F.1 F.2.1 dL_law_30 (by decide) (fun hc => absurd hc (zL_go hL hk)) (fun _ => ?_)
    refine lv_aload_n F.1 F.2.1 dL_law_33 rfl (lv_at hl 0 rfl) ?_
    refine lv_iload F.1 F.2.1 dL_law_34 (lv_at hl 4 rfl) ?_
    refine va_sld F.1 F.2.1 hX hbl hbA hr.2.1 h0.1 dL_law_36 ?_
    rw [h0.2]
    refine lv_bipush (v := (31 : Int32)) F.1 F.2.1 dL_law_37 (by decide) ?_
    refine lv_iand F.1 F.2.1 dL_law_39 ?_
    unfold fLaw_one at h1
    generalize hv : xs (6 * k + 0) &&& (31 : Int32) = v at h1 ⊢
    by_cases e0 : v = (0 : Int32)
    · replace h1 := zi_t e0 h1
      refine lv_tableIn (tgt := 172) F.1 F.2.1 dL_law_40 (by rw [e0]; decide) (by rw [e0]; decide) (by rw [e0]; rfl) (by decide) ?_
      exact cLaw_0 hst h9 F hA hlf hXK hLK hAO hX hbl hbA h11 h19 h193 (sc := fun j => xs (6 * k + j)) h0.1 h0.2 a1.1 a1.2 a2.1 a2.2 a3.1 a3.2 a4.1 a4.2 a5.1 a5.2 hcs hr hl K h1
    replace h1 := zi_f e0 h1
    by_cases e1 : v = (1 : Int32)
    · replace h1 := zi_t e1 h1
      refine lv_tableIn (tgt := 244) F.1 F.2.1 dL_law_40 (by rw [e1]; decide) (by rw [e1]; decide) (by rw [e1]; rfl) (by decide) ?_
      exact cLaw_1 hst h9 F hA hlf hXK hLK hAO hX hbl hbA h11 h19 h193 (sc := fun j => xs (6 * k + j)) h0.1 h0.2 a1.1 a1.2 a2.1 a2.2 a3.1 a3.2 a4.1 a4.2 a5.1 a5.2 hcs hr hl K h1
    replace h1 := zi_f e1 h1
    by_cases e2 : v = (2 : Int32)
    · replace h1 := zi_t e2 h1
      refine lv_tableIn (tgt := 312) F.1 F.2.1 dL_law_40 (by rw [e2]; decide) (by rw [e2]; decide) (by rw [e2]; rfl) (by decide) ?_
      exact cLaw_2 hst h9 F hA hlf hXK hLK hAO hX hbl hbA h11 h19 h193 (sc := fun j => xs (6 * k + j)) h0.1 h0.2 a1.1 a1.2 a2.1 a2.2 a3.1 a3.2 a4.1 a4.2 a5.1 a5.2 hcs hr hl K h1
    replace h1 := zi_f e2 h1
    by_cases e3 : v = (3 : Int32)
    · replace h1 := zi_t e3 h1
      refine lv_tableIn (tgt := 380) F.1 F.2.1 dL_law_40 (by rw [e3]; decide) (by rw [e3]; decide) (by rw [e3]; rfl) (by decide) ?_
      exact cLaw_3 hst h9 F hA hlf hXK hLK hAO hX hbl hbA h11 h19 h193 (sc := fun j => xs (6 * k + j)) h0.1 h0.2 a1.1 a1.2 a2.1 a2.2 a3.1 a3.2 a4.1 a4.2 a5.1 a5.2 hcs hr hl K h1
    replace h1 := zi_f e3 h1
    by_cases e4 : v = (4 : Int32)
    · replace h1 := zi_t e4 h1
      refine lv_tableIn (tgt := 460) F.1 F.2.1 dL_law_40 (by rw [e4]; decide) (by rw [e4]; decide) (by rw [e4]; rfl) (by decide) ?_
      exact cLaw_4 hst h9 F hA hlf hXK hLK hAO hX hbl hbA h11 h19 h193 (sc := fun j => xs (6 * k + j)) h0.1 h0.2 a1.1 a1.2 a2.1 a2.2 a3.1 a3.2 a4.1 a4.2 a5.1 a5.2 hcs hr hl K h1
    replace h1 := zi_f e4 h1
    by_cases e5 : v = (5 : Int32)
    · replace h1 := zi_t e5 h1
      refine lv_tableIn (tgt := 551) F.1 F.2.1 dL_law_40 (by rw [e5]; decide) (by rw [e5]; decide) (by rw [e5]; rfl) (by decide) ?_
      exact cLaw_5 hst h9 F hA hlf hXK hLK hAO hX hbl hbA h11 h19 h193 (sc := fun j => xs (6 * k + j)) h0.1 h0.2 a1.1 a1.2 a2.1 a2.2 a3.1 a3.2 a4.1 a4.2 a5.1 a5.2 hcs hr hl K h1
    replace h1 := zi_f e5 h1
    by_cases e6 : v = (6 : Int32)
    · replace h1 := zi_t e6 h1
      refine lv_tableIn (tgt := 663) F.1 F.2.1 dL_law_40 (by rw [e6]; decide) (by rw [e6]; decide) (by rw [e6]; rfl) (by decide) ?_
      exact cLaw_6 hst h9 F hA hlf hXK hLK hAO hX hbl hbA h11 h19 h193 (sc := fun j => xs (6 * k + j)) h0.1 h0.2 a1.1 a1.2 a2.1 a2.2 a3.1 a3.2 a4.1 a4.2 a5.1 a5.2 hcs hr hl K h1
    replace h1 := zi_f e6 h1
    by_cases e7 : v = (7 : Int32)
    · replace h1 := zi_t e7 h1
      refine lv_tableIn (tgt := 719) F.1 F.2.1 dL_law_40 (by rw [e7]; decide) (by rw [e7]; decide) (by rw [e7]; rfl) (by decide) ?_
      exact cLaw_7 hst h9 F hA hlf hXK hLK hAO hX hbl hbA h11 h19 h193 (sc := fun j => xs (6 * k + j)) h0.1 h0.2 a1.1 a1.2 a2.1 a2.2 a3.1 a3.2 a4.1 a4.2 a5.1 a5.2 hcs hr hl K h1
    replace h1 := zi_f e7 h1
    by_cases e8 : v = (8 : Int32)
    · replace h1 := zi_t e8 h1
      refine lv_tableIn (tgt := 799) F.1 F.2.1 dL_law_40 (by rw [e8]; decide) (by rw [e8]; decide) (by rw [e8]; rfl) (by decide) ?_
      exact cLaw_8 hst h9 F hA hlf hXK hLK hAO hX hbl hbA h11 h19 h193 (sc := fun j => xs (6 * k + j)) h0.1 h0.2 a1.1 a1.2 a2.1 a2.2 a3.1 a3.2 a4.1 a4.2 a5.1 a5.2 hcs hr hl K h1
    replace h1 := zi_f e8 h1
    by_cases e9 : v = (9 : Int32)
    · replace h1 := zi_t e9 h1
      refine lv_tableIn (tgt := 879) F.1 F.2.1 dL_law_40 (by rw [e9]; decide) (by rw [e9]; decide) (by rw [e9]; rfl) (by decide) ?_
      exact cLaw_9 hst h9 F hA hlf hXK hLK hAO hX hbl hbA h11 h19 h193 (sc := fun j => xs (6 * k + j)) h0.1 h0.2 a1.1 a1.2 a2.1 a2.2 a3.1 a3.2 a4.1 a4.2 a5.1 a5.2 hcs hr hl K h1
    replace h1 := zi_f e9 h1
    by_cases e10 : v = (10 : Int32)
    · replace h1 := zi_t e10 h1
      refine lv_tableIn (tgt := 947) F.1 F.2.1 dL_law_40 (by rw [e10]; decide) (by rw [e10]; decide) (by rw [e10]; rfl) (by decide) ?_
      exact cLaw_10 hst h9 F hA hlf hXK hLK hAO hX hbl hbA h11 h19 h193 (sc := fun j => xs (6 * k + j)) h0.1 h0.2 a1.1 a1.2 a2.1 a2.2 a3.1 a3.2 a4.1 a4.2 a5.1 a5.2 hcs hr hl K h1
    replace h1 := zi_f e10 h1
    by_cases e11 : v = (11 : Int32)
    · replace h1 := zi_t e11 h1
      refine lv_tableIn (tgt := 1071) F.1 F.2.1 dL_law_40 (by rw [e11]; decide) (by rw [e11]; decide) (by rw [e11]; rfl) (by decide) ?_
      exact cLaw_11 hst h9 F hA hlf hXK hLK hAO hX hbl hbA h11 h19 h193 (sc := fun j => xs (6 * k + j)) h0.1 h0.2 a1.1 a1.2 a2.1 a2.2 a3.1 a3.2 a4.1 a4.2 a5.1 a5.2 hcs hr hl K h1
    replace h1 := zi_f e11 h1
    by_cases e12 : v = (12 : Int32)
    · replace h1 := zi_t e12 h1
      refine lv_tableIn (tgt := 1175) F.1 F.2.1 dL_law_40 (by rw [e12]; decide) (by rw [e12]; decide) (by rw [e12]; rfl) (by decide) ?_
      exact cLaw_12 hst h9 F hA hlf hXK hLK hAO hX hbl hbA h11 h19 h193 (sc := fun j => xs (6 * k + j)) h0.1 h0.2 a1.1 a1.2 a2.1 a2.2 a3.1 a3.2 a4.1 a4.2 a5.1 a5.2 hcs hr hl K h1
    replace h1 := zi_f e12 h1
    by_cases e13 : v = (13 : Int32)
    · replace h1 := zi_t e13 h1
      refine lv_tableIn (tgt := 1243) F.1 F.2.1 dL_law_40 (by rw [e13]; decide) (by rw [e13]; decide) (by rw [e13]; rfl) (by decide) ?_
      exact cLaw_13 hst h9 F hA hlf hXK hLK hAO hX hbl hbA h11 h19 h193 (sc := fun j => xs (6 * k + j)) h0.1 h0.2 a1.1 a1.2 a2.1 a2.2 a3.1 a3.2 a4.1 a4.2 a5.1 a5.2 hcs hr hl K h1
    replace h1 := zi_f e13 h1
    by_cases e14 : v = (14 : Int32)
    · replace h1 := zi_t e14 h1
      refine lv_tableIn (tgt := 1323) F.1 F.2.1 dL_law_40 (by rw [e14]; decide) (by rw [e14]; decide) (by rw [e14]; rfl) (by decide) ?_
      exact cLaw_14 hst h9 F hA hlf hXK hLK hAO hX hbl hbA h11 h19 h193 (sc := fun j => xs (6 * k + j)) h0.1 h0.2 a1.1 a1.2 a2.1 a2.2 a3.1 a3.2 a4.1 a4.2 a5.1 a5.2 hcs hr hl K h1
    replace h1 := zi_f e14 h1
    by_cases e15 : v = (15 : Int32)
    · replace h1 := zi_t e15 h1
      refine lv_tableIn (tgt := 1371) F.1 F.2.1 dL_law_40 (by rw [e15]; decide) (by rw [e15]; decide) (by rw [e15]; rfl) (by decide) ?_
      exact cLaw_15 hst h9 F hA hlf hXK hLK hAO hX hbl hbA h11 h19 h193 (sc := fun j => xs (6 * k + j)) h0.1 h0.2 a1.1 a1.2 a2.1 a2.2 a3.1 a3.2 a4.1 a4.2 a5.1 a5.2 hcs hr hl K h1
    replace h1 := zi_f e15 h1
    by_cases e16 : v = (16 : Int32)
    · replace h1 := zi_t e16 h1
      refine lv_tableIn (tgt := 1419) F.1 F.2.1 dL_law_40 (by rw [e16]; decide) (by rw [e16]; decide) (by rw [e16]; rfl) (by decide) ?_
      exact cLaw_16 hst h9 F hA hlf hXK hLK hAO hX hbl hbA h11 h19 h193 (sc := fun j => xs (6 * k + j)) h0.1 h0.2 a1.1 a1.2 a2.1 a2.2 a3.1 a3.2 a4.1 a4.2 a5.1 a5.2 hcs hr hl K h1
    replace h1 := zi_f e16 h1
    by_cases e17 : v = (17 : Int32)
    · replace h1 := zi_t e17 h1
      refine lv_tableIn (tgt := 1499) F.1 F.2.1 dL_law_40 (by rw [e17]; decide) (by rw [e17]; decide) (by rw [e17]; rfl) (by decide) ?_
      exact cLaw_17 hst h9 F hA hlf hXK hLK hAO hX hbl hbA h11 h19 h193 (sc := fun j => xs (6 * k + j)) h0.1 h0.2 a1.1 a1.2 a2.1 a2.2 a3.1 a3.2 a4.1 a4.2 a5.1 a5.2 hcs hr hl K h1
    replace h1 := zi_f e17 h1
    by_cases e18 : v = (18 : Int32)
    · replace h1 := zi_t e18 h1
      refine lv_tableIn (tgt := 1579) F.1 F.2.1 dL_law_40 (by rw [e18]; decide) (by rw [e18]; decide) (by rw [e18]; rfl) (by decide) ?_
      exact cLaw_18 hst h9 F hA hlf hXK hLK hAO hX hbl hbA h11 h19 h193 (sc := fun j => xs (6 * k + j)) h0.1 h0.2 a1.1 a1.2 a2.1 a2.2 a3.1 a3.2 a4.1 a4.2 a5.1 a5.2 hcs hr hl K h1
    replace h1 := zi_f e18 h1
    by_cases e19 : v = (19 : Int32)
    · replace h1 := zi_t e19 h1
      refine lv_tableIn (tgt := 1666) F.1 F.2.1 dL_law_40 (by rw [e19]; decide) (by rw [e19]; decide) (by rw [e19]; rfl) (by decide) ?_
      exact cLaw_19 hst h9 F hA hlf hXK hLK hAO hX hbl hbA h11 h19 h193 (sc := fun j => xs (6 * k + j)) h0.1 h0.2 a1.1 a1.2 a2.1 a2.2 a3.1 a3.2 a4.1 a4.2 a5.1 a5.2 hcs hr hl K h1
    replace h1 := zi_f e19 h1
    by_cases e20 : v = (20 : Int32)
    · replace h1 := zi_t e20 h1
      refine lv_tableIn (tgt := 1734) F.1 F.2.1 dL_law_40 (by rw [e20]; decide) (by rw [e20]; decide) (by rw [e20]; rfl) (by decide) ?_
      exact cLaw_20 hst h9 F hA hlf hXK hLK hAO hX hbl hbA h11 h19 h193 (sc := fun j => xs (6 * k + j)) h0.1 h0.2 a1.1 a1.2 a2.1 a2.2 a3.1 a3.2 a4.1 a4.2 a5.1 a5.2 hcs hr hl K h1
    replace h1 := zi_f e20 h1
    by_cases e21 : v = (21 : Int32)
    · replace h1 := zi_t e21 h1
      refine lv_tableIn (tgt := 1802) F.1 F.2.1 dL_law_40 (by rw [e21]; decide) (by rw [e21]; decide) (by rw [e21]; rfl) (by decide) ?_
      exact cLaw_21 hst h9 F hA hlf hXK hLK hAO hX hbl hbA h11 h19 h193 (sc := fun j => xs (6 * k + j)) h0.1 h0.2 a1.1 a1.2 a2.1 a2.2 a3.1 a3.2 a4.1 a4.2 a5.1 a5.2 hcs hr hl K h1
    replace h1 := zi_f e21 h1
    by_cases e22 : v = (22 : Int32)
    · replace h1 := zi_t e22 h1
      refine lv_tableIn (tgt := 1815) F.1 F.2.1 dL_law_40 (by rw [e22]; decide) (by rw [e22]; decide) (by rw [e22]; rfl) (by decide) ?_
      exact cLaw_22 hst h9 F hA hlf hXK hLK hAO hX hbl hbA h11 h19 h193 (sc := fun j => xs (6 * k + j)) h0.1 h0.2 a1.1 a1.2 a2.1 a2.2 a3.1 a3.2 a4.1 a4.2 a5.1 a5.2 hcs hr hl K h1
    replace h1 := zi_f e22 h1
    by_cases e23 : v = (23 : Int32)
    · replace h1 := zi_t e23 h1
      refine lv_tableIn (tgt := 1828) F.1 F.2.1 dL_law_40 (by rw [e23]; decide) (by rw [e23]; decide) (by rw [e23]; rfl) (by decide) ?_
      exact cLaw_23 hst h9 F hA hlf hXK hLK hAO hX hbl hbA h11 h19 h193 (sc := fun j => xs (6 * k + j)) h0.1 h0.2 a1.1 a1.2 a2.1 a2.2 a3.1 a3.2 a4.1 a4.2 a5.1 a5.2 hcs hr hl K h1
    replace h1 := zi_f e23 h1
    by_cases e24 : v = (24 : Int32)
    · replace h1 := zi_t e24 h1
      refine lv_tableIn (tgt := 1896) F.1 F.2.1 dL_law_40 (by rw [e24]; decide) (by rw [e24]; decide) (by rw [e24]; rfl) (by decide) ?_
      exact cLaw_24 hst h9 F hA hlf hXK hLK hAO hX hbl hbA h11 h19 h193 (sc := fun j => xs (6 * k + j)) h0.1 h0.2 a1.1 a1.2 a2.1 a2.2 a3.1 a3.2 a4.1 a4.2 a5.1 a5.2 hcs hr hl K h1
    replace h1 := zi_f e24 h1
    by_cases e25 : v = (25 : Int32)
    · replace h1 := zi_t e25 h1
      refine lv_tableIn (tgt := 1909) F.1 F.2.1 dL_law_40 (by rw [e25]; decide) (by rw [e25]; decide) (by rw [e25]; rfl) (by decide) ?_
      exact cLaw_25 hst h9 F hA hlf hXK hLK hAO hX hbl hbA h11 h19 h193 (sc := fun j => xs (6 * k + j)) h0.1 h0.2 a1.1 a1.2 a2.1 a2.2 a3.1 a3.2 a4.1 a4.2 a5.1 a5.2 hcs hr hl K h1
    replace h1 := zi_f e25 h1
    by_cases e26 : v = (26 : Int32)
    · replace h1 := zi_t e26 h1
      refine lv_tableIn (tgt := 1985) F.1 F.2.1 dL_law_40 (by rw [e26]; decide) (by rw [e26]; decide) (by rw [e26]; rfl) (by decide) ?_
      exact cLaw_26 hst h9 F hA hlf hXK hLK hAO hX hbl hbA h11 h19 h193 (sc := fun j => xs (6 * k + j)) h0.1 h0.2 a1.1 a1.2 a2.1 a2.2 a3.1 a3.2 a4.1 a4.2 a5.1 a5.2 hcs hr hl K h1
    replace h1 := zi_f e26 h1
    by_cases e27 : v = (27 : Int32)
    · replace h1 := zi_t e27 h1
      refine lv_tableIn (tgt := 2053) F.1 F.2.1 dL_law_40 (by rw [e27]; decide) (by rw [e27]; decide) (by rw [e27]; rfl) (by decide) ?_
      exact cLaw_27 hst h9 F hA hlf hXK hLK hAO hX hbl hbA h11 h19 h193 (sc := fun j => xs (6 * k + j)) h0.1 h0.2 a1.1 a1.2 a2.1 a2.2 a3.1 a3.2 a4.1 a4.2 a5.1 a5.2 hcs hr hl K h1
    replace h1 := zi_f e27 h1
    by_cases e28 : v = (28 : Int32)
    · replace h1 := zi_t e28 h1
      refine lv_tableIn (tgt := 2066) F.1 F.2.1 dL_law_40 (by rw [e28]; decide) (by rw [e28]; decide) (by rw [e28]; rfl) (by decide) ?_
      exact cLaw_28 hst h9 F hA hlf hXK hLK hAO hX hbl hbA h11 h19 h193 (sc := fun j => xs (6 * k + j)) h0.1 h0.2 a1.1 a1.2 a2.1 a2.2 a3.1 a3.2 a4.1 a4.2 a5.1 a5.2 hcs hr hl K h1
    replace h1 := zi_f e28 h1
    obtain ⟨rfl, rfl, rfl, rfl⟩ := zret4 h1
    refine lv_tableOut (tgt := 2079) F.1 F.2.1 dL_law_40 (zsw0_28 e0 e1 e2 e3 e4 e5 e6 e7 e8 e9 e10 e11 e12 e13 e14 e15 e16 e17 e18 e19 e20 e21 e22 e23 e24 e25 e26 e27 e28) (by decide) ?_
    exact K B H locs ls hst h9 F h11 h19 h193 hcs hr hl
end SLOOP
