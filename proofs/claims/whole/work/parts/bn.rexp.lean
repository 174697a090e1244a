/-! routers, the model: an old advert is taken out -/
theorem hNo_app (A B : List Nb) (r : Nat) : hNo (A ++ B) r = hNo A r ++ hNo B r := List.map_append
theorem hNo_len (A : List Nb) (r : Nat) : (hNo A r).length = A.length := List.length_map _
theorem zm_clear {w : St} {b r N : Nat} {H : List Nb} {ids : Nat → Nat} {K2 : Nat → Nat → Int32 → St → Option (Int32 × St)} (hH : zHk H) (hr : r < 16) :
    ∀ (B A : List Nb) (nn : Nat) (y : St), H = A ++ B → B.length < nn → zRmI y b (hNo A r ++ B) ids → zMh b w y → ∃ y', fX19_base_59 N K2 nn 0 b (Int32.ofNat r) (Int32.ofNat A.length) y = fX19_base_85 N K2 0 b (Int32.ofNat r) y' ∧ zRmI y' b (hNo H r) ids ∧ zMh b w y' := by
  intro B
  induction B with
  | nil =>
    intro A nn y e hn y1 y2
    obtain ⟨nn, rfl⟩ : ∃ k, nn = k + 1 := ⟨nn - 1, by simp at hn; omega⟩
    rw [List.append_nil] at e y1
    refine ⟨y, ?_, by rw [e]; exact y1, y2⟩
    show fX19_base_59b N K2 (fX19_base_59 N K2 nn) 0 b (Int32.ofNat r) (Int32.ofNat A.length) y = _
    unfold fX19_base_59b
    have q := y1.1.1
    rw [hNo_len] at q
    rw [q, if_pos (Int32.le_refl _)]
  | cons n B ih =>
    intro A nn y e hn y1 y2
    obtain ⟨nn, rfl⟩ : ∃ k, nn = k + 1 := ⟨nn - 1, by omega⟩
    have hl16 := hH.2.2
    have hlen : H.length = A.length + (B.length + 1) := by rw [e]; simp
    have q : zgI y 12 13 b = Int32.ofNat (A.length + (B.length + 1)) := by
      have := y1.1.1
      rw [List.length_append, hNo_len, List.length_cons] at this
      exact this
    have q2 := (y1.1.2.1 A.length (by omega)).2.2
    have hat : (hNo A r ++ n :: B)[A.length]? = some n := by
      rw [List.getElem?_append_right (by rw [hNo_len]; omega), hNo_len, Nat.sub_self]; rfl
    have pw : (hNo A r ++ n :: B).Pairwise (fun a b => a.1 < b.1) := by
      have h0 := hH.2.1
      rw [e] at h0
      obtain ⟨p1, p2, p3⟩ := List.pairwise_append.mp h0
      refine List.pairwise_append.mpr ⟨?_, p2, fun a ha m hm => ?_⟩
      · unfold hNo
        rw [List.pairwise_map]
        exact p1
      · obtain ⟨m0, hm0, e0⟩ := List.mem_map.mp ha
        rw [← e0]
        exact p3 m0 hm0 m hm
    obtain ⟨m1, f1⟩ := zm_noDue (r := r) y1 pw hat
    have hA : ∀ m, m ∈ hNo A r → m.1 ≠ n.1 := fun m hm => by
      have := (List.pairwise_append.mp pw).2.2 m hm n (List.mem_cons_self ..)
      omega
    have hB : ∀ m, m ∈ B → m.1 ≠ n.1 := fun m hm => by
      have := (List.pairwise_cons.mp (List.pairwise_append.mp pw).2.1).1 m hm
      omega
    have e1 : hDue (hNo A r ++ n :: B) n.1 r 0 = hNo (A ++ [n]) r ++ B := by
      unfold hDue
      rw [hUpd_mid hA hB, hNo_app, List.append_assoc]
      rfl
    rw [e1] at m1
    obtain ⟨y', r1, r2⟩ := ih (A ++ [n]) nn _ (by rw [e]; simp) (by simp at hn; omega) m1 (zMh_tr y2 f1)
    refine ⟨y', ?_, r2⟩
    have al : (A ++ [n]).length = A.length + 1 := by simp
    rw [al] at r1
    show fX19_base_59b N K2 (fX19_base_59 N K2 nn) 0 b (Int32.ofNat r) (Int32.ofNat A.length) y = _
    unfold fX19_base_59b
    have vp : vp_nar .boolean (0 : Int32) = 0 := by decide
    rw [q, if_neg (by rw [zo_le (by omega) (by omega)]; omega), zkk (by omega) (by omega), zl_e, zoC (by omega), q2, zd_e, zkk hr (by omega), zoC (by omega), vp, zl_e, zo_i1, zl_e]
    exact r1
/-- an advert that the base holds goes, the model -/
theorem zm_baseOut {w : St} {T : Tp} {E : Ev} {K : Int32 → Int32 → Int32 → Prop} {g : Sg} {X TS TB : List Nat} {b r x N : Nat} {H : List Nb} {ids : Nat → Nat} {Ba : Nat → Option Ad} {K2 : Nat → Nat → Int32 → St → Option (Int32 × St)} (h : zMV w T E g K X TS (zTA w T) TB) (hb : b < tb T) (hrt : tr T b = true) (hr : r < 16) (hx : x < 2400) (h150 : zgA w 150 b r = Int32.ofNat x) (hM : zRmI w b H ids) (hH : zHk H) (hB : zRmB w b Ba) (hN : 24 < N) :
    ∃ w', (zc (fX19_dropAdvert N 0 (Int32.ofNat x) w) fun _ z8 => zk (Int32.ofNat r) 16 <| zl (zsA z8 150 b r (-1 : Int32)) fun z12 => zl (zsI z12 12 23 b (1 : Int32)) fun z13 => fX19_base_59 N K2 N 0 b (Int32.ofNat r) (0 : Int32) z13) = fX19_base_85 N K2 0 b (Int32.ofNat r) w' ∧ zMV w' T E g K X TS (zTA w' T) TB ∧ zKm X w w' ∧ zRmI w' b (hNo H r) ids ∧ zRmB w' b (bSet Ba r none) ∧ zgI w' 12 23 b = 1 ∧ (∀ k j o, ¬ (k = 12 ∧ j = 23 ∧ o = b) → ¬ (k = 19 ∧ j = 11) → zgI w' k j o = zgI w k j o) ∧ (∀ k o i, ¬ (o = b ∧ k = 150 ∧ i = r) → ¬ ((k = 162 ∨ k = 163) ∧ 16 * b ≤ o ∧ o < 16 * b + 16) → k ≠ 179 → k ≠ 180 → zgA w' k o i = zgA w k o i) ∧ zMr b w w' := by
  have hc := h.2.1
  let w0 : St := zsA w 150 b r (-1)
  have p0 : (zTA w T).Perm (x :: zTA w0 T) := zTA_ins (w := w0) (w' := w) hc hb hrt hr hx (by show zgA (zsA w 150 b r (-1)) 150 b r = -1; rw [zgA_sA, if_pos ⟨rfl, rfl, rfl⟩]) h150 (fun o i n => by
    show zgA w 150 o i = zgA (zsA w 150 b r (-1)) 150 o i
    rw [zgA_sA, if_neg (fun y => n ⟨y.2.1, y.2.2⟩)])
  obtain ⟨w1, s1, s2, s3, s4, s5, s6, s7⟩ := zm_dropTA (N := N) (zMV_permTA p0 h)
  let w3 : St := zsI (zsA w1 150 b r (-1)) 12 23 b 1
  have I3 : ∀ k j o, ¬ (k = 12 ∧ j = 23 ∧ o = b) → ¬ (k = 19 ∧ j = 11) → zgI w3 k j o = zgI w k j o := fun k j o n1 n2 => by
    show zgI (zsI (zsA w1 150 b r (-1)) 12 23 b 1) k j o = _
    rw [zgI_sI, if_neg n1]; exact s5 k j o n2
  have A3 : ∀ k o i, ¬ (o = b ∧ k = 150 ∧ i = r) → k ≠ 179 → k ≠ 180 → zgA w3 k o i = zgA w k o i := fun k o i n1 n2 n3 => by
    show zgA (zsA w1 150 b r (-1)) k o i = _
    rw [zgA_sA, if_neg (fun y => n1 ⟨y.2.1, y.1, y.2.2⟩)]; exact s4 k o i n2 n3
  have M3 : zRmI w3 b H ids := zRmI_cg (w := w) (I3 _ _ _ (by omega) (by omega)) (fun i => zFr_gQ s7 (by decide) b i) (fun y _ _ => ⟨fun j _ => I3 _ _ _ (by omega) (by omega), fun k i hk => A3 _ _ _ (by omega) (by omega) (by omega)⟩) hM
  obtain ⟨w', r1, r2, r3⟩ := zm_clear (w := w3) (N := N) (K2 := K2) hH hr H [] N w3 rfl (by have := hH.2.2; omega) M3 (zMh_rf _ _)
  have V3 : zMV w3 T E g K X TS (zTA w0 T) TB := zMV_fr (M := 0x400000000000000000000000000000000000000000000000000000000000000000000000000000000000000000000000000000000000000000000000000000000000000800000000000000000000000000000000000000000000000000000000000000000000000000000000000000000000000000000000000000000000000000000000000000000000000000000000000000000000000000000000000000000000000000000) (zFr_I (zFr_A (zFr_rf _ _) (by decide)) (by decide)) (by decide) (fun _ _ _ => rfl) s2
  have A' : ∀ k o i, ¬ (o = b ∧ k = 150 ∧ i = r) → ¬ ((k = 162 ∨ k = 163) ∧ 16 * b ≤ o ∧ o < 16 * b + 16) → k ≠ 179 → k ≠ 180 → zgA w' k o i = zgA w k o i := fun k o i n1 n2 n3 n4 => (r3.2.1 k o i n2).trans (A3 k o i n1 n3 n4)
  have e150 : zgA w' 150 b r = -1 := by
    rw [r3.2.1 _ _ _ (by omega)]
    show zgA (zsA w1 150 b r (-1)) 150 b r = -1
    rw [zgA_sA, if_pos ⟨rfl, rfl, rfl⟩]
  have TA' : zTA w' T = zTA w0 T := zTA_cg (fun c k _ _ => by
    show zgA w' 150 c k = zgA (zsA w 150 b r (-1)) 150 c k
    rw [zgA_sA]
    by_cases d : c = b ∧ k = r
    · rw [if_pos ⟨rfl, d⟩, d.1, d.2, e150]
    · rw [if_neg (fun y => d y.2), A' 150 c k (fun y => d ⟨y.1, y.2.2⟩) (by omega) (by omega) (by omega)])
  refine ⟨w', ?_, by rw [TA']; exact zMV_mh r3 V3, ?_, r2, fun k hk => ?_, ?_, fun k j o n1 n2 => (r3.1 k j o).trans (I3 k j o n1 n2), A', zMr_tr (zMr_dropAdvert b s1) (zMr_tr (zMr_A (Or.inl ⟨rfl, Or.inl rfl⟩)) (zMr_tr (zMr_I (Or.inl ⟨rfl, rfl, by omega⟩)) (zMh_mr r3)))⟩
  · rw [s1, zc_e, zkk hr (by omega), zl_e, zl_e]
    exact r1
  · exact ⟨fun d k _ _ => A' 172 0 _ (by omega) (by omega) (by omega) (by omega), fun k i => A' 174 k i (by omega) (by omega) (by omega) (by omega), fun k i => A' 178 k i (by omega) (by omega) (by omega) (by omega), fun k o i => (r3.2.2.1 k o i).trans (s6 k o i)⟩
  · unfold bSet
    by_cases d : k = r
    · rw [if_pos d, d]; exact e150
    · rw [if_neg d]
      have := hB k hk
      have e0 : zgA w' 150 b k = zgA w 150 b k := A' _ _ _ (fun y => d y.2.2) (by omega) (by omega) (by omega)
      have e1 : zgA w' 151 b k = zgA w 151 b k := A' _ _ _ (by omega) (by omega) (by omega) (by omega)
      cases e : Ba k with
      | none => rw [e] at this; exact e0.trans this
      | some m =>
        rw [e] at this
        obtain ⟨x, x1, x2, x3, x4⟩ := this
        exact ⟨x, x1, e0.trans x2, e1.trans x3, zAdw_cg (fun k _ => A' 178 0 _ (by omega) (by omega) (by omega) (by omega)) x4⟩
  · rw [r3.1]
    show zgI (zsI (zsA w1 150 b r (-1)) 12 23 b 1) 12 23 b = 1
    rw [zgI_sI, if_pos ⟨rfl, rfl, rfl⟩]
