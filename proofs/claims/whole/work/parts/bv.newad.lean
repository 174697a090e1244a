/-! the model: a new advert; rows of an advert that nobody else holds -/
theorem zMD_ad {w w' : St} {T : Tp} {K : Int32 → Int32 → Int32 → Prop} {d : Nat} {D : Dg} (hm : ∀ k, k < 18 → md w' d k = md w d k) (hs : ∀ k i, zgA w' 174 k i = zgA w 174 k i) (hb : ∀ k i, zgL w' 175 k i = zgL w 175 k i) (ha : ∀ a, a < 2400 → md w d 11 = Int32.ofNat a → ∀ k, k < 76 → mad w' a k = mad w a k) (h : zMD w T K d D) : zMD w' T K d D := by
  obtain ⟨⟨b0, b1, b2, b3, b4, b5⟩, ⟨c1, c2, c3, c4, c5, h1480⟩, hY⟩ := h
  exact ⟨⟨b0, (hm 0 (by omega)).trans b1, (hm 1 (by omega)).trans b2, (hm 2 (by omega)).trans b3, (hm 3 (by omega)).trans b4, (hm 4 (by omega)).trans b5⟩, ⟨(hm 5 (by omega)).trans c1, (hm 6 (by omega)).trans c2, (hm 7 (by omega)).trans c3, (hm 8 (by omega)).trans c4, (hm 9 (by omega)).trans c5, h1480⟩, zMY_cg (fun k _ hk => hm k hk) (fun s _ _ => ⟨fun k _ => hs 0 _, fun i _ => hb 0 _⟩) ha rfl rfl rfl rfl rfl h1480 hY⟩
theorem zNm_ad {w w' : St} {T : Tp} {K : Int32 → Int32 → Int32 → Prop} {g : Sg} {X TS TA TA' TB : List Nat} {ms : List (Option Nat)} {mw : Nat → List Nat} (hc : zTc T) (h7 : zFm w T K (gF g) ms) (h8 : zWm w T K g mw) (h9 : zMp w (hold X ms mw) TS TA TB) (hA : ∀ k o i, k ≠ 178 → k ≠ 179 → k ≠ 180 → zgA w' k o i = zgA w k o i) (hI : ∀ k j o, ¬ (k = 19 ∧ j = 11) → zgI w' k j o = zgI w k j o) (hL : ∀ k o i, zgL w' k o i = zgL w k o i) (hm : ∀ x, x < 2400 → x ∈ (hold X ms mw).filterMap (mga w) → ∀ k, k < 76 → mad w' x k = mad w x k) (hr : zRc (fun x => zgA w' 179 0 x) (fun i => zgA w' 180 0 i) (zgI w' 19 11 0) 2400 ((hold X ms mw).filterMap (mga w) ++ TA')) (hl : TS.length + TA'.length + TB.length ≤ 5000) : zNm w' T K g X TS TA' TB ∧ ∀ d D, d ∈ X → zMD w T K d D → zMD w' T K d D := by
  have kk : ∀ d D, d ∈ hold X ms mw → zMD w T K d D → zMD w' T K d D := fun d D hd hD => zMD_ad (fun k _ => hA 172 0 _ (by omega) (by omega) (by omega)) (fun k i => hA 174 k i (by omega) (by omega) (by omega)) (fun k i => hL 175 k i) (fun a ha e k hk => hm a ha (List.mem_filterMap.mpr ⟨d, hd, mga_of e ha⟩) k hk) hD
  refine ⟨⟨ms, mw, zFm_cg (fun i => hA 188 0 i (by omega) (by omega) (by omega)) (hI 19 23 0 (by omega)) (fun d D he => kk d D (hold_mem.mpr (Or.inr (Or.inl he)))) h7, ⟨fun q hq => zWqm_cg (hI 18 12 q (by omega)) (fun i => hA 170 q i (by omega) (by omega) (by omega)) (fun i => hA 171 q i (by omega) (by omega) (by omega)) (fun d D he => kk d D (hold_mem.mpr (Or.inr (Or.inr ⟨q, tv_192 hc hq, he⟩)))) (h8.1 q hq), h8.2⟩, zMp_TA h9 hA hI hr hl⟩, fun d D hd => kk d D (hold_X d hd)⟩
theorem zWm_len16 {w : St} {T : Tp} {K : Int32 → Int32 → Int32 → Prop} {g : Sg} {mw : Nat → List Nat} (hc : zTc T) (hW : ∀ q, tv T q → (gW g q).length ≤ 16) (h : zWm w T K g mw) : ((List.range 192).flatMap mw).length ≤ 1536 := by
  have key : ∀ (l : List Nat), (l.flatMap mw).length ≤ 16 * (l.filter (tvb T)).length := by
    intro l
    induction l with
    | nil => simp
    | cons a l ih =>
      rw [List.flatMap_cons, List.length_append, List.filter_cons]
      by_cases c : tvb T a = true
      · rw [if_pos c]
        have := h.1 a (tvb_iff.mp c)
        have h1 := this.1
        have h2 := hW a (tvb_iff.mp c)
        simp only [List.length_cons]
        omega
      · rw [if_neg c, h.2 a (fun y => c (tvb_iff.mpr y))]
        simpa using ih
  have h1 := key (List.range 192)
  have h2 := tvb_cnt hc (List.range 192) List.nodup_range
  omega
theorem zmu76 (a : Nat) : (76 : Int32) * Int32.ofNat a = Int32.ofNat (76 * a) := (Int32.ofNat_mul 76 a).symm
theorem zm_newAd {w : St} {T : Tp} {E : Ev} {K : Int32 → Int32 → Int32 → Prop} {g : Sg} {X TS TA TB : List Nat} {N : Nat} {r : Int32} (h : zMV w T E g K X TS TA TB) (hX : X.length ≤ 40) (hW : ∀ q, tv T q → (gW g q).length ≤ 16) (hTA : TA.length ≤ 256) (hl : TS.length + (TA.length + 1) + TB.length ≤ 5000) (hN : 76 < N) :
    ∃ w' a, fX19_newAdvert N 0 r w = some (Int32.ofNat a, w') ∧ a < 2400 ∧ a ∉ TA ∧ zMV w' T E g K X TS (a :: TA) TB ∧ zgA w' 179 0 a = 1 ∧ (∀ k, k < 76 → mad w' a k = if k = 0 then r else 0) ∧ (∀ d D, d ∈ X → zMD w T K d D → zMD w' T K d D) ∧ (∀ k j o, ¬ (k = 19 ∧ j = 11) → zgI w' k j o = zgI w k j o) ∧ (∀ k o i, ¬ (k = 178 ∧ o = 0 ∧ 76 * a ≤ i ∧ i < 76 * a + 76) → ¬ (k = 179 ∧ o = 0 ∧ i = a) → zgA w' k o i = zgA w k o i) ∧ (∀ k o i, zgL w' k o i = zgL w k o i) ∧ (∀ k o i, zgQ w' k o i = zgQ w k o i) ∧ (∀ k o i, zgR w' k o i = zgR w k o i) := by
  have hc := h.2.1
  obtain ⟨ms, mw, h7, h8, h9⟩ := id h.2.2.2.2.1.2.2
  have hlen : (hold X ms mw).length ≤ 2088 := by
    unfold hold
    rw [List.length_append, List.length_append]
    have h1 := zWm_len16 hc hW h8
    have h2 : (ms.filterMap id).length ≤ ms.length := List.length_filterMap_le id ms
    have h3 := h7.1
    have h4 := h7.2.2.1
    omega
  have hfl : ((hold X ms mw).filterMap (mga w) ++ TA).length < 2400 := by
    rw [List.length_append]
    have := List.length_filterMap_le (mga w) (hold X ms mw)
    omega
  obtain ⟨k, c, k1, k2, k3, k4, k5, k6⟩ := zRc_new h9.2.2.2.1 hfl (by omega)
  have k3 : zgA w 180 0 k = Int32.ofNat c := k3
  let w1 : St := zsI w 19 11 0 (Int32.ofNat k)
  let cp : Nat → Nat → Int32 := fun i j => if 76 * c ≤ j ∧ j < 76 * c + i then 0 else zgA w 178 0 j
  let w2 : St := zsC w1 178 0 (cp 76)
  let w3 : St := zsA (zsA w2 178 0 (76 * c) r) 179 0 c 1
  have e0 : zsC w1 178 0 (cp 0) = w1 := by
    have : cp 0 = zgA w1 178 0 := funext (fun j => by show (if _ then _ else _) = _; rw [if_neg (by omega)]; rfl)
    rw [this]; exact zsC_id w1 178 0
  have run : fX19_newAdvert N 0 r w = some (Int32.ofNat c, w3) := by
    unfold fX19_newAdvert
    rw [k2, zl_e]
    have e2 : zgI (zsI w 19 11 0 (Int32.ofNat k)) 19 11 0 = Int32.ofNat k := by rw [zgI_sI, if_pos ⟨rfl, rfl, rfl⟩]
    have e3 : zgA (zsI w 19 11 0 (Int32.ofNat k)) 180 0 k = Int32.ofNat c := k3
    rw [e2, zkk (by omega) (by omega), zoC (by omega), zl_e, e3]
    refine Eq.trans ?_ (zlp0 (G := fun n' i => fX19_newAdvert_22 N n' 0 r (Int32.ofNat c) (Int32.ofNat i) (zsC w1 178 0 (cp i))) (r := some (Int32.ofNat c, w3)) (k := 76) (n := N) hN ?_ ?_)
    · show _ = fX19_newAdvert_22 N N 0 r (Int32.ofNat c) (Int32.ofNat 0) (zsC w1 178 0 (cp 0))
      rw [e0]; rfl
    · intro n' i hi
      show fX19_newAdvert_22b N (fX19_newAdvert_22 N n') 0 r (Int32.ofNat c) (Int32.ofNat i) (zsC w1 178 0 (cp i)) = _
      unfold fX19_newAdvert_22b
      rw [zmu76, if_neg (by rw [show (76 : Int32) = Int32.ofNat 76 from rfl, zo_le (by omega) (by omega)]; omega), zo_add, zkk (by omega) (by omega), zoC (by omega), zl_e, zsA_C2, zl_e, zo_i1]
      have : (fun j => if j = 76 * c + i then (0 : Int32) else cp i j) = cp (i + 1) := by
        funext j
        show (if _ then _ else (if _ then _ else _)) = (if _ then _ else _)
        by_cases e : j = 76 * c + i
        · rw [if_pos e, if_pos (by omega)]
        · rw [if_neg e]
          by_cases e2 : 76 * c ≤ j ∧ j < 76 * c + i
          · rw [if_pos e2, if_pos (by omega)]
          · rw [if_neg e2, if_neg (by omega)]
      rw [this]
    · intro n'
      show fX19_newAdvert_22b N (fX19_newAdvert_22 N n') 0 r (Int32.ofNat c) (Int32.ofNat 76) (zsC w1 178 0 (cp 76)) = _
      unfold fX19_newAdvert_22b
      rw [zmu76, if_pos (by decide), zkk (by omega) (by omega), zoC (by omega), zl_e, zkk k4 (by omega), zoC (by omega), zl_e]
  have A3 : ∀ k o i, zgA w3 k o i = if k = 179 ∧ o = 0 ∧ i = c then 1 else if k = 178 ∧ o = 0 ∧ i = 76 * c then r else if k = 178 ∧ o = 0 then cp 76 i else zgA w k o i := fun k o i => by
    show zgA (zsA (zsA (zsC w1 178 0 (cp 76)) 178 0 _ _) 179 0 _ _) k o i = _
    rw [zgA_sA, zgA_sA]
    by_cases n : k = 178 ∧ o = 0
    · obtain ⟨rfl, rfl⟩ := n
      rw [zgA_sCs, if_pos (show 178 = 178 ∧ 0 = 0 from ⟨rfl, rfl⟩)]
    · rw [zgA_sC, if_neg n, if_neg n]; rfl
  have I3 : ∀ k' j o, ¬ (k' = 19 ∧ j = 11) → zgI w3 k' j o = zgI w k' j o := fun k' j o n => by
    show zgI (zsI w 19 11 0 (Int32.ofNat k)) k' j o = _
    rw [zgI_sI, if_neg (fun y => n ⟨y.1, y.2.1⟩)]
  have A3o : ∀ k o i, ¬ (k = 178 ∧ o = 0 ∧ 76 * c ≤ i ∧ i < 76 * c + 76) → ¬ (k = 179 ∧ o = 0 ∧ i = c) → zgA w3 k o i = zgA w k o i := fun k o i n1 n2 => by
    rw [A3, if_neg n2, if_neg (fun y => n1 ⟨y.1, y.2.1, by omega, by omega⟩)]
    by_cases n : k = 178 ∧ o = 0
    · obtain ⟨rfl, rfl⟩ := n
      rw [if_pos ⟨rfl, rfl⟩]
      show (if 76 * c ≤ i ∧ i < 76 * c + 76 then 0 else zgA w 178 0 i) = _
      rw [if_neg (fun y => n1 ⟨rfl, rfl, y.1, y.2⟩)]
    · rw [if_neg n]
  have f : zFr 0xc000000000000000000000000000000008000000000000000000000000000000000000000000000000000000000000000000000000000000000000000000000000000000000000000000000000000000000000000000000000000000000000000000000000000000000000000000000000000000000000000000000000000000000000000000000000000000000000000000000000000000000000000000000000000000000000000000 w w3 := zFr_A (zFr_A (zFr_C (zFr_I (zFr_rf _ _) (by decide)) (by decide)) (by decide)) (by decide)
  have hcL : c ∉ (hold X ms mw).filterMap (mga w) := fun y => k5 (List.mem_append.mpr (Or.inl y))
  obtain ⟨n1, n2⟩ := zNm_ad (w' := w3) (TA' := c :: TA) hc h7 h8 h9 (fun k o i a b _ => A3o k o i (fun y => a y.1) (fun y => b y.1)) I3 (fun _ _ _ => rfl) (fun x hx hxm k hk => A3o 178 0 _ (fun y => hcL (by
    have : x = c := by omega
    rw [← this]; exact hxm)) (fun y => by omega)) (by
    have e180 : (fun i => zgA w3 180 0 i) = (fun i => zgA w 180 0 i) := funext (fun i => A3o 180 0 i (by omega) (by omega))
    have eI : zgI w3 19 11 0 = Int32.ofNat k := by
      show zgI (zsI w 19 11 0 (Int32.ofNat k)) 19 11 0 = _
      rw [zgI_sI, if_pos ⟨rfl, rfl, rfl⟩]
    rw [e180, eI]
    refine zRc_perm List.perm_middle.symm (k6 _ (fun y => ?_))
    show zgA w3 179 0 y = if y = c then 1 else zgA w 179 0 y
    rw [A3]
    by_cases e : y = c
    · rw [if_pos ⟨rfl, rfl, e⟩, if_pos e]
    · rw [if_neg (fun q => e q.2.2), if_neg (by omega), if_neg (by omega), if_neg e]) (by rw [List.length_cons]; omega)
  refine ⟨w3, c, run, k4, fun y => k5 (List.mem_append.mpr (Or.inr y)), zMV_up f (by decide) n1 h, ?_, fun k hk => ?_, n2, I3, A3o, fun _ _ _ => rfl, fun _ _ _ => rfl, fun _ _ _ => rfl⟩
  · rw [A3, if_pos ⟨rfl, rfl, rfl⟩]
  · show zgA w3 178 0 (76 * c + k) = _
    rw [A3, if_neg (by omega)]
    by_cases e : k = 0
    · rw [if_pos ⟨rfl, rfl, by omega⟩, if_pos e]
    · rw [if_neg (by omega), if_pos ⟨rfl, rfl⟩, if_neg e]
      show (if 76 * c ≤ 76 * c + k ∧ 76 * c + k < 76 * c + 76 then 0 else zgA w 178 0 (76 * c + k)) = _
      rw [if_pos (by omega)]
/-- an advert that is held once, beside: its rows are free to write -/
theorem zm_setAd {w w' : St} {T : Tp} {E : Ev} {K : Int32 → Int32 → Int32 → Prop} {g : Sg} {X TS TA TB : List Nat} {a : Nat} (h : zMV w T E g K X TS (a :: TA) TB) (h1 : zgA w 179 0 a = 1) (ha : a < 2400) (hA : ∀ k o i, ¬ (k = 178 ∧ o = 0 ∧ 76 * a ≤ i ∧ i < 76 * a + 76) → zgA w' k o i = zgA w k o i) (hI : ∀ k j o, zgI w' k j o = zgI w k j o) (hL : ∀ k o i, zgL w' k o i = zgL w k o i) (hQ : ∀ k o i, zgQ w' k o i = zgQ w k o i) (hR : ∀ k o i, zgR w' k o i = zgR w k o i) : zMV w' T E g K X TS (a :: TA) TB ∧ a ∉ TA ∧ ∀ d D, d ∈ X → zMD w T K d D → zMD w' T K d D := by
  have hc := h.2.1
  obtain ⟨ms, mw, h7, h8, h9⟩ := id h.2.2.2.2.1.2.2
  have hH : (hold X ms mw).length ≤ 2400 := by
    have := zlen_sub h9.1.1 (fun x hx => List.mem_range.mpr (h9.1.2.1 x hx))
    simpa using this
  have hlen := h9.1.2.2.2
  have e := h9.2.2.2.1.2.1 a ha
  have e : zgA w 179 0 a = Int32.ofNat (((hold X ms mw).filterMap (mga w) ++ a :: TA).count a) := e
  have hcl : ((hold X ms mw).filterMap (mga w) ++ a :: TA).count a ≤ ((hold X ms mw).filterMap (mga w) ++ a :: TA).length := List.count_le_length
  have hfl := List.length_filterMap_le (mga w) (hold X ms mw)
  have hll : ((hold X ms mw).filterMap (mga w) ++ a :: TA).length ≤ 7400 := by rw [List.length_append]; omega
  have one : ((hold X ms mw).filterMap (mga w) ++ a :: TA).count a = 1 := by
    rw [h1] at e
    have := (zo_eq (a := 1) (b := ((hold X ms mw).filterMap (mga w) ++ a :: TA).count a) (by omega) (by omega)).mp e
    omega
  rw [List.count_append, List.count_cons_self] at one
  have n1 : a ∉ (hold X ms mw).filterMap (mga w) := List.count_eq_zero.mp (by omega)
  have n2 : a ∉ TA := List.count_eq_zero.mp (by omega)
  have f : zFr 0x4000000000000000000000000000000000000000000000000000000000000000000000000000000000000000000000000000000000000000000000000000000000000000000000000000000000000000000000000000000000000000000000000000000000000000000000000000000000000000000000000000000000000000000000000000000000000000000000000000000000000000000000000000000000000000000000000000 w w' := ⟨fun k j o _ _ => ⟨hI k j o, hR k j o⟩, fun k o i hm => ⟨hA k o i (fun y => by obtain ⟨rfl, -⟩ := y; revert hm; decide), hL k o i, hQ k o i⟩⟩
  obtain ⟨m1, m2⟩ := zNm_ad (w' := w') (TA' := a :: TA) hc h7 h8 h9 (fun k o i q _ _ => hA k o i (fun y => q y.1)) (fun k j o _ => hI k j o) hL (fun x hx hxm k hk => hA 178 0 _ (fun y => n1 (by
    have : x = a := by omega
    rw [← this]; exact hxm))) (by
    have e179 : (fun x => zgA w' 179 0 x) = (fun x => zgA w 179 0 x) := funext (fun x => hA 179 0 x (by omega))
    have e180 : (fun i => zgA w' 180 0 i) = (fun i => zgA w 180 0 i) := funext (fun i => hA 180 0 i (by omega))
    rw [e179, e180, hI]
    exact h9.2.2.2.1) hlen
  exact ⟨zMV_up f (by decide) m1 h, n2, m2⟩
