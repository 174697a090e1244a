/-! the model's segments: rows and bytes of one that nobody else holds; its book; a datagram takes it -/
theorem zsg_one {w : St} {T : Tp} {E : Ev} {K : Int32 → Int32 → Int32 → Prop} {g : Sg} {X TS TA TB : List Nat} {s : Nat} (h : zMV w T E g K X (s :: TS) TA TB) (h1 : zgA w 176 0 s = 1) (hs : s < 2400) {ms : List (Option Nat)} {mw : Nat → List Nat} (h9 : zMp w (hold X ms mw) (s :: TS) TA TB) : s ∉ (hold X ms mw).filterMap (mgs w) ∧ s ∉ TS := by
  have hH : (hold X ms mw).length ≤ 2400 := by
    have := zlen_sub h9.1.1 (fun x hx => List.mem_range.mpr (h9.1.2.1 x hx))
    simpa using this
  have hlen := h9.1.2.2.2
  have e := h9.2.2.1.2.1 s hs
  have e : zgA w 176 0 s = Int32.ofNat (((hold X ms mw).filterMap (mgs w) ++ s :: TS).count s) := e
  have hcl : ((hold X ms mw).filterMap (mgs w) ++ s :: TS).count s ≤ ((hold X ms mw).filterMap (mgs w) ++ s :: TS).length := List.count_le_length
  have hfl := List.length_filterMap_le (mgs w) (hold X ms mw)
  have hll : ((hold X ms mw).filterMap (mgs w) ++ s :: TS).length ≤ 7400 := by rw [List.length_append]; omega
  have one : ((hold X ms mw).filterMap (mgs w) ++ s :: TS).count s = 1 := by
    rw [h1] at e
    have := (zo_eq (a := 1) (b := ((hold X ms mw).filterMap (mgs w) ++ s :: TS).count s) (by omega) (by omega)).mp e
    omega
  rw [List.count_append, List.count_cons_self] at one
  exact ⟨List.count_eq_zero.mp (by omega), List.count_eq_zero.mp (by omega)⟩
theorem zm_rowSg {w w' : St} {T : Tp} {E : Ev} {K : Int32 → Int32 → Int32 → Prop} {g : Sg} {X TS TA TB : List Nat} {s : Nat} (h : zMV w T E g K X (s :: TS) TA TB) (h1 : zgA w 176 0 s = 1) (hs : s < 2400) (hA : ∀ k o i, ¬ (k = 174 ∧ o = 0 ∧ 10 * s ≤ i ∧ i < 10 * s + 10) → zgA w' k o i = zgA w k o i) (h8 : msg w' s 8 = msg w s 8) (hI : ∀ k j o, zgI w' k j o = zgI w k j o) (hL : ∀ k o i, ¬ (k = 175 ∧ o = 0 ∧ 183 * s ≤ i ∧ i < 183 * s + 183) → zgL w' k o i = zgL w k o i) (hQ : ∀ k o i, zgQ w' k o i = zgQ w k o i) (hR : ∀ k o i, zgR w' k o i = zgR w k o i) : zMV w' T E g K X (s :: TS) TA TB ∧ (∀ d D, d ∈ X → zMD w T K d D → zMD w' T K d D) ∧ zBs w w' := by
  have hc := h.2.1
  obtain ⟨ms, mw, h7, h8', h9⟩ := id h.2.2.2.2.1.2.2
  obtain ⟨n1, n2⟩ := zsg_one h h1 hs h9
  have f : zBs w w' := ⟨fun k j o _ _ => hI k j o, fun k o i _ b _ => hA k o i (by omega), fun k o i q => hL k o i (by omega), hQ, hR⟩
  have mo : ∀ x k, ¬ x = s → k < 10 → msg w' x k = msg w x k := fun x k n hk => hA 174 0 _ (by omega)
  obtain ⟨m1, m2⟩ := zNm_sg (w' := w') (TS' := s :: TS) (TB' := TB) hc h7 h8' h9 f (fun x hx hxm => ⟨fun k hk => mo x k (fun y => n1 (by rw [← y]; exact hxm)) hk, fun i hi => hL 175 0 _ (fun y => n1 (by
    have : x = s := by omega
    rw [← this]; exact hxm))⟩) (by
    have e1 : (fun i => zgA w' 176 0 i) = (fun i => zgA w 176 0 i) := funext (fun i => hA 176 0 i (by omega))
    have e2 : (fun i => zgA w' 177 0 i) = (fun i => zgA w 177 0 i) := funext (fun i => hA 177 0 i (by omega))
    rw [e1, e2, hI]
    exact h9.2.2.1) (by
    have e1 : (fun i => zgA w' 183 0 i) = (fun i => zgA w 183 0 i) := funext (fun i => hA 183 0 i (by omega))
    have e2 : (fun i => zgA w' 185 0 i) = (fun i => zgA w 185 0 i) := funext (fun i => hA 185 0 i (by omega))
    have eb : zbks w' ((hold X ms mw).filterMap (mgs w) ++ s :: TS) = zbks w ((hold X ms mw).filterMap (mgs w) ++ s :: TS) := zbks_cg (fun _ _ => Iff.rfl) (fun x _ _ => by
      by_cases e : x = s
      · rw [e]; exact h8
      · exact mo x 8 e (by omega))
    rw [e1, e2, hI, eb]
    exact h9.2.2.2.2.1) (fun x hx => by
    have : msg w' x 8 = msg w x 8 := by
      by_cases e : x = s
      · rw [e]; exact h8
      · exact mo x 8 e (by omega)
    rw [this]
    exact h9.2.2.2.2.2 x (List.mem_append.mpr (Or.inr hx))) h9.1.2.2.2
  exact ⟨zMV_bs h f m1, m2, f⟩
theorem fm_at {f f' : Nat → Option Nat} {s b : Nat} (h0 : f s = none) (h1 : f' s = some b) (hne : ∀ x, ¬ x = s → f' x = f x) : ∀ n, s < n → ((List.range n).filterMap f').Perm (b :: (List.range n).filterMap f) := by
  intro n hn
  exact fm_ins (k := s) (a := b) (fun i hi => hne i hi) h0 h1 n hn
theorem zbks_new {w w' : St} {L TS : List Nat} {s b : Nat} (hs : s < 2400) (hb : b < 2592) (n1 : s ∉ L) (n2 : s ∉ TS) (h0 : msg w s 8 = -1) (h8 : msg w' s 8 = Int32.ofNat b) (hne : ∀ x, ¬ x = s → msg w' x 8 = msg w x 8) : (zbks w' (L ++ s :: TS)).Perm (b :: zbks w (L ++ s :: TS)) := by
  unfold zbks
  refine fm_at (s := s) ?_ ?_ (fun x hx => ?_) 2400 hs
  · rw [h0]; split
    · rfl
    · rw [if_pos rfl]
  · have : ¬ (L ++ s :: TS).count s = 0 := by
      rw [List.count_append, List.count_cons_self]; omega
    rw [if_neg this, h8, if_neg (zo_ne1 (by omega)), zoC (by omega)]
  · rw [hne x hx]
/-- a segment takes a book along -/
theorem zm_bookSg {w w' : St} {T : Tp} {E : Ev} {K : Int32 → Int32 → Int32 → Prop} {g : Sg} {X TS TA TB : List Nat} {s b : Nat} (h : zMV w T E g K X (s :: TS) TA TB) (h1 : zgA w 176 0 s = 1) (hs : s < 2400) (hb : b < 2592) (hbT : b ∈ TB) (hA : ∀ k o i, ¬ (k = 174 ∧ o = 0 ∧ 10 * s ≤ i ∧ i < 10 * s + 10) → ¬ (k = 183 ∧ o = 0 ∧ i = b) → zgA w' k o i = zgA w k o i) (h0 : msg w s 8 = -1) (h8 : msg w' s 8 = Int32.ofNat b) (h183 : zgA w' 183 0 b = zgA w 183 0 b + 1) (hI : ∀ k j o, zgI w' k j o = zgI w k j o) (hL : ∀ k o i, zgL w' k o i = zgL w k o i) (hQ : ∀ k o i, zgQ w' k o i = zgQ w k o i) (hR : ∀ k o i, zgR w' k o i = zgR w k o i) : zMV w' T E g K X (s :: TS) TA TB ∧ (∀ d D, d ∈ X → zMD w T K d D → zMD w' T K d D) ∧ zBs w w' := by
  have hc := h.2.1
  obtain ⟨ms, mw, h7, h8', h9⟩ := id h.2.2.2.2.1.2.2
  obtain ⟨n1, n2⟩ := zsg_one h h1 hs h9
  have f : zBs w w' := ⟨fun k j o _ _ => hI k j o, fun k o i _ b _ => hA k o i (by omega) (by omega), fun k o i q => hL k o i, hQ, hR⟩
  have mo : ∀ x k, ¬ x = s → k < 10 → msg w' x k = msg w x k := fun x k n hk => hA 174 0 _ (by omega) (by omega)
  obtain ⟨m1, m2⟩ := zNm_sg (w' := w') (TS' := s :: TS) (TB' := TB) hc h7 h8' h9 f (fun x hx hxm => ⟨fun k hk => mo x k (fun y => n1 (by rw [← y]; exact hxm)) hk, fun i hi => hL 175 0 _⟩) (by
    have e1 : (fun i => zgA w' 176 0 i) = (fun i => zgA w 176 0 i) := funext (fun i => hA 176 0 i (by omega) (by omega))
    have e2 : (fun i => zgA w' 177 0 i) = (fun i => zgA w 177 0 i) := funext (fun i => hA 177 0 i (by omega) (by omega))
    rw [e1, e2, hI]
    exact h9.2.2.1) (by
    have e2 : (fun i => zgA w' 185 0 i) = (fun i => zgA w 185 0 i) := funext (fun i => hA 185 0 i (by omega) (by omega))
    -- the book is one more
    have q1 := zbks_new (w := w) (w' := w') (L := (hold X ms mw).filterMap (mgs w)) (TS := TS) (s := s) (b := b) hs hb n1 n2 h0 h8 (fun x hx => mo x 8 hx (by omega))
    have r := zRc_hold (held' := fun x => zgA w' 183 0 x) h9.2.2.2.2.1 (List.mem_append.mpr (Or.inr hbT)) (fun y => by
      show zgA w' 183 0 y = _
      by_cases c : y = b
      · rw [if_pos c, c]; exact h183
      · rw [if_neg c]; exact hA 183 0 y (by omega) (by omega))
    rw [e2, hI]
    refine zRc_perm ?_ r
    refine List.Perm.trans ?_ (q1.symm.append_right TB)
    rw [List.cons_append]) (fun x hx => by
    rcases List.mem_cons.mp hx with y | y
    · rw [y, h8]; exact Or.inr ⟨b, hb, rfl⟩
    · rw [mo x 8 (fun q => n2 (by rw [← q]; exact y)) (by omega)]
      exact h9.2.2.2.2.2 x (List.mem_append.mpr (Or.inr (List.mem_cons_of_mem _ y)))) h9.1.2.2.2
  exact ⟨zMV_bs h f m1, m2, f⟩
/-- a datagram takes a segment that is held once, beside -/
theorem zm_segN {w : St} {T : Tp} {K : Int32 → Int32 → Int32 → Prop} {g : Sg} {X TS TA TB : List Nat} {c s : Nat} (hc : zTc T) (h : zNm w T K g (c :: X) (s :: TS) TA TB) (h10 : md w c 10 = -1) (hs : s < 2400) : zNm (zsA w 172 0 (18 * c + 10) (Int32.ofNat s)) T K g (c :: X) TS TA TB ∧ ∀ d D, d ∈ X → zMD w T K d D → zMD (zsA w 172 0 (18 * c + 10) (Int32.ofNat s)) T K d D := by
  obtain ⟨ms, mw, h7, h8, h9⟩ := h
  obtain ⟨w', hw⟩ : ∃ u, u = zsA w 172 0 (18 * c + 10) (Int32.ofNat s) := ⟨_, rfl⟩
  rw [← hw]
  have A : ∀ k o i, ¬ (k = 172 ∧ o = 0 ∧ i = 18 * c + 10) → zgA w' k o i = zgA w k o i := fun k o i q => by rw [hw, zgA_sA, if_neg q]
  have a10 : md w' c 10 = Int32.ofNat s := by unfold md; rw [hw, zgA_sA, if_pos ⟨rfl, rfl, rfl⟩]
  have em : ∀ d k, ¬ (d = c ∧ k = 10) → k < 18 → md w' d k = md w d k := fun d k q hk => A 172 0 _ (by omega)
  have nd := h9.1.1
  have hold_c : hold (c :: X) ms mw = c :: hold X ms mw := rfl
  rw [hold_c] at nd
  have cX : c ∉ hold X ms mw := (List.nodup_cons.mp nd).1
  have kk : ∀ d D, d ∈ hold X ms mw → zMD w T K d D → zMD w' T K d D := fun d D hd hD => by
    have dc : ¬ d = c := fun y => cX (by rw [← y]; exact hd)
    obtain ⟨⟨b0, b1, b2, b3, b4, b5⟩, ⟨c1, c2, c3, c4, c5, h1480⟩, hY⟩ := hD
    exact ⟨⟨b0, (em d 0 (by omega) (by omega)).trans b1, (em d 1 (by omega) (by omega)).trans b2, (em d 2 (by omega) (by omega)).trans b3, (em d 3 (by omega) (by omega)).trans b4, (em d 4 (by omega) (by omega)).trans b5⟩, ⟨(em d 5 (by omega) (by omega)).trans c1, (em d 6 (by omega) (by omega)).trans c2, (em d 7 (by omega) (by omega)).trans c3, (em d 8 (by omega) (by omega)).trans c4, (em d 9 (by omega) (by omega)).trans c5, h1480⟩, zMY_cg (fun k _ hk => em d k (by omega) hk) (fun s _ _ => ⟨fun k _ => A 174 0 _ (by omega), fun i _ => by rw [hw]; rfl⟩) (fun a _ _ k _ => A 178 0 _ (by omega)) rfl rfl rfl rfl rfl h1480 hY⟩
  refine ⟨⟨ms, mw, zFm_cg (fun i => A 188 0 i (by omega)) (by rw [hw]; rfl) (fun d D he => kk d D (hold_mem.mpr (Or.inr (Or.inl he)))) h7, ⟨fun q hq => zWqm_cg (by rw [hw]; rfl) (fun i => A 170 q i (by omega)) (fun i => A 171 q i (by omega)) (fun d D he => kk d D (hold_mem.mpr (Or.inr (Or.inr ⟨q, tv_192 hc hq, he⟩)))) (h8.1 q hq), h8.2⟩, ?_⟩, fun d D hd => kk d D (hold_X d hd)⟩
  obtain ⟨⟨a1, a2, a3, a4⟩, a5, a6, a7, a8, a9⟩ := h9
  rw [hold_c] at a1 a2 a3 a5 a6 a7 a8 a9
  have g0 : ∀ d, d ∈ hold X ms mw → mgs w' d = mgs w d := fun d hd => by
    unfold mgs
    rw [em d 10 (fun y => cX (by rw [← y.1]; exact hd)) (by omega)]
  have gc0 : mgs w c = none := by unfold mgs; rw [h10, if_pos rfl]
  have gc1 : mgs w' c = some s := mgs_of a10 hs
  have gm : (c :: hold X ms mw).filterMap (mgs w') = s :: (c :: hold X ms mw).filterMap (mgs w) := by
    rw [List.filterMap_cons, List.filterMap_cons, gc0, gc1]
    show s :: (hold X ms mw).filterMap (mgs w') = s :: (hold X ms mw).filterMap (mgs w)
    rw [zfm_cg g0]
  have ga : (c :: hold X ms mw).filterMap (mga w') = (c :: hold X ms mw).filterMap (mga w) := zfm_cg (fun d _ => by
    unfold mga
    rw [em d 11 (by omega) (by omega)])
  have es : ∀ x k, msg w' x k = msg w x k := fun x k => A 174 0 _ (by omega)
  have fA : ∀ k, ¬ k = 172 → (fun i => zgA w' k 0 i) = fun i => zgA w k 0 i := fun k q => funext (fun i => A k 0 i (by omega))
  have hI : ∀ k j o, zgI w' k j o = zgI w k j o := fun k j o => by rw [hw]; rfl
  have pm : ((c :: hold X ms mw).filterMap (mgs w) ++ s :: TS).Perm ((c :: hold X ms mw).filterMap (mgs w') ++ TS) := by
    rw [gm, List.cons_append]
    exact List.perm_middle
  rw [hold_c]
  refine ⟨⟨a1, a2, ?_, by simp only [List.length_cons] at a4; omega⟩, fun d hd => ?_, ?_, ?_, ?_, fun x hx => ?_⟩
  · rw [fA 173 (by omega), hI]; exact a3
  · by_cases q : d = c
    · rw [q, a10, em c 11 (by omega) (by omega)]
      exact ⟨Or.inr ⟨s, hs, rfl⟩, (a5 c List.mem_cons_self).2⟩
    · rw [em d 10 (by omega) (by omega), em d 11 (by omega) (by omega)]; exact a5 d hd
  · rw [fA 176 (by omega), fA 177 (by omega), hI]; exact zRc_perm pm a6
  · rw [fA 179 (by omega), fA 180 (by omega), hI, ga]; exact a7
  · have eb : zbks w' ((c :: hold X ms mw).filterMap (mgs w') ++ TS) = zbks w ((c :: hold X ms mw).filterMap (mgs w) ++ s :: TS) := zbks_cg (fun x _ => by rw [pm.count_eq]) (fun x _ _ => es x 8)
    rw [fA 183 (by omega), fA 185 (by omega), hI, eb]; exact a8
  · rw [es]; exact a9 x (pm.mem_iff.mpr hx)
