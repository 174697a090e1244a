/-! the books' pool; what the network's relation makes of a change of an end -/
/-- the model: only ends and books change -/
def zBf (w w' : St) : Prop := (∀ k j o, ¬ k = 14 → ¬ (k = 19 ∧ j = 17) → zgI w' k j o = zgI w k j o) ∧ (∀ k o i, ¬ (159 ≤ k ∧ k ≤ 161) → ¬ (182 ≤ k ∧ k ≤ 185) → zgA w' k o i = zgA w k o i) ∧ (∀ k o i, ¬ k = 181 → zgL w' k o i = zgL w k o i) ∧ (∀ k o i, zgQ w' k o i = zgQ w k o i) ∧ ∀ k o i, zgR w' k o i = zgR w k o i
theorem zBf_rf (w : St) : zBf w w := ⟨fun _ _ _ _ _ => rfl, fun _ _ _ _ _ => rfl, fun _ _ _ _ => rfl, fun _ _ _ => rfl, fun _ _ _ => rfl⟩
theorem zBf_tr {x y z : St} (h1 : zBf x y) (h2 : zBf y z) : zBf x z := ⟨fun k j o a b => (h2.1 k j o a b).trans (h1.1 k j o a b), fun k o i a b => (h2.2.1 k o i a b).trans (h1.2.1 k o i a b), fun k o i a => (h2.2.2.1 k o i a).trans (h1.2.2.1 k o i a), fun k o i => (h2.2.2.2.1 k o i).trans (h1.2.2.2.1 k o i), fun k o i => (h2.2.2.2.2 k o i).trans (h1.2.2.2.2 k o i)⟩
theorem zBf_em {e : Nat} {w w' : St} (h : zEm1 e w w') : zBf w w' := ⟨fun k j o a _ => h.1 k j o (fun y => a y.1), fun k o i a _ => h.2.1 k o i (by omega), fun k o i _ => h.2.2.1 k o i, h.2.2.2.1, h.2.2.2.2⟩
theorem zSgM_bf {w w' : St} {s : Nat} {V : Sv} (c : zBf w w') (h : zSgM w s V) : zSgM w' s V := zSgM_cg (fun i => c.2.1 174 0 i (by omega) (by omega)) (fun i => c.2.2.1 175 0 i (by omega)) h
theorem zMp_TB {w w' : St} {H TS TA TB TB' : List Nat} (h : zMp w H TS TA TB) (f : zBf w w') (hr : zRc (fun x => zgA w' 183 0 x) (fun i => zgA w' 185 0 i) (zgI w' 19 17 0) 2592 (zbks w (H.filterMap (mgs w) ++ TS) ++ TB')) (hl : TS.length + TA.length + TB'.length ≤ 5000) : zMp w' H TS TA TB' := by
  obtain ⟨⟨h1, h2, h3, h4⟩, h5, h6, h7, h8, h9⟩ := h
  have hA : ∀ k, ¬ (159 ≤ k ∧ k ≤ 161) → ¬ (182 ≤ k ∧ k ≤ 185) → ∀ i, zgA w' k 0 i = zgA w k 0 i := fun k a b i => f.2.1 k 0 i a b
  have em : ∀ d k, md w' d k = md w d k := fun d k => hA 172 (by omega) (by omega) _
  have es : ∀ d k, msg w' d k = msg w d k := fun d k => hA 174 (by omega) (by omega) _
  have e1 : mgs w' = mgs w := by funext d; unfold mgs; rw [em]
  have e2 : mga w' = mga w := by funext d; unfold mga; rw [em]
  have e3 : ∀ L, zbks w' L = zbks w L := fun L => zbks_cg (fun _ _ => Iff.rfl) (fun s _ _ => es s 8)
  have f173 : (fun i => zgA w' 173 0 i) = fun i => zgA w 173 0 i := funext (fun i => hA 173 (by omega) (by omega) i)
  have f176 : (fun i => zgA w' 176 0 i) = fun i => zgA w 176 0 i := funext (fun i => hA 176 (by omega) (by omega) i)
  have f177 : (fun i => zgA w' 177 0 i) = fun i => zgA w 177 0 i := funext (fun i => hA 177 (by omega) (by omega) i)
  have f179 : (fun i => zgA w' 179 0 i) = fun i => zgA w 179 0 i := funext (fun i => hA 179 (by omega) (by omega) i)
  have f180 : (fun i => zgA w' 180 0 i) = fun i => zgA w 180 0 i := funext (fun i => hA 180 (by omega) (by omega) i)
  refine ⟨⟨h1, h2, ?_, hl⟩, fun d hd => by rw [em, em]; exact h5 d hd, ?_, ?_, ?_, fun s hs => ?_⟩
  · rw [f173, f.1 19 2 0 (by omega) (by omega)]; exact h3
  · rw [f176, f177, f.1 19 7 0 (by omega) (by omega), e1]; exact h6
  · rw [f179, f180, f.1 19 11 0 (by omega) (by omega), e2]; exact h7
  · rw [e1, e3]; exact hr
  · rw [e1] at hs; rw [es]; exact h9 s hs
theorem zKm_bf {w w' : St} {H : List Nat} (f : zBf w w') (hL : ∀ k o i, k = 175 → zgL w' k o i = zgL w k o i) : (∀ d k, d ∈ H → k < 18 → md w' d k = md w d k) ∧ (∀ k i, zgA w' 174 k i = zgA w 174 k i) ∧ (∀ k i, zgA w' 178 k i = zgA w 178 k i) := ⟨fun d k _ _ => f.2.1 172 0 _ (by omega) (by omega), fun k i => f.2.1 174 k i (by omega) (by omega), fun k i => f.2.1 178 k i (by omega) (by omega)⟩
theorem zMS_bf {w w' : St} {K : Int32 → Int32 → Int32 → Prop} {s : Nat} {D : Dg} (f : zBf w w') (h : zMS w K s D) : zMS w' K s D := by
  have e : ∀ k, msg w' s k = msg w s k := fun k => f.2.1 174 0 _ (by omega) (by omega)
  have b : ∀ i, sby w' s i = sby w s i := fun i => by unfold sby; rw [f.2.2.1 175 0 _ (by omega)]
  unfold zMS at h ⊢
  simp only [e, b]
  exact h
theorem zMA_bf {w w' : St} {a : Nat} {D : Dg} (f : zBf w w') (h : zMA w a D) : zMA w' a D := by
  have e : ∀ k, mad w' a k = mad w a k := fun k => f.2.1 178 0 _ (by omega) (by omega)
  unfold zMA at h ⊢
  simp only [e]
  exact h
theorem zMD_bf {w w' : St} {T : Tp} {K : Int32 → Int32 → Int32 → Prop} {d : Nat} {D : Dg} (f : zBf w w') (h : zMD w T K d D) : zMD w' T K d D := by
  have e : ∀ k, md w' d k = md w d k := fun k => f.2.1 172 0 _ (by omega) (by omega)
  have es : ∀ s, zMS w' K s D = zMS w K s D := fun s => propext ⟨fun y => zMS_bf ⟨fun k j o a b => (f.1 k j o a b).symm, fun k o i a b => (f.2.1 k o i a b).symm, fun k o i a => (f.2.2.1 k o i a).symm, fun k o i => (f.2.2.2.1 k o i).symm, fun k o i => (f.2.2.2.2 k o i).symm⟩ y, fun y => zMS_bf f y⟩
  have ea : ∀ a, zMA w' a D = zMA w a D := fun a => propext ⟨fun y => zMA_bf ⟨fun k j o a b => (f.1 k j o a b).symm, fun k o i a b => (f.2.1 k o i a b).symm, fun k o i a => (f.2.2.1 k o i a).symm, fun k o i => (f.2.2.2.1 k o i).symm, fun k o i => (f.2.2.2.2 k o i).symm⟩ y, fun y => zMA_bf f y⟩
  unfold zMD zMY at h ⊢
  simp only [e, es, ea]
  exact h
theorem zNm_TB {w w' : St} {T : Tp} {K : Int32 → Int32 → Int32 → Prop} {g : Sg} {X TS TA TB TB' : List Nat} (h : zNm w T K g X TS TA TB) (f : zBf w w') (hr : ∀ H, zMp w H TS TA TB → zRc (fun x => zgA w' 183 0 x) (fun i => zgA w' 185 0 i) (zgI w' 19 17 0) 2592 (zbks w (H.filterMap (mgs w) ++ TS) ++ TB')) (hl : TS.length + TA.length + TB'.length ≤ 5000) : zNm w' T K g X TS TA TB' := by
  obtain ⟨ms, mw, h7, h8, h9⟩ := h
  refine ⟨ms, mw, ?_, ?_, zMp_TB h9 f (hr _ h9) hl⟩
  · obtain ⟨a1, a2, a3, a4⟩ := h7
    refine ⟨a1, (f.1 19 23 0 (by omega) (by omega)).trans a2, a3, fun i f' m hf hm => ?_⟩
    obtain ⟨⟨b1, b2, b3, b4⟩, b5⟩ := a4 i f' m hf hm
    have e : ∀ j, zgA w' 188 0 j = zgA w 188 0 j := fun j => f.2.1 188 0 j (by omega) (by omega)
    refine ⟨⟨(e _).trans b1, (e _).trans b2, (e _).trans b3, (e _).trans b4⟩, ?_⟩
    rcases b5 with b5 | b5 | ⟨c1, c2, d, c3, c4, c5, c6, c7⟩
    · exact Or.inl ⟨b5.1, b5.2.1, (e _).trans b5.2.2.1, (e _).trans b5.2.2.2.1, (e _).trans b5.2.2.2.2⟩
    · exact Or.inr (Or.inl ⟨b5.1, b5.2.1, (e _).trans b5.2.2.1, (e _).trans b5.2.2.2.1, (e _).trans b5.2.2.2.2⟩)
    · exact Or.inr (Or.inr ⟨c1, c2, d, c3, (e _).trans c4, (e _).trans c5, (e _).trans c6, zMD_bf f c7⟩)
  · refine ⟨fun q hq => ?_, h8.2⟩
    obtain ⟨a1, a2, a3, a4⟩ := h8.1 q hq
    refine ⟨a1, a2, (f.1 18 12 q (by omega) (by omega)).trans a3, fun i D d hD hd => ?_⟩
    obtain ⟨b1, b2, b3⟩ := a4 i D d hD hd
    exact ⟨(f.2.1 170 q i (by omega) (by omega)).trans b1, (f.2.1 171 q i (by omega) (by omega)).trans b2, zMD_bf f b3⟩
theorem zMV_TB {w w' : St} {T : Tp} {E : Ev} {K : Int32 → Int32 → Int32 → Prop} {g : Sg} {X TS TA TB TB' : List Nat} (h : zMV w T E g K X TS TA TB) (f : zBf w w') (n : zNm w' T K g X TS TA TB') : zMV w' T E g K X TS TA TB' := by
  obtain ⟨h1, h2, h3, h4, ⟨h5, h6, -⟩, h7, h8⟩ := h
  have gI : ∀ k j o, ¬ k = 14 → ¬ (k = 19 ∧ j = 17) → zgI w' k j o = zgI w k j o := f.1
  have gA : ∀ k o i, ¬ (159 ≤ k ∧ k ≤ 161) → ¬ (182 ≤ k ∧ k ≤ 185) → zgA w' k o i = zgA w k o i := f.2.1
  have gQ := f.2.2.2.1
  have gR := f.2.2.2.2
  refine ⟨?_, h2, ?_, h4, ⟨?_, ?_, n⟩, ?_, ?_⟩
  · unfold zTM at h1 ⊢
    simp (disch := decide) only [gI, gQ, gR]
    exact h1
  · unfold zEm at h3 ⊢
    simp (disch := decide) only [gI]
    exact h3
  · unfold zTm at h5 ⊢
    simp (disch := decide) only [gI, gA]
    exact h5
  · unfold zCm at h6 ⊢
    simp (disch := decide) only [gI]
    exact h6
  · unfold zAm at h7 ⊢
    simp (disch := decide) only [gI, gA]
    exact h7
  · unfold zHm at h8 ⊢
    simp (disch := decide) only [gA]
    exact h8
theorem zMV_em {w w' : St} {T : Tp} {E : Ev} {K : Int32 → Int32 → Int32 → Prop} {g : Sg} {X TS TA TB : List Nat} {e : Nat} (h : zMV w T E g K X TS TA TB) (f : zEm1 e w w') : zMV w' T E g K X TS TA TB := by
  refine zMV_TB h (zBf_em f) (zNm_TB h.2.2.2.2.1.2.2 (zBf_em f) (fun H hM => ?_) ?_)
  · have a : (fun x => zgA w' 183 0 x) = fun x => zgA w 183 0 x := funext (fun x => f.2.1 183 0 x (by omega))
    have b : (fun x => zgA w' 185 0 x) = fun x => zgA w 185 0 x := funext (fun x => f.2.1 185 0 x (by omega))
    rw [a, b, f.1 19 17 0 (by omega)]
    exact hM.2.2.2.2.1
  · obtain ⟨ms, mw, -, -, h9⟩ := h.2.2.2.2.1.2.2
    exact h9.1.2.2.2
theorem zk_sm {β : Type} {i : Int32} {n : Nat} {k : Option β} {y : β} (h : zk i n k = some y) : k = some y := by
  unfold zk at h
  split at h
  · cases h
  · exact h
theorem zdB_QR {N : Nat} {x r : Int32} {w w' : St} (h : fX19_dropBook N 0 x w = some (r, w')) : (∀ k o i, zgQ w' k o i = zgQ w k o i) ∧ ∀ k o i, zgR w' k o i = zgR w k o i := by
  unfold fX19_dropBook zl at h
  split at h
  · cases h; exact ⟨fun _ _ _ => rfl, fun _ _ _ => rfl⟩
  · have h := zk_sm h
    have h := zk_sm h
    have h := zk_sm h
    split at h
    · cases h; exact ⟨fun _ _ _ => rfl, fun _ _ _ => rfl⟩
    · have h := zk_sm h
      cases h; exact ⟨fun _ _ _ => rfl, fun _ _ _ => rfl⟩
/-- a book is held once less -/
theorem zm_dropTB {w : St} {T : Tp} {E : Ev} {K : Int32 → Int32 → Int32 → Prop} {g : Sg} {X TS TA TB : List Nat} {b N : Nat} (h : zMV w T E g K X TS TA (b :: TB)) : ∃ w', fX19_dropBook N 0 (Int32.ofNat b) w = some (0, w') ∧ zMV w' T E g K X TS TA TB ∧ (∀ k o i, k ≠ 183 → k ≠ 185 → zgA w' k o i = zgA w k o i) ∧ (∀ k j o, ¬ (k = 19 ∧ j = 17) → zgI w' k j o = zgI w k j o) ∧ zBf w w' := by
  obtain ⟨ms, mw, h7, h8, h9⟩ := h.2.2.2.2.1.2.2
  have hlen := h9.1.2.2.2
  simp only [List.length_cons] at hlen
  have ln : ∀ L : List Nat, (zbks w L ++ TB).length < 1000000 := fun L => by
    have := zbks_len w L
    rw [List.length_append]; omega
  obtain ⟨w', r1, r2, r3, r4, r5⟩ := zm_dropBook (N := N) (ln _) (zRc_perm (List.perm_middle) h9.2.2.2.2.1)
  obtain ⟨q1, q2⟩ := zdB_QR r1
  have f : zBf w w' := ⟨fun k j o _ b => r4 k j o b, fun k o i _ b => r3 k o i (by omega) (by omega), fun k o i _ => r5 k o i, q1, q2⟩
  refine ⟨w', r1, zMV_TB h f (zNm_TB ⟨ms, mw, h7, h8, h9⟩ f (fun H hM => ?_) (by omega)), r3, r4, f⟩
  obtain ⟨w2, s1, s2, -⟩ := zm_dropBook (N := N) (ln _) (zRc_perm (List.perm_middle) hM.2.2.2.2.1)
  rw [r1] at s1
  have : w' = w2 := (congrArg Prod.snd (Option.some.inj s1))
  rw [this]; exact s2
theorem zMV_len {w : St} {T : Tp} {E : Ev} {K : Int32 → Int32 → Int32 → Prop} {g : Sg} {X TS TA TB : List Nat} (h : zMV w T E g K X TS TA TB) : TS.length + TA.length + TB.length ≤ 5000 := by
  obtain ⟨ms, mw, -, -, h9⟩ := h.2.2.2.2.1.2.2
  exact h9.1.2.2.2
theorem zMV_permTB {w : St} {T : Tp} {E : Ev} {K : Int32 → Int32 → Int32 → Prop} {g : Sg} {X TS TA TB TB' : List Nat} (hp : TB.Perm TB') (h : zMV w T E g K X TS TA TB) : zMV w T E g K X TS TA TB' :=
  zMV_TB h (zBf_rf w) (zNm_TB h.2.2.2.2.1.2.2 (zBf_rf w) (fun H hM => zRc_perm (hp.append_left _) hM.2.2.2.2.1) (by rw [← hp.length_eq]; exact zMV_len h))
/-- a book that is held is held once more -/
theorem zm_holdTB {w : St} {T : Tp} {E : Ev} {K : Int32 → Int32 → Int32 → Prop} {g : Sg} {X TS TA TB : List Nat} {b : Nat} (h : zMV w T E g K X TS TA TB) (hb : b < 2592) (hh : ¬ zgA w 183 0 b ≤ 0) (hl : TS.length + TA.length + (TB.length + 1) ≤ 5000) : zMV (zsA w 183 0 b (zgA w 183 0 b + 1)) T E g K X TS TA (b :: TB) ∧ zBf w (zsA w 183 0 b (zgA w 183 0 b + 1)) := by
  obtain ⟨w', hw⟩ : ∃ u, u = zsA w 183 0 b (zgA w 183 0 b + 1) := ⟨_, rfl⟩
  have f : zBf w w' := by rw [hw]; exact ⟨fun _ _ _ _ _ => rfl, fun k o i _ q => by rw [zgA_sA, if_neg (by omega)], fun _ _ _ _ => rfl, fun _ _ _ => rfl, fun _ _ _ => rfl⟩
  rw [← hw]
  refine ⟨zMV_TB h f (zNm_TB h.2.2.2.2.1.2.2 f (fun H hM => ?_) (by simp; omega)), f⟩
  have r := hM.2.2.2.2.1
  have hmem : b ∈ zbks w (H.filterMap (mgs w) ++ TS) ++ TB := by
    refine List.count_pos_iff.mp (Nat.pos_of_ne_zero (fun y => hh ?_))
    have e := r.2.1 b hb
    rw [y] at e
    have e : zgA w 183 0 b = 0 := e
    rw [e]; decide
  have r2 := zRc_hold (held' := fun x => zgA w' 183 0 x) r hmem (fun y => by rw [hw]; exact zA_if y)
  have a : (fun i => zgA w' 185 0 i) = fun i => zgA w 185 0 i := funext (fun i => by rw [hw, zgA_sA, if_neg (by omega)])
  have c : zgI w' 19 17 0 = zgI w 19 17 0 := by rw [hw]; rfl
  rw [a, c]
  exact zRc_perm (List.perm_middle.symm) r2
/-- a new book -/
theorem zm_newTB {w : St} {T : Tp} {E : Ev} {K : Int32 → Int32 → Int32 → Prop} {g : Sg} {X TS TA TB : List Nat} {N : Nat} (h : zMV w T E g K X TS TA TB) (hl : TB.length ≤ 190) (hl2 : TS.length + TA.length ≤ 4000) : ∃ w' b, fX19_newBook N 0 w = some (Int32.ofNat b, w') ∧ b < 2592 ∧ zMV w' T E g K X TS TA (b :: TB) ∧ (∀ k o i, ¬ (182 ≤ k ∧ k ≤ 184 ∧ i = b) → zgA w' k o i = zgA w k o i) ∧ zgA w' 182 0 b = 0 ∧ zgA w' 184 0 b = zgA w 184 0 b + 1 ∧ (∀ k j o, ¬ (k = 19 ∧ j = 17) → zgI w' k j o = zgI w k j o) ∧ zBf w w' ∧ (∀ k o i, zgL w' k o i = zgL w k o i) ∧ b ∉ TB := by
  obtain ⟨ms, mw, h7, h8, h9⟩ := id h.2.2.2.2.1.2.2
  have ln : ∀ L : List Nat, (zbks w L ++ TB).length < 2592 := fun L => by
    have := zbks_len w L
    rw [List.length_append]; omega
  obtain ⟨k, b, k1, k2, k3, k4, k5, k6⟩ := zRc_new h9.2.2.2.2.1 (ln _) (by omega)
  obtain ⟨w', hw⟩ : ∃ u, u = zsA (zsA (zsA (zsI w 19 17 0 (Int32.ofNat k)) 182 0 b 0) 183 0 b 1) 184 0 b (zgA w 184 0 b + 1) := ⟨_, rfl⟩
  have run : fX19_newBook N 0 w = some (Int32.ofNat b, w') := by
    unfold fX19_newBook
    have e1 : zgI (zsI w 19 17 0 (Int32.ofNat k)) 19 17 0 = Int32.ofNat k := by rw [zgI_sI, if_pos ⟨rfl, rfl, rfl⟩]
    have e2 : zgA (zsI w 19 17 0 (Int32.ofNat k)) 185 0 k = Int32.ofNat b := k3
    rw [k2, zl_e, e1, zkk k1 (by omega), zoC (by omega), e2, zl_e, zkk k4 (by omega), zoC (by omega), zl_e, zkk k4 (by omega), zl_e, zkk k4 (by omega), zkk k4 (by omega)]
    have e4 : zgA (zsA (zsA (zsI w 19 17 0 (Int32.ofNat k)) 182 0 b 0) 183 0 b 1) 184 0 b = zgA w 184 0 b := by
      rw [zgA_sA, zgA_sA, if_neg (by omega), if_neg (by omega)]; rfl
    rw [e4, zl_e, ← hw]
  have fA : ∀ k o i, ¬ (182 ≤ k ∧ k ≤ 184 ∧ i = b) → zgA w' k o i = zgA w k o i := fun k o i q => by
    rw [hw, zgA_sA, zgA_sA, zgA_sA, if_neg (by omega), if_neg (by omega), if_neg (by omega)]; rfl
  have fI : ∀ k j o, ¬ (k = 19 ∧ j = 17) → zgI w' k j o = zgI w k j o := fun k j o q => by
    rw [hw]
    show zgI (zsI w 19 17 0 _) k j o = _
    rw [zgI_sI, if_neg (by omega)]
  have f : zBf w w' := ⟨fun k j o _ b => fI k j o b, fun k o i _ q => fA k o i (by omega), fun k o i _ => by rw [hw]; rfl, fun k o i => by rw [hw]; rfl, fun k o i => by rw [hw]; rfl⟩
  refine ⟨w', b, run, k4, zMV_TB h f (zNm_TB ⟨ms, mw, h7, h8, h9⟩ f (fun H hM => ?_) (by simp; omega)), fA, ?_, ?_, fI, f, fun k o i => by rw [hw]; rfl, fun y => k5 (List.mem_append.mpr (Or.inr y))⟩
  · obtain ⟨k', b', j1, j2, j3, j4, j5, j6⟩ := zRc_new hM.2.2.2.2.1 (ln _) (by omega)
    have ek : k' = k := by
      have := j2.symm.trans k2
      have := congrArg Int32.toInt this
      rw [zoI (by omega), zoI (by omega)] at this
      omega
    rw [ek] at j3 j6
    have eb : b' = b := by
      have := j3.symm.trans k3
      have := congrArg Int32.toInt this
      rw [zoI (by omega), zoI (by omega)] at this
      omega
    rw [eb] at j6
    have r := j6 (fun x => zgA w' 183 0 x) (fun y => by
      show zgA w' 183 0 y = _
      rw [hw, zgA_sA, if_neg (by omega), zgA_sA]
      by_cases c : y = b
      · rw [if_pos ⟨rfl, rfl, c⟩, if_pos c]
      · rw [if_neg (fun q => c q.2.2), if_neg c, zgA_sA, if_neg (by omega)]; rfl)
    have a : (fun i => zgA w' 185 0 i) = fun i => zgA w 185 0 i := funext (fun i => fA 185 0 i (by omega))
    have c : zgI w' 19 17 0 = Int32.ofNat k := by
      rw [hw]
      show zgI (zsI w 19 17 0 (Int32.ofNat k)) 19 17 0 = _
      rw [zgI_sI, if_pos ⟨rfl, rfl, rfl⟩]
    rw [a, c]
    exact zRc_perm (List.perm_middle.symm) r
  · rw [hw, zgA_sA, zgA_sA, zgA_sA, if_neg (by omega), if_neg (by omega), if_pos ⟨rfl, rfl, rfl⟩]
  · rw [hw, zgA_sA, if_pos ⟨rfl, rfl, rfl⟩]
/-- the books that an end holds; all ends' -/
def bk1 (x : Int32) : List Nat := if x = -1 then [] else [x.toNatClampNeg]
def bk2 (w : St) (e : Nat) : List Nat := bk1 (zgI w 14 44 e) ++ bk1 (zgI w 14 45 e)
def bkE (w : St) (T : Tp) (e : Nat) : List Nat := if e / 6 < tb T ∧ tr T (e / 6) = false then bk2 w e else []
def zTB (w : St) (T : Tp) : List Nat := (List.range 96).flatMap (bkE w T)
theorem zTB_cg {w w' : St} {T : Tp} (h : ∀ j e, j = 44 ∨ j = 45 → zgI w' 14 j e = zgI w 14 j e) : zTB w' T = zTB w T := by
  have : bkE w' T = bkE w T := by
    funext e
    unfold bkE bk2
    rw [h 44 e (by simp), h 45 e (by simp)]
  unfold zTB; rw [this]
theorem fl_cg {f f' : Nat → List Nat} : ∀ {l : List Nat}, (∀ x, x ∈ l → f' x = f x) → l.flatMap f' = l.flatMap f := by
  intro l
  induction l with
  | nil => intro _; rfl
  | cons a l ih =>
    intro h
    rw [List.flatMap_cons, List.flatMap_cons, h a List.mem_cons_self, ih (fun x hx => h x (List.mem_cons_of_mem _ hx))]
theorem zTB_at {w : St} {T : Tp} {e : Nat} (he : e < 96) (hT : e / 6 < tb T ∧ tr T (e / 6) = false) : ∃ R : List Nat, (zTB w T).Perm (bk2 w e ++ R) ∧ R.length ≤ 190 ∧ ∀ w', (∀ j u, j = 44 ∨ j = 45 → ¬ u = e → zgI w' 14 j u = zgI w 14 j u) → (zTB w' T).Perm (bk2 w' e ++ R) := by
  have mem : e ∈ List.range 96 := List.mem_range.mpr he
  have ps := List.perm_cons_erase mem
  have all : ∀ w', (zTB w' T).Perm (bk2 w' e ++ ((List.range 96).erase e).flatMap (bkE w' T)) := fun w' => by
    have q := ps.flatMap_right (bkE w' T)
    rw [List.flatMap_cons] at q
    have e1 : bkE w' T e = bk2 w' e := if_pos hT
    rw [e1] at q
    exact q
  have le2 : ∀ u, (bkE w T u).length ≤ 2 := fun u => by
    unfold bkE bk2 bk1
    split
    · split <;> split <;> simp
    · simp
  have le : ∀ l : List Nat, (l.flatMap (bkE w T)).length ≤ 2 * l.length := by
    intro l
    induction l with
    | nil => simp
    | cons a l ih =>
      rw [List.flatMap_cons, List.length_append, List.length_cons]
      have := le2 a
      omega
  refine ⟨((List.range 96).erase e).flatMap (bkE w T), all w, ?_, fun w' h => ?_⟩
  · have := le ((List.range 96).erase e)
    rw [List.length_erase_of_mem mem, List.length_range] at this
    omega
  · have e1 : ((List.range 96).erase e).flatMap (bkE w' T) = ((List.range 96).erase e).flatMap (bkE w T) := fl_cg (fun u hu => by
      have ne : ¬ u = e := fun y => by
        have nd : (List.range 96).Nodup := List.nodup_range
        rw [y] at hu
        exact (List.Nodup.not_mem_erase nd) hu
      unfold bkE bk2
      rw [h 44 u (by simp) ne, h 45 u (by simp) ne])
    rw [← e1]
    exact all w'
