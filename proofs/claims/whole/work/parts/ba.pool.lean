/-! the model's pool of adverts beside the network: bases hold some -/
theorem fm_ins {f f' : Nat → Option Nat} {k a : Nat} (hne : ∀ i, i ≠ k → f' i = f i) (h0 : f k = none) (h1 : f' k = some a) : ∀ n, k < n → ((List.range n).filterMap f').Perm (a :: (List.range n).filterMap f) := by
  have same : ∀ n, n ≤ k → (List.range n).filterMap f' = (List.range n).filterMap f := fun n hn => zfm_cg (fun i hi => hne i (by have := List.mem_range.mp hi; omega))
  intro n
  induction n with
  | zero => intro h; omega
  | succ n ih =>
    intro h
    rw [List.range_succ, List.filterMap_append, List.filterMap_append]
    by_cases c : k = n
    · subst c
      rw [same k (Nat.le_refl _)]
      have e0 : List.filterMap f [k] = [] := by simp [h0]
      have e1 : List.filterMap f' [k] = [a] := by simp [h1]
      rw [e0, e1, List.append_nil]
      exact List.perm_append_singleton a _
    · have e : List.filterMap f' [n] = List.filterMap f [n] := by
        simp only [List.filterMap_cons, List.filterMap_nil, hne n (fun y => c y.symm)]
      rw [e]
      exact (ih (by omega)).append_right _
def bi (w : St) (T : Tp) (i : Nat) : Option Nat := if i / 16 < tb T ∧ tr T (i / 16) = true ∧ zgA w 150 (i / 16) (i % 16) ≠ -1 then some (zgA w 150 (i / 16) (i % 16)).toNatClampNeg else none
/-- the adverts that bases hold -/
def zTA (w : St) (T : Tp) : List Nat := (List.range 256).filterMap (bi w T)
theorem zTA_cg {w w' : St} {T : Tp} (h : ∀ b k, b < tb T → k < 16 → zgA w' 150 b k = zgA w 150 b k) : zTA w' T = zTA w T := zfm_cg (fun i _ => by
  unfold bi
  by_cases c : i / 16 < tb T
  · rw [h _ _ c (by omega)]
  · rw [if_neg (fun y => c y.1), if_neg (fun y => c y.1)])
/-- a place of a base that was empty -/
theorem zTA_ins {w w' : St} {T : Tp} {b k a : Nat} (hc : zTc T) (hb : b < tb T) (hr : tr T b = true) (hk : k < 16) (ha : a < 2400) (h0 : zgA w 150 b k = -1) (h1 : zgA w' 150 b k = Int32.ofNat a) (hne : ∀ c i, ¬ (c = b ∧ i = k) → zgA w' 150 c i = zgA w 150 c i) : (zTA w' T).Perm (a :: zTA w T) := by
  have hb16 := hc.1
  have d : (16 * b + k) / 16 = b := by omega
  have m : (16 * b + k) % 16 = k := by omega
  refine fm_ins (k := 16 * b + k) (fun i hi => ?_) ?_ ?_ 256 (by omega)
  · unfold bi
    rw [hne (i / 16) (i % 16) (fun y => hi (by omega))]
  · unfold bi
    rw [d, m, if_neg (fun y => y.2.2 h0)]
  · unfold bi
    rw [d, m, h1, if_pos ⟨hb, hr, zo_ne1 (by omega)⟩, zoC (by omega)]
theorem zTA_len (w : St) (T : Tp) : (zTA w T).length ≤ 256 := by
  have := List.length_filterMap_le (bi w T) (List.range 256)
  simpa [zTA] using this
theorem zMp_TA {w w' : St} {H TS TA TA' TB : List Nat} (h : zMp w H TS TA TB) (hA : ∀ k o i, k ≠ 178 → k ≠ 179 → k ≠ 180 → zgA w' k o i = zgA w k o i) (hI : ∀ k j o, ¬ (k = 19 ∧ j = 11) → zgI w' k j o = zgI w k j o) (hr : zRc (fun x => zgA w' 179 0 x) (fun i => zgA w' 180 0 i) (zgI w' 19 11 0) 2400 (H.filterMap (mga w) ++ TA')) (hl : TS.length + TA'.length + TB.length ≤ 5000) : zMp w' H TS TA' TB := by
  obtain ⟨⟨h1, h2, h3, h4⟩, h5, h6, h7, h8, h9⟩ := h
  have em : ∀ d k, md w' d k = md w d k := fun d k => hA 172 0 _ (by omega) (by omega) (by omega)
  have es : ∀ d k, msg w' d k = msg w d k := fun d k => hA 174 0 _ (by omega) (by omega) (by omega)
  have e1 : mgs w' = mgs w := by funext d; unfold mgs; rw [em]
  have e2 : mga w' = mga w := by funext d; unfold mga; rw [em]
  have e3 : ∀ L, zbks w' L = zbks w L := fun L => zbks_cg (fun _ _ => Iff.rfl) (fun s _ _ => es s 8)
  have f173 : (fun i => zgA w' 173 0 i) = fun i => zgA w 173 0 i := funext (fun i => hA 173 0 i (by omega) (by omega) (by omega))
  have f176 : (fun i => zgA w' 176 0 i) = fun i => zgA w 176 0 i := funext (fun i => hA 176 0 i (by omega) (by omega) (by omega))
  have f177 : (fun i => zgA w' 177 0 i) = fun i => zgA w 177 0 i := funext (fun i => hA 177 0 i (by omega) (by omega) (by omega))
  have f183 : (fun i => zgA w' 183 0 i) = fun i => zgA w 183 0 i := funext (fun i => hA 183 0 i (by omega) (by omega) (by omega))
  have f185 : (fun i => zgA w' 185 0 i) = fun i => zgA w 185 0 i := funext (fun i => hA 185 0 i (by omega) (by omega) (by omega))
  refine ⟨⟨h1, h2, ?_, hl⟩, fun d hd => by rw [em, em]; exact h5 d hd, ?_, ?_, ?_, fun s hs => ?_⟩
  · rw [f173, hI 19 2 0 (by omega)]; exact h3
  · rw [f176, f177, hI 19 7 0 (by omega), e1]; exact h6
  · rw [e2]; exact hr
  · rw [f183, f185, hI 19 17 0 (by omega), e1, e3]; exact h8
  · rw [e1] at hs; rw [es]; exact h9 s hs
theorem zMp_permTA {w : St} {H TS TA TA' TB : List Nat} (hp : TA.Perm TA') (h : zMp w H TS TA TB) : zMp w H TS TA' TB := zMp_TA h (fun _ _ _ _ _ _ => rfl) (fun _ _ _ _ => rfl) (zRc_perm (hp.append_left _) h.2.2.2.1) (by rw [← hp.length_eq]; exact h.1.2.2.2)
theorem zMV_permTA {w : St} {T : Tp} {E : Ev} {K : Int32 → Int32 → Int32 → Prop} {g : Sg} {X TS TA TA' TB : List Nat} (hp : TA.Perm TA') (h : zMV w T E g K X TS TA TB) : zMV w T E g K X TS TA' TB := by
  obtain ⟨h1, h2, h3, h4, ⟨h5, h6, ms, mw, h7, h8, h9⟩, h10, h11⟩ := h
  exact ⟨h1, h2, h3, h4, ⟨h5, h6, ms, mw, h7, h8, zMp_permTA hp h9⟩, h10, h11⟩
/-- what only the adverts' pool sees changes -/
theorem zNm_TA {w w' : St} {T : Tp} {K : Int32 → Int32 → Int32 → Prop} {g : Sg} {X TS TA TA' TB : List Nat} (hc : zTc T) (h : zNm w T K g X TS TA TB) (hA : ∀ k o i, k ≠ 179 → k ≠ 180 → zgA w' k o i = zgA w k o i) (hI : ∀ k j o, ¬ (k = 19 ∧ j = 11) → zgI w' k j o = zgI w k j o) (hL : ∀ k o i, zgL w' k o i = zgL w k o i) (hr : ∀ H, zMp w H TS TA TB → (∀ d, d ∈ X → d ∈ H) → zRc (fun x => zgA w' 179 0 x) (fun i => zgA w' 180 0 i) (zgI w' 19 11 0) 2400 (H.filterMap (mga w) ++ TA')) (hl : TS.length + TA'.length + TB.length ≤ 5000) : zNm w' T K g X TS TA' TB ∧ zKm X w w' := by
  obtain ⟨ms, mw, h7, h8, h9⟩ := h
  have km : zKm (hold X ms mw) w w' := ⟨fun d k _ _ => hA 172 0 _ (by omega) (by omega), fun k i => hA 174 k i (by omega) (by omega), fun k i => hA 178 k i (by omega) (by omega), fun k o i => hL k o i⟩
  have kmX : zKm X w w' := zKm_sub (fun d hd => hold_X d hd) km
  refine ⟨⟨ms, mw, ?_, ?_, zMp_TA h9 (fun k o i _ a b => hA k o i a b) hI (hr _ h9 (fun d hd => hold_X d hd)) hl⟩, kmX⟩
  · obtain ⟨a1, a2, a3, a4⟩ := h7
    refine ⟨a1, (hI 19 23 0 (by omega)).trans a2, a3, fun i f' m hf hm => ?_⟩
    obtain ⟨⟨b1, b2, b3, b4⟩, b5⟩ := a4 i f' m hf hm
    have e : ∀ j, zgA w' 188 0 j = zgA w 188 0 j := fun j => hA 188 0 j (by omega) (by omega)
    refine ⟨⟨(e _).trans b1, (e _).trans b2, (e _).trans b3, (e _).trans b4⟩, ?_⟩
    rcases b5 with b5 | b5 | ⟨c1, c2, d, c3, c4, c5, c6, c7⟩
    · exact Or.inl ⟨b5.1, b5.2.1, (e _).trans b5.2.2.1, (e _).trans b5.2.2.2.1, (e _).trans b5.2.2.2.2⟩
    · exact Or.inr (Or.inl ⟨b5.1, b5.2.1, (e _).trans b5.2.2.1, (e _).trans b5.2.2.2.1, (e _).trans b5.2.2.2.2⟩)
    · refine Or.inr (Or.inr ⟨c1, c2, d, c3, (e _).trans c4, (e _).trans c5, (e _).trans c6, zKm_MD km ?_ c7⟩)
      rw [c3] at hm
      exact hold_mem.mpr (Or.inr (Or.inl (List.mem_of_getElem? hm)))
  · refine ⟨fun q hq => ?_, h8.2⟩
    obtain ⟨a1, a2, a3, a4⟩ := h8.1 q hq
    refine ⟨a1, a2, (hI 18 12 q (by omega)).trans a3, fun i D d hD hd => ?_⟩
    obtain ⟨b1, b2, b3⟩ := a4 i D d hD hd
    refine ⟨(hA 170 q i (by omega) (by omega)).trans b1, (hA 171 q i (by omega) (by omega)).trans b2, zKm_MD km ?_ b3⟩
    exact hold_mem.mpr (Or.inr (Or.inr ⟨q, tv_192 hc hq, List.mem_of_getElem? hd⟩))
/-- an advert is held once more -/
theorem zm_holdTA {w : St} {T : Tp} {E : Ev} {K : Int32 → Int32 → Int32 → Prop} {g : Sg} {X TS TA TB : List Nat} {d a : Nat} (h : zMV w T E g K X TS TA TB) (hd : d ∈ X) (ha : md w d 11 = Int32.ofNat a) (ha2 : a < 2400) (hl : TS.length + (TA.length + 1) + TB.length ≤ 5000) : zMV (zsA w 179 0 a (zgA w 179 0 a + 1)) T E g K X TS (a :: TA) TB ∧ zKm X w (zsA w 179 0 a (zgA w 179 0 a + 1)) := by
  obtain ⟨n, k⟩ := zNm_TA (w' := zsA w 179 0 a (zgA w 179 0 a + 1)) (TA' := a :: TA) h.2.1 h.2.2.2.2.1.2.2 (fun k o i h1 _ => by rw [zgA_sA, if_neg (fun y => h1 y.1)]) (fun _ _ _ _ => rfl) (fun _ _ _ => rfl) (fun H hM hX => by
    have hmem : a ∈ H.filterMap (mga w) ++ TA := List.mem_append.mpr (Or.inl (List.mem_filterMap.mpr ⟨d, hX d hd, mga_of ha ha2⟩))
    have r := zRc_hold (held' := fun x => zgA (zsA w 179 0 a (zgA w 179 0 a + 1)) 179 0 x) hM.2.2.2.1 hmem (fun y => zA_if y)
    exact zRc_perm (List.perm_middle.symm) r) (by simp; omega)
  exact ⟨zMV_up (M := 0x8000000000000000000000000000000000000000000000000000000000000000000000000000000000000000000000000000000000000000000000000000000000000000000000000000000000000000000000000000000000000000000000000000000000000000000000000000000000000000000000000000000000000000000000000000000000000000000000000000000000000000000000000000000000000000000000000000) (zFr_A (zFr_rf _ _) (by decide)) (by decide) n h, k⟩
/-- an advert is held once less -/
theorem zm_dropTA {w : St} {T : Tp} {E : Ev} {K : Int32 → Int32 → Int32 → Prop} {g : Sg} {X TS TA TB : List Nat} {a N : Nat} (h : zMV w T E g K X TS (a :: TA) TB) : ∃ w', fX19_dropAdvert N 0 (Int32.ofNat a) w = some (0, w') ∧ zMV w' T E g K X TS TA TB ∧ zKm X w w' ∧ (∀ k o i, k ≠ 179 → k ≠ 180 → zgA w' k o i = zgA w k o i) ∧ (∀ k j o, ¬ (k = 19 ∧ j = 11) → zgI w' k j o = zgI w k j o) ∧ (∀ k o i, zgL w' k o i = zgL w k o i) ∧ zFr mX19_dropAdvert w w' := by
  have hn := h.2.2.2.2.1.2.2
  obtain ⟨ms, mw, h7, h8, h9⟩ := hn
  have hH : (hold X ms mw).length ≤ 2400 := by
    have := zlen_sub h9.1.1 (fun x hx => List.mem_range.mpr (h9.1.2.1 x hx))
    simpa using this
  have hf : ((hold X ms mw).filterMap (mga w)).length ≤ 2400 := Nat.le_trans (List.length_filterMap_le _ _) hH
  have hlen := h9.1.2.2.2
  simp only [List.length_cons] at hlen
  have r := zRc_perm (List.perm_middle) h9.2.2.2.1
  obtain ⟨w', r1, r2, r3, r4, r5⟩ := zm_dropAdvert (N := N) (by rw [List.length_append]; omega) r
  have fw : zFr mX19_dropAdvert w w' := wX19_dropAdvert (Nat.and_self _) (zFr_rf _ _) _ _ r1
  have hn' : zNm w T K g X TS (a :: TA) TB := h.2.2.2.2.1.2.2
  obtain ⟨n, k⟩ := zNm_TA (w' := w') (TA' := TA) h.2.1 ⟨ms, mw, h7, h8, h9⟩ r3 r4 r5 (fun H hM hX => by
    have hf' : (H.filterMap (mga w)).length ≤ 2400 := Nat.le_trans (List.length_filterMap_le _ _) (by
      have := zlen_sub hM.1.1 (fun x hx => List.mem_range.mpr (hM.1.2.1 x hx))
      simpa using this)
    obtain ⟨w2, s1, s2, -⟩ := zm_dropAdvert (N := N) (by rw [List.length_append]; omega) (zRc_perm (List.perm_middle) hM.2.2.2.1)
    rw [r1] at s1
    have : w' = w2 := (congrArg Prod.snd (Option.some.inj s1))
    rw [this]; exact s2) (by omega)
  exact ⟨w', r1, zMV_up fw (by decide) n h, k, r3, r4, r5, fw⟩
