/-! the model's segments: a new one, its rows, its book -/
def zBs (w w' : St) : Prop := (∀ k j o, ¬ k = 14 → ¬ (k = 19 ∧ (j = 7 ∨ j = 17)) → zgI w' k j o = zgI w k j o) ∧ (∀ k o i, ¬ (159 ≤ k ∧ k ≤ 161) → ¬ (k = 174 ∨ k = 176 ∨ k = 177) → ¬ (182 ≤ k ∧ k ≤ 185) → zgA w' k o i = zgA w k o i) ∧ (∀ k o i, ¬ (k = 175 ∨ k = 181) → zgL w' k o i = zgL w k o i) ∧ (∀ k o i, zgQ w' k o i = zgQ w k o i) ∧ ∀ k o i, zgR w' k o i = zgR w k o i
theorem zBs_rf (w : St) : zBs w w := ⟨fun _ _ _ _ _ => rfl, fun _ _ _ _ _ _ => rfl, fun _ _ _ _ => rfl, fun _ _ _ => rfl, fun _ _ _ => rfl⟩
theorem zBs_tr {x y z : St} (h1 : zBs x y) (h2 : zBs y z) : zBs x z := ⟨fun k j o a b => (h2.1 k j o a b).trans (h1.1 k j o a b), fun k o i a b c => (h2.2.1 k o i a b c).trans (h1.2.1 k o i a b c), fun k o i a => (h2.2.2.1 k o i a).trans (h1.2.2.1 k o i a), fun k o i => (h2.2.2.2.1 k o i).trans (h1.2.2.2.1 k o i), fun k o i => (h2.2.2.2.2 k o i).trans (h1.2.2.2.2 k o i)⟩
theorem zBs_bf {w w' : St} (h : zBf w w') : zBs w w' := ⟨fun k j o a b => h.1 k j o a (by omega), fun k o i a _ c => h.2.1 k o i a c, fun k o i a => h.2.2.1 k o i (by omega), h.2.2.2.1, h.2.2.2.2⟩
theorem zMV_bs {w w' : St} {T : Tp} {E : Ev} {K : Int32 → Int32 → Int32 → Prop} {g : Sg} {X X' TS TS' TA TB TB' : List Nat} (h : zMV w T E g K X TS TA TB) (f : zBs w w') (n : zNm w' T K g X' TS' TA TB') : zMV w' T E g K X' TS' TA TB' := by
  obtain ⟨h1, h2, h3, h4, ⟨h5, h6, -⟩, h7, h8⟩ := h
  have gI : ∀ k j o, ¬ k = 14 → ¬ (k = 19 ∧ (j = 7 ∨ j = 17)) → zgI w' k j o = zgI w k j o := f.1
  have gA : ∀ k o i, ¬ (159 ≤ k ∧ k ≤ 161) → ¬ (k = 174 ∨ k = 176 ∨ k = 177) → ¬ (182 ≤ k ∧ k ≤ 185) → zgA w' k o i = zgA w k o i := f.2.1
  have gQ := f.2.2.2.1
  have gR := f.2.2.2.2
  refine ⟨?_, h2, ?_, h4, ⟨?_, ?_, n⟩, ?_, ?_⟩
  · unfold zTM at h1 ⊢
    simp (disch := decide) only [gI, gQ, gR]
    exact h1
  · unfold zEm at h3 ⊢
    simp (disch := decide) only [gI]
    exact h3
  · unfold zTm at h5 ⊢
    simp (disch := decide) only [gI, gA]
    exact h5
  · unfold zCm at h6 ⊢
    simp (disch := decide) only [gI]
    exact h6
  · unfold zAm at h7 ⊢
    simp (disch := decide) only [gI, gA]
    exact h7
  · unfold zHm at h8 ⊢
    simp (disch := decide) only [gA]
    exact h8
theorem zNm_sg {w w' : St} {T : Tp} {K : Int32 → Int32 → Int32 → Prop} {g : Sg} {X TS TS' TA TB TB' : List Nat} {ms : List (Option Nat)} {mw : Nat → List Nat} (hc : zTc T) (h7 : zFm w T K (gF g) ms) (h8 : zWm w T K g mw) (h9 : zMp w (hold X ms mw) TS TA TB) (f : zBs w w') (hm : ∀ x, x < 2400 → x ∈ (hold X ms mw).filterMap (mgs w) → (∀ k, k < 10 → msg w' x k = msg w x k) ∧ ∀ i, i < 183 → zgL w' 175 0 (183 * x + i) = zgL w 175 0 (183 * x + i))
    (hrS : zRc (fun x => zgA w' 176 0 x) (fun i => zgA w' 177 0 i) (zgI w' 19 7 0) 2400 ((hold X ms mw).filterMap (mgs w) ++ TS')) (hrB : zRc (fun x => zgA w' 183 0 x) (fun i => zgA w' 185 0 i) (zgI w' 19 17 0) 2592 (zbks w' ((hold X ms mw).filterMap (mgs w) ++ TS') ++ TB')) (hix : ∀ s, s ∈ TS' → zIx (msg w' s 8) 2592) (hl : TS'.length + TA.length + TB'.length ≤ 5000) : zNm w' T K g X TS' TA TB' ∧ ∀ d D, d ∈ X → zMD w T K d D → zMD w' T K d D := by
  have hA : ∀ k, ¬ (159 ≤ k ∧ k ≤ 161) → ¬ (k = 174 ∨ k = 176 ∨ k = 177) → ¬ (182 ≤ k ∧ k ≤ 185) → ∀ i, zgA w' k 0 i = zgA w k 0 i := fun k a b c i => f.2.1 k 0 i a b c
  have em : ∀ d k, md w' d k = md w d k := fun d k => hA 172 (by omega) (by omega) (by omega) _
  have kk : ∀ d D, d ∈ hold X ms mw → zMD w T K d D → zMD w' T K d D := fun d D hd hD => by
    obtain ⟨⟨b0, b1, b2, b3, b4, b5⟩, ⟨c1, c2, c3, c4, c5, h1480⟩, hY⟩ := hD
    exact ⟨⟨b0, (em d 0).trans b1, (em d 1).trans b2, (em d 2).trans b3, (em d 3).trans b4, (em d 4).trans b5⟩, ⟨(em d 5).trans c1, (em d 6).trans c2, (em d 7).trans c3, (em d 8).trans c4, (em d 9).trans c5, h1480⟩, zMY_cg (fun k _ _ => em d k) (fun s hs e => hm s hs (List.mem_filterMap.mpr ⟨d, hd, mgs_of e hs⟩)) (fun a _ _ k _ => hA 178 (by omega) (by omega) (by omega) _) rfl rfl rfl rfl rfl h1480 hY⟩
  have e1 : mgs w' = mgs w := by funext d; unfold mgs; rw [em]
  have e2 : mga w' = mga w := by funext d; unfold mga; rw [em]
  have f173 : (fun i => zgA w' 173 0 i) = fun i => zgA w 173 0 i := funext (fun i => hA 173 (by omega) (by omega) (by omega) i)
  have f179 : (fun i => zgA w' 179 0 i) = fun i => zgA w 179 0 i := funext (fun i => hA 179 (by omega) (by omega) (by omega) i)
  have f180 : (fun i => zgA w' 180 0 i) = fun i => zgA w 180 0 i := funext (fun i => hA 180 (by omega) (by omega) (by omega) i)
  refine ⟨⟨ms, mw, zFm_cg (fun i => hA 188 (by omega) (by omega) (by omega) i) (f.1 19 23 0 (by omega) (by omega)) (fun d D he => kk d D (hold_mem.mpr (Or.inr (Or.inl he)))) h7, ⟨fun q hq => zWqm_cg (f.1 18 12 q (by omega) (by omega)) (fun i => f.2.1 170 q i (by omega) (by omega) (by omega)) (fun i => f.2.1 171 q i (by omega) (by omega) (by omega)) (fun d D he => kk d D (hold_mem.mpr (Or.inr (Or.inr ⟨q, tv_192 hc hq, he⟩)))) (h8.1 q hq), h8.2⟩, ?_⟩, fun d D hd => kk d D (hold_X d hd)⟩
  obtain ⟨⟨a1, a2, a3, a4⟩, a5, a6, a7, a8, a9⟩ := h9
  refine ⟨⟨a1, a2, ?_, hl⟩, fun d hd => by rw [em, em]; exact a5 d hd, ?_, ?_, ?_, fun s hs => ?_⟩
  · rw [f173, f.1 19 2 0 (by omega) (by omega)]; exact a3
  · rw [e1]; exact hrS
  · rw [f179, f180, f.1 19 11 0 (by omega) (by omega), e2]; exact a7
  · rw [e1]; exact hrB
  · rw [e1] at hs
    rcases List.mem_append.mp hs with y | y
    · have lt := hrS.1 s (List.mem_append.mpr (Or.inl y))
      rw [(hm s lt y).1 8 (by omega)]
      exact a9 s (List.mem_append.mpr (Or.inl y))
    · exact hix s y
theorem zm_setSg {w : St} {s k N : Nat} {v : Int32} (hs : s < 2400) (hk : k < 10) : fX19_setSeg N 0 (Int32.ofNat s) (Int32.ofNat k) v w = some (0, zsA w 174 0 (10 * s + k) v) := by
  unfold fX19_setSeg
  rw [zmu10, zkk (by omega) (by omega), zoC (by omega), zl_e]
def sgv (fl nu : Int32) (k : Nat) : Int32 := if k = 2 then fl else if k = 3 then nu else if k = 8 then -1 else 0
theorem zm_newSgL {r : Nat} {fl nu : Int32} {N : Nat} (hs : r < 2400) : ∀ (n i nn : Nat) (w : St), i + n = 10 → n < nn → ∃ w', fX19_newSegment_23 N nn 0 fl nu (Int32.ofNat r) (Int32.ofNat i) w = some (Int32.ofNat r, w') ∧ (∀ k o j, zgA w' k o j = if k = 176 ∧ o = 0 ∧ j = r then 1 else if k = 174 ∧ o = 0 ∧ j = 10 * r + 8 then -1 else if k = 174 ∧ o = 0 ∧ j = 10 * r + 3 then nu else if k = 174 ∧ o = 0 ∧ j = 10 * r + 2 then fl else if k = 174 ∧ o = 0 ∧ 10 * r + i ≤ j ∧ j < 10 * r + 10 then 0 else zgA w k o j) ∧ (∀ k j o, zgI w' k j o = zgI w k j o) ∧ (∀ k o i, zgL w' k o i = zgL w k o i) ∧ (∀ k o i, zgQ w' k o i = zgQ w k o i) ∧ ∀ k o i, zgR w' k o i = zgR w k o i := by
  intro n
  induction n with
  | zero =>
    intro i nn w h1 h2
    obtain ⟨nn, rfl⟩ : ∃ k, nn = k + 1 := ⟨nn - 1, by omega⟩
    have e1 : i = 10 := by omega
    subst e1
    refine ⟨zsA (zsA (zsA (zsA w 174 0 (10 * r + 2) fl) 174 0 (10 * r + 3) nu) 174 0 (10 * r + 8) (-1)) 176 0 r 1, ?_, fun k o j => ?_, fun _ _ _ => rfl, fun _ _ _ => rfl, fun _ _ _ => rfl, fun _ _ _ => rfl⟩
    · show fX19_newSegment_23b N _ 0 fl nu _ _ w = _
      unfold fX19_newSegment_23b
      have s2 : ∀ u v, fX19_setSeg N 0 (Int32.ofNat r) 2 v u = some (0, zsA u 174 0 (10 * r + 2) v) := fun u v => zm_setSg (k := 2) hs (by omega)
      have s3 : ∀ u v, fX19_setSeg N 0 (Int32.ofNat r) 3 v u = some (0, zsA u 174 0 (10 * r + 3) v) := fun u v => zm_setSg (k := 3) hs (by omega)
      have s8 : ∀ u v, fX19_setSeg N 0 (Int32.ofNat r) 8 v u = some (0, zsA u 174 0 (10 * r + 8) v) := fun u v => zm_setSg (k := 8) hs (by omega)
      rw [if_pos (by decide), s2, zc_e, s3, zc_e, s8, zc_e, zkk (by omega) (by omega), zoC (by omega), zl_e]
    · rw [zgA_sA, zgA_sA, zgA_sA, zgA_sA]
      by_cases c : k = 174 ∧ o = 0 ∧ 10 * r + 10 ≤ j ∧ j < 10 * r + 10
      · omega
      · rw [if_neg c]
  | succ n ih =>
    intro i nn w h1 h2
    obtain ⟨nn, rfl⟩ : ∃ k, nn = k + 1 := ⟨nn - 1, by omega⟩
    obtain ⟨w', g1, g2, g3, g4, g5, g6⟩ := ih (i + 1) nn (zsA w 174 0 (10 * r + i) 0) (by omega) (by omega)
    refine ⟨w', ?_, fun k o j => ?_, fun k j o => (g3 k j o).trans rfl, fun k o i => (g4 k o i).trans rfl, fun k o i => (g5 k o i).trans rfl, fun k o i => (g6 k o i).trans rfl⟩
    · show fX19_newSegment_23b N _ 0 fl nu _ _ w = _
      unfold fX19_newSegment_23b
      rw [if_neg (by rw [show (10 : Int32) = Int32.ofNat 10 from rfl, zo_le (by omega) (by omega)]; omega), zmu10, zkk (by omega) (by omega), zoC (by omega), zl_e, zo_i1, zl_e]
      exact g1
    · rw [g2]
      by_cases c1 : k = 176 ∧ o = 0 ∧ j = r
      · rw [if_pos c1, if_pos c1]
      · rw [if_neg c1, if_neg c1]
        by_cases c2 : k = 174 ∧ o = 0 ∧ j = 10 * r + 8
        · rw [if_pos c2, if_pos c2]
        · rw [if_neg c2, if_neg c2]
          by_cases c3 : k = 174 ∧ o = 0 ∧ j = 10 * r + 3
          · rw [if_pos c3, if_pos c3]
          · rw [if_neg c3, if_neg c3]
            by_cases c4 : k = 174 ∧ o = 0 ∧ j = 10 * r + 2
            · rw [if_pos c4, if_pos c4]
            · rw [if_neg c4, if_neg c4]
              by_cases c5 : k = 174 ∧ o = 0 ∧ 10 * r + i ≤ j ∧ j < 10 * r + 10
              · rw [if_pos c5]
                by_cases d : j = 10 * r + i
                · rw [if_neg (by omega), zgA_sA, if_pos ⟨c5.1, c5.2.1, d⟩]
                · rw [if_pos (by omega)]
              · rw [if_neg c5, if_neg (by omega), zgA_sA, if_neg (by omega)]
theorem zm_newSg {w : St} {T : Tp} {E : Ev} {K : Int32 → Int32 → Int32 → Prop} {g : Sg} {X TS TA TB : List Nat} {N : Nat} (fl nu : Int32) (h : zMV w T E g K X TS TA TB) (hX : X.length ≤ 40) (hW : ∀ q, tv T q → (gW g q).length ≤ 16) (hTS : TS.length ≤ 100) (hl : TS.length + 1 + TA.length + TB.length ≤ 5000) (hN : 10 < N) :
    ∃ w' s, fX19_newSegment N 0 fl nu w = some (Int32.ofNat s, w') ∧ s < 2400 ∧ s ∉ TS ∧ zMV w' T E g K X (s :: TS) TA TB ∧ zgA w' 176 0 s = 1 ∧ (∀ k, k < 10 → msg w' s k = sgv fl nu k) ∧ (∀ d D, d ∈ X → zMD w T K d D → zMD w' T K d D) ∧ (∀ k j o, ¬ (k = 19 ∧ j = 7) → zgI w' k j o = zgI w k j o) ∧ (∀ k o i, ¬ (k = 174 ∧ o = 0 ∧ 10 * s ≤ i ∧ i < 10 * s + 10) → ¬ (k = 176 ∧ o = 0 ∧ i = s) → zgA w' k o i = zgA w k o i) ∧ (∀ k o i, zgL w' k o i = zgL w k o i) ∧ (∀ k o i, zgQ w' k o i = zgQ w k o i) ∧ (∀ k o i, zgR w' k o i = zgR w k o i) ∧ zBs w w' := by
  have hc := h.2.1
  obtain ⟨ms, mw, h7, h8, h9⟩ := id h.2.2.2.2.1.2.2
  have hlen : (hold X ms mw).length ≤ 2088 := by
    unfold hold
    rw [List.length_append, List.length_append]
    have h1 := zWm_len16 hc hW h8
    have h2 : (ms.filterMap id).length ≤ ms.length := List.length_filterMap_le id ms
    have h3 := h7.1
    have h4 := h7.2.2.1
    omega
  have hfl : ((hold X ms mw).filterMap (mgs w) ++ TS).length < 2400 := by
    rw [List.length_append]
    have := List.length_filterMap_le (mgs w) (hold X ms mw)
    omega
  obtain ⟨k, c, k1, k2, k3, k4, k5, k6⟩ := zRc_new h9.2.2.1 hfl (by omega)
  have k3 : zgA w 177 0 k = Int32.ofNat c := k3
  obtain ⟨w', g1, g2, g3, g4, g5, g6⟩ := zm_newSgL (fl := fl) (nu := nu) (N := N) k4 10 0 N (zsI w 19 7 0 (Int32.ofNat k)) (by omega) hN
  have run : fX19_newSegment N 0 fl nu w = some (Int32.ofNat c, w') := by
    unfold fX19_newSegment
    have e2 : zgI (zsI w 19 7 0 (Int32.ofNat k)) 19 7 0 = Int32.ofNat k := by rw [zgI_sI, if_pos ⟨rfl, rfl, rfl⟩]
    have e3 : zgA (zsI w 19 7 0 (Int32.ofNat k)) 177 0 k = Int32.ofNat c := k3
    rw [k2, zl_e, e2, zkk (by omega) (by omega), zoC (by omega), e3, zl_e]
    exact g1
  have A : ∀ k o i, ¬ (k = 174 ∧ o = 0 ∧ 10 * c ≤ i ∧ i < 10 * c + 10) → ¬ (k = 176 ∧ o = 0 ∧ i = c) → zgA w' k o i = zgA w k o i := fun k o i n1 n2 => by
    rw [g2, if_neg n2, if_neg (by omega), if_neg (by omega), if_neg (by omega), if_neg (by omega)]; rfl
  have I : ∀ k j o, ¬ (k = 19 ∧ j = 7) → zgI w' k j o = zgI w k j o := fun k' j o n => by
    rw [g3, zgI_sI, if_neg (fun y => n ⟨y.1, y.2.1⟩)]
  have c7 : zgI w' 19 7 0 = Int32.ofNat k := by rw [g3, zgI_sI, if_pos ⟨rfl, rfl, rfl⟩]
  have M : ∀ k, k < 10 → msg w' c k = sgv fl nu k := fun k hk => by
    unfold msg sgv
    rw [g2, if_neg (by omega)]
    by_cases e8 : k = 8
    · rw [if_pos ⟨rfl, rfl, by omega⟩, if_neg (by omega), if_neg (by omega), if_pos e8]
    · rw [if_neg (by omega)]
      by_cases e3 : k = 3
      · rw [if_pos ⟨rfl, rfl, by omega⟩, if_neg (by omega), if_pos e3]
      · rw [if_neg (by omega)]
        by_cases e2 : k = 2
        · rw [if_pos ⟨rfl, rfl, by omega⟩, if_pos e2]
        · rw [if_neg (by omega), if_pos ⟨rfl, rfl, by omega, by omega⟩, if_neg e2, if_neg e3, if_neg e8]
  have f : zBs w w' := ⟨fun k j o _ b => I k j o (by omega), fun k o i _ b _ => A k o i (by omega) (by omega), fun k o i _ => g4 k o i, fun k o i => g5 k o i, fun k o i => g6 k o i⟩
  have hcL : c ∉ (hold X ms mw).filterMap (mgs w) := fun y => k5 (List.mem_append.mpr (Or.inl y))
  have hcT : c ∉ TS := fun y => k5 (List.mem_append.mpr (Or.inr y))
  have mo : ∀ x k, ¬ x = c → k < 10 → msg w' x k = msg w x k := fun x k n hk => A 174 0 _ (by omega) (by omega)
  obtain ⟨n1, n2⟩ := zNm_sg (w' := w') (TS' := c :: TS) (TB' := TB) hc h7 h8 h9 f (fun x hx hxm => ⟨fun k hk => mo x k (fun y => hcL (by rw [← y]; exact hxm)) hk, fun i _ => g4 175 0 _⟩) (by
    have e177 : (fun i => zgA w' 177 0 i) = (fun i => zgA w 177 0 i) := funext (fun i => A 177 0 i (by omega) (by omega))
    rw [e177, c7]
    refine zRc_perm List.perm_middle.symm (k6 _ (fun y => ?_))
    show zgA w' 176 0 y = if y = c then 1 else zgA w 176 0 y
    by_cases e : y = c
    · rw [g2, if_pos ⟨rfl, rfl, e⟩, if_pos e]
    · rw [A 176 0 y (by omega) (by omega), if_neg e]) (by
    have e183 : (fun i => zgA w' 183 0 i) = (fun i => zgA w 183 0 i) := funext (fun i => A 183 0 i (by omega) (by omega))
    have e185 : (fun i => zgA w' 185 0 i) = (fun i => zgA w 185 0 i) := funext (fun i => A 185 0 i (by omega) (by omega))
    have eb : zbks w' ((hold X ms mw).filterMap (mgs w) ++ c :: TS) = zbks w ((hold X ms mw).filterMap (mgs w) ++ TS) := by
      unfold zbks
      refine zfm_cg (fun s hs => ?_)
      by_cases e : s = c
      · subst e
        rw [if_pos (List.count_eq_zero.mpr k5)]
        have m8 : msg w' s 8 = -1 := (M 8 (by omega)).trans rfl
        rw [m8]
        split
        · rfl
        · rw [if_pos rfl]
      · have cc : ((hold X ms mw).filterMap (mgs w) ++ c :: TS).count s = ((hold X ms mw).filterMap (mgs w) ++ TS).count s := by
          rw [List.count_append, List.count_append, List.count_cons_of_ne (fun y => e y.symm)]
        rw [cc, mo s 8 e (by omega)]
    rw [e183, e185, I 19 17 0 (by omega), eb]
    exact h9.2.2.2.2.1) (fun s hs => by
    rcases List.mem_cons.mp hs with y | y
    · rw [y, M 8 (by omega)]; exact Or.inl rfl
    · rw [mo s 8 (fun q => hcT (by rw [← q]; exact y)) (by omega)]
      exact h9.2.2.2.2.2 s (List.mem_append.mpr (Or.inr y))) (by rw [List.length_cons]; omega)
  refine ⟨w', c, run, k4, hcT, zMV_bs h f n1, ?_, M, n2, I, A, fun k o i => g4 k o i, fun k o i => g5 k o i, fun k o i => g6 k o i, f⟩
  rw [g2, if_pos ⟨rfl, rfl, rfl⟩]
