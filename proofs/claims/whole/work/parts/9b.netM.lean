/-! the model's side of the network -/
/-- two and four bytes of a payload, highest first -/
def g2 (p : Nat → Int32) (i : Nat) : Int32 := ((p i &&& (255 : Int32)) <<< ((8 : Int32) &&& 31)) ||| (p (i + 1) &&& (255 : Int32))
def g4 (p : Nat → Int32) (i : Nat) : Int32 := (g2 p i <<< ((16 : Int32) &&& 31)) ||| g2 p (i + 2)
/-- a byte of a segment -/
def sby (w : St) (s i : Nat) : Int32 := (Int32.toInt8 (Int64.toInt32 ((zgL w 175 0 (183 * s + i / 8)) >>> ((((8 : Int32) * (Int32.ofNat i &&& (7 : Int32)))).toInt64 &&& 63)))).toInt32
def zMS (w : St) (K : Int32 → Int32 → Int32 → Prop) (s : Nat) (D : Dg) : Prop := msg w s 0 = g2 D.2 0 ∧ msg w s 1 = g2 D.2 2 ∧ msg w s 2 = g2 D.2 12 ∧ msg w s 3 = g4 D.2 4 ∧ msg w s 4 = g4 D.2 8 ∧ msg w s 5 = g2 D.2 14 ∧ msg w s 6 = g2 D.2 16 ∧ msg w s 7 = Int32.ofNat (dw D - 20) ∧ 20 ≤ dw D ∧ (∀ i, i < dw D - 20 → sby w s i = D.2 (20 + i)) ∧ (¬ (g2 D.2 12 &&& (1 : Int32)) = 0 → K (D.1 9) (msg w s 8) (msg w s 9))
def mad (w : St) (a k : Nat) : Int32 := zgA w 178 0 (76 * a + k)
def zMA (w : St) (a : Nat) (D : Dg) : Prop := mad w a 0 = g2 D.2 0 ∧ mad w a 1 = g4 D.2 2 ∧ ∃ nN nF, nN + nF ≤ 24 ∧ mad w a 2 = Int32.ofNat nN ∧ mad w a 3 = Int32.ofNat nF ∧ g2 D.2 6 = Int32.ofNat (nN + nF) ∧ dw D = 12 + 6 * (nN + nF) ∧ (∀ k, k < nN + nF → mad w a (4 + 3 * k) = g2 D.2 (12 + 6 * k) - 1 ∧ mad w a (5 + 3 * k) = g2 D.2 (14 + 6 * k) ∧ mad w a (6 + 3 * k) = g2 D.2 (16 + 6 * k) ∧ (g2 D.2 (12 + 6 * k) = 0 ↔ k < nN)) ∧ ∀ k, 4 + 3 * (nN + nF) ≤ k → k < 76 → mad w a k = 0
/-- the names of a greeting, as bits -/
def gnm (p : Nat → Int32) : Nat → Int32
  | 0 => 0
  | k + 1 => gnm p k ||| ((1 : Int32) <<< (g2 p (8 + 2 * k) &&& 31))
/-- the payload of a datagram in the model -/
def zMY (w : St) (T : Tp) (K : Int32 → Int32 → Int32 → Prop) (d : Nat) (D : Dg) : Prop :=
  (D.1 2 = 1 → ∃ s, s < 2400 ∧ md w d 10 = Int32.ofNat s ∧ md w d 11 = -1 ∧ zMS w K s D) ∧
  (D.1 2 = 0 → md w d 10 = -1 ∧ md w d 11 = -1 ∧ md w d 14 = g4 D.2 0 ∧ md w d 15 = g4 D.2 4 ∧ md w d 16 = g2 D.2 8 ∧ md w d 17 = g2 D.2 10) ∧
  (D.1 2 = 2 → md w d 10 = -1 ∧ md w d 11 = -1 ∧ md w d 12 = g2 D.2 0 ∧ ∃ k, k ≤ 16 ∧ g2 D.2 2 = Int32.ofNat k ∧ md w d 13 = gnm D.2 k) ∧
  (D.1 2 = 3 → md w d 10 = -1 ∧ (∃ p, tv T p ∧ D.1 0 = zad p ∧ md w d 12 = Int32.ofNat (tw T p)) ∧ ∃ a, a < 2400 ∧ md w d 11 = Int32.ofNat a ∧ zMA w a D) ∧
  (D.1 2 = 4 → md w d 10 = -1 ∧ md w d 11 = -1 ∧ (∃ p, tv T p ∧ D.1 0 = zad p ∧ md w d 12 = Int32.ofNat (tw T p)) ∧ md w d 13 = (g2 D.2 0 <<< ((24 : Int32) &&& 31)) ||| g4 D.2 2)
def zMD (w : St) (T : Tp) (K : Int32 → Int32 → Int32 → Prop) (d : Nat) (D : Dg) : Prop :=
  (d < 2400 ∧ md w d 0 = D.1 0 ∧ md w d 1 = D.1 1 ∧ md w d 2 = D.1 2 ∧ md w d 3 = D.1 3 ∧ md w d 4 = D.1 4) ∧
  (md w d 5 = D.1 6 ∧ md w d 6 = D.1 5 ∧ md w d 7 = zbi (decide (df D + dl D < dw D)) ∧ md w d 8 = zbi (decide (dl D < dw D)) ∧ md w d 9 = D.1 10 ∧ dw D ≤ 1480) ∧ zMY w T K d D
/-- what a datagram's payload rests on -/
theorem zMY_cg {w w' : St} {T : Tp} {K : Int32 → Int32 → Int32 → Prop} {d d' : Nat} {D D' : Dg} (hm : ∀ k, 10 ≤ k → k < 18 → md w' d' k = md w d k) (hs : ∀ s, s < 2400 → md w d 10 = Int32.ofNat s → (∀ k, k < 10 → msg w' s k = msg w s k) ∧ ∀ i, i < 183 → zgL w' 175 0 (183 * s + i) = zgL w 175 0 (183 * s + i)) (ha : ∀ a, a < 2400 → md w d 11 = Int32.ofNat a → ∀ k, k < 76 → mad w' a k = mad w a k) (h2 : D'.2 = D.2) (hD2 : D'.1 2 = D.1 2) (hD0 : D'.1 0 = D.1 0) (hD9 : D'.1 9 = D.1 9) (hw : dw D' = dw D) (h1480 : dw D ≤ 1480) (h : zMY w T K d D) : zMY w' T K d' D' := by
  obtain ⟨a1, a2, a3, a4, a5⟩ := h
  have m10 := hm 10 (by omega) (by omega)
  have m11 := hm 11 (by omega) (by omega)
  have m12 := hm 12 (by omega) (by omega)
  have m13 := hm 13 (by omega) (by omega)
  have m14 := hm 14 (by omega) (by omega)
  have m15 := hm 15 (by omega) (by omega)
  have m16 := hm 16 (by omega) (by omega)
  have m17 := hm 17 (by omega) (by omega)
  unfold zMY
  rw [hD2, hD0, h2, m10, m11, m12, m13, m14, m15, m16, m17]
  refine ⟨fun e => ?_, a2, a3, fun e => ?_, a5⟩
  · obtain ⟨s, b1, b2, b3, b4⟩ := a1 e
    obtain ⟨c1, c2⟩ := hs s b1 b2
    obtain ⟨e0, e1, e2, e3, e4, e5, e6, e7, e8, e9, e10⟩ := b4
    refine ⟨s, b1, b2, b3, ?_⟩
    unfold zMS
    rw [h2, hw, hD9, c1 0 (by omega), c1 1 (by omega), c1 2 (by omega), c1 3 (by omega), c1 4 (by omega), c1 5 (by omega), c1 6 (by omega), c1 7 (by omega), c1 8 (by omega), c1 9 (by omega)]
    refine ⟨e0, e1, e2, e3, e4, e5, e6, e7, e8, fun i hi => ?_, e10⟩
    have : sby w' s i = sby w s i := by
      unfold sby
      rw [c2 (i / 8) (by omega)]
    rw [this]
    exact e9 i hi
  · obtain ⟨b1, b2, a, b3, b4, b5⟩ := a4 e
    have c := ha a b3 b4
    obtain ⟨e0, e1, nN, nF, e2, e3, e4, e5, e6, e7, e8⟩ := b5
    refine ⟨b1, b2, a, b3, b4, ?_⟩
    unfold zMA
    rw [h2, hw, c 0 (by omega), c 1 (by omega), c 2 (by omega), c 3 (by omega)]
    refine ⟨e0, e1, nN, nF, e2, e3, e4, e5, e6, fun k hk => ?_, fun k h1 h2 => ?_⟩
    · rw [c _ (by omega), c _ (by omega), c _ (by omega)]; exact e7 k hk
    · rw [c _ (by omega)]; exact e8 k h1 h2
/-- the same datagram, or a copy of it, in another state -/
theorem zMD_cg {w w' : St} {T : Tp} {K : Int32 → Int32 → Int32 → Prop} {d d' : Nat} {D D' : Dg} (hd : d' < 2400) (hm : ∀ k, k < 18 → md w' d' k = md w d k) (hs : ∀ k i, zgA w' 174 k i = zgA w 174 k i) (hb : ∀ k i, zgL w' 175 k i = zgL w 175 k i) (ha : ∀ k i, zgA w' 178 k i = zgA w 178 k i) (h2 : D'.2 = D.2) (hj : ∀ j, j < 11 → D'.1 j = D.1 j) (h : zMD w T K d D) : zMD w' T K d' D' := by
  obtain ⟨⟨b0, b1, b2, b3, b4, b5⟩, ⟨c1, c2, c3, c4, c5, h1480⟩, hY⟩ := h
  have el : dl D' = dl D := by unfold dl; rw [hj 6 (by omega)]
  have ef : df D' = df D := by unfold df; rw [hj 5 (by omega)]
  have ew : dw D' = dw D := by unfold dw; rw [hj 7 (by omega)]
  refine ⟨⟨hd, ?_, ?_, ?_, ?_, ?_⟩, ⟨?_, ?_, ?_, ?_, ?_, by rw [ew]; exact h1480⟩, zMY_cg (fun k _ hk => hm k hk) (fun s _ _ => ⟨fun k _ => hs 0 _, fun i _ => hb 0 _⟩) (fun a _ _ k _ => ha 0 _) h2 (hj 2 (by omega)) (hj 0 (by omega)) (hj 9 (by omega)) ew h1480 hY⟩
  · rw [hm 0 (by omega), hj 0 (by omega)]; exact b1
  · rw [hm 1 (by omega), hj 1 (by omega)]; exact b2
  · rw [hm 2 (by omega), hj 2 (by omega)]; exact b3
  · rw [hm 3 (by omega), hj 3 (by omega)]; exact b4
  · rw [hm 4 (by omega), hj 4 (by omega)]; exact b5
  · rw [hm 5 (by omega), hj 6 (by omega)]; exact c1
  · rw [hm 6 (by omega), hj 5 (by omega)]; exact c2
  · rw [hm 7 (by omega), el, ef, ew]; exact c3
  · rw [hm 8 (by omega), el, ew]; exact c4
  · rw [hm 9 (by omega), hj 10 (by omega)]; exact c5
def zEm (w : St) (T : Tp) (E : Ev) : Prop := zgI w 19 24 0 = Int32.ofNat (eN E) ∧ ∀ n, n < tn T → zgI w 16 1 n = Int32.ofNat (eL E n) ∧ zgI w 16 2 n = Int32.ofNat (eD E n) ∧ zgI w 16 3 n = zbi (eU E n)
def zTm (w : St) (T : Tp) (g : Sg) : Prop := ∀ n, n < tn T → (gT g n).length ≤ 64 ∧ zgI w 16 7 n = Int32.ofNat (gT g n).length ∧ (∀ i x, (gT g n)[i]? = some x → zgA w 165 n i = x) ∧ ∀ x, x ∈ gT g n → x = 0 ∨ x = 1 ∨ x = 2 ∨ x = 3
def zCm (w : St) (T : Tp) (g : Sg) : Prop := (∀ n, n < tn T → zgI w 16 8 n = gP g n) ∧ (∀ b, b < tb T → zgI w 12 7 b = gC g b) ∧ zgI w 19 27 0 = Int32.ofNat (gS g)
def zAm (w : St) (T : Tp) (g : Sg) : Prop := ∀ q, tv T q → zgI w 18 9 q = Int32.ofNat (gA g q).length ∧ ∀ i a, (gA g q)[i]? = some a → zgA w 168 q i = Int32.ofNat a.1 ∧ zgA w 169 q i = Int32.ofNat a.2
def zHm (w : St) (T : Tp) (g : Sg) : Prop := ∀ q s, tv T q → s < 8 → zgA w 167 q s = if gH g q s = 0 then (-1000000 : Int32) else Int32.ofNat (gH g q s)
def zFr1 (w : St) (T : Tp) (K : Int32 → Int32 → Int32 → Prop) (i : Nat) (f : Fr) (m : Option Nat) : Prop :=
  (zgA w 188 0 (7 * i) = f.2.1 12 ∧ zgA w 188 0 (7 * i + 1) = f.2.1 13 ∧ zgA w 188 0 (7 * i + 2) = f.2.1 11 ∧ zgA w 188 0 (7 * i + 6) = Int32.ofNat f.1) ∧
  ((f.2.1 2 = 5 ∧ m = none ∧ zgA w 188 0 (7 * i + 3) = 0 ∧ zgA w 188 0 (7 * i + 4) = f.2.1 1 ∧ zgA w 188 0 (7 * i + 5) = -1) ∨
   (f.2.1 2 = 6 ∧ m = none ∧ zgA w 188 0 (7 * i + 3) = 1 ∧ zgA w 188 0 (7 * i + 4) = 0 ∧ zgA w 188 0 (7 * i + 5) = -1) ∨
   (¬ f.2.1 2 = 5 ∧ ¬ f.2.1 2 = 6 ∧ ∃ d, m = some d ∧ zgA w 188 0 (7 * i + 3) = 2 ∧ zgA w 188 0 (7 * i + 4) = 0 ∧ zgA w 188 0 (7 * i + 5) = Int32.ofNat d ∧ zMD w T K d f.2))
def zFm (w : St) (T : Tp) (K : Int32 → Int32 → Int32 → Prop) (fr : List Fr) (ms : List (Option Nat)) : Prop := ms.length = fr.length ∧ zgI w 19 23 0 = Int32.ofNat fr.length ∧ fr.length ≤ 512 ∧ ∀ i f m, fr[i]? = some f → ms[i]? = some m → zFr1 w T K i f m
def zWqm (w : St) (T : Tp) (K : Int32 → Int32 → Int32 → Prop) (q : Nat) (W : List Dg) (l : List Nat) : Prop := l.length = W.length ∧ W.length ≤ 17 ∧ zgI w 18 12 q = Int32.ofNat W.length ∧ ∀ i D d, W[i]? = some D → l[i]? = some d → zgA w 170 q i = Int32.ofNat d ∧ zgA w 171 q i = D.1 11 ∧ zMD w T K d D
def zWm (w : St) (T : Tp) (K : Int32 → Int32 → Int32 → Prop) (g : Sg) (mw : Nat → List Nat) : Prop := (∀ q, tv T q → zWqm w T K q (gW g q) (mw q)) ∧ ∀ q, ¬ tv T q → mw q = []
/-- all datagrams that are held: X by the model's hands, ms by frames, mw by what waits -/
def hold (X : List Nat) (ms : List (Option Nat)) (mw : Nat → List Nat) : List Nat := X ++ (ms.filterMap id ++ (List.range 192).flatMap mw)
theorem tv_192 {T : Tp} (hc : zTc T) {p : Nat} (h : tv T p) : p < 192 := by
  have := tv_24 hc h
  have := hc.2.2.1 _ h.1
  have := h.2
  omega
def tvb (T : Tp) (p : Nat) : Bool := decide (p / 8 < tn T) && decide (p % 8 < ts T (p / 8))
theorem tvb_iff {T : Tp} {p : Nat} : tvb T p = true ↔ tv T p := by
  unfold tvb tv
  rw [Bool.and_eq_true, decide_eq_true_eq, decide_eq_true_eq]
theorem tvb_cnt {T : Tp} (hc : zTc T) (l : List Nat) (hl : l.Nodup) : (l.filter (tvb T)).length ≤ 96 := by
  have hn : ((l.filter (tvb T)).map (fun p => 6 * tw T p + ti T p)).Nodup := by
    have key : ∀ (L : List Nat), L.Nodup → (∀ p, p ∈ L → tv T p) → (L.map (fun p => 6 * tw T p + ti T p)).Nodup := by
      intro L
      induction L with
      | nil => intro _ _; exact List.nodup_nil
      | cons a L ih =>
        intro h1 h2
        obtain ⟨h3, h4⟩ := List.nodup_cons.mp h1
        rw [List.map_cons, List.nodup_cons]
        refine ⟨fun m => ?_, ih h4 (fun p hp => h2 p (List.mem_cons_of_mem _ hp))⟩
        obtain ⟨b, hb, e⟩ := List.mem_map.mp m
        have va := h2 a List.mem_cons_self
        have vb := h2 b (List.mem_cons_of_mem _ hb)
        obtain ⟨w1, w2, w3⟩ := hc.2.2.2.2.2.1 a va
        obtain ⟨x1, x2, x3⟩ := hc.2.2.2.2.2.1 b vb
        have y1 := tp_le hc w1
        have y2 := tp_le hc x1
        have e1 : tw T b = tw T a := by omega
        have e2 : ti T b = ti T a := by omega
        have : b = a := by rw [← x3, ← w3, e1, e2]
        exact h3 (by rw [← this]; exact hb)
    exact key _ (hl.filter _) (fun p hp => tvb_iff.mp (List.mem_filter.mp hp).2)
  have := zlen_sub hn (b := List.range 96) (fun x hx => by
    obtain ⟨p, hp, rfl⟩ := List.mem_map.mp hx
    have v := tvb_iff.mp (List.mem_filter.mp hp).2
    obtain ⟨w1, w2, w3⟩ := hc.2.2.2.2.2.1 p v
    have y1 := tp_le hc w1
    have := hc.1
    exact List.mem_range.mpr (by omega))
  simpa using this
theorem zWm_len {w : St} {T : Tp} {K : Int32 → Int32 → Int32 → Prop} {g : Sg} {mw : Nat → List Nat} (hc : zTc T) (h : zWm w T K g mw) : ((List.range 192).flatMap mw).length ≤ 1632 := by
  have key : ∀ (l : List Nat), (l.flatMap mw).length ≤ 17 * (l.filter (tvb T)).length := by
    intro l
    induction l with
    | nil => simp
    | cons a l ih =>
      rw [List.flatMap_cons, List.length_append, List.filter_cons]
      by_cases c : tvb T a = true
      · rw [if_pos c]
        have := h.1 a (tvb_iff.mp c)
        have h1 := this.1
        have h2 := this.2.1
        simp only [List.length_cons]
        omega
      · rw [if_neg c, h.2 a (fun y => c (tvb_iff.mpr y))]
        simpa using ih
  have h1 := key (List.range 192)
  have h2 := tvb_cnt hc (List.range 192) List.nodup_range
  omega
/-- the model's side of the network: X held by the model's hands, K ties makers to books, TS, TA, TB are held beside -/
def zMN (w : St) (T : Tp) (E : Ev) (g : Sg) (K : Int32 → Int32 → Int32 → Prop) (X TS TA TB : List Nat) : Prop :=
  (zTM w T ∧ zTc T ∧ zEm w T E ∧ zEw T E ∧ X.length ≤ 100) ∧ (zTm w T g ∧ zCm w T g ∧ zAm w T g ∧ zHm w T g) ∧ ∃ ms mw, zFm w T K (gF g) ms ∧ zWm w T K g mw ∧ zMp w (hold X ms mw) TS TA TB
theorem hold_len {w : St} {T : Tp} {K : Int32 → Int32 → Int32 → Prop} {g : Sg} {X : List Nat} {ms : List (Option Nat)} {mw : Nat → List Nat} (hc : zTc T) (hX : X.length ≤ 100) (hF : zFm w T K (gF g) ms) (hW : zWm w T K g mw) : (hold X ms mw).length < 2300 := by
  unfold hold
  rw [List.length_append, List.length_append]
  have h1 := zWm_len hc hW
  have h2 : (ms.filterMap id).length ≤ ms.length := List.length_filterMap_le id ms
  have h3 := hF.1
  have h4 := hF.2.2.1
  omega
theorem zEm_fr {M : Nat} {z z' : St} {T : Tp} {E : Ev} (f : zFr M z z') (hm : 0x100000000000000000000000000000000000000000000000000000e0000000000000000000000000000000000000000000000000000000000000000000000000000000000000000000000000000000000000000000000000000000000000000000000000000000000000000000000000000000000000000000000000000000000000000000000000000000000000000000000000000000000000000 &&& M = 0) (h : zEm z T E) : zEm z' T E := by
  refine ⟨(zFr_gI f (by decide) (ztf hm (by decide)) 0).trans h.1, fun n hn => ?_⟩
  obtain ⟨h1, h2, h3⟩ := h.2 n hn
  exact ⟨(zFr_gI f (by decide) (ztf hm (by decide)) n).trans h1, (zFr_gI f (by decide) (ztf hm (by decide)) n).trans h2, (zFr_gI f (by decide) (ztf hm (by decide)) n).trans h3⟩
theorem zTm_fr {M : Nat} {z z' : St} {T : Tp} {g : Sg} (f : zFr M z z') (hm : 0x2000000000000000000000000000000000000000000000000000000000000000000000000000000800000000000000000000000000000000000000000000000000000000000000000000000000000000000000000000000000000000000000000000000000000000000000000000000000000000000000000000000000000000000000000000000000000000000000000000000000000000000000000000000000000000000000000 &&& M = 0) (h : zTm z T g) : zTm z' T g := by
  intro n hn
  obtain ⟨h1, h2, h3, h4⟩ := h n hn
  exact ⟨h1, (zFr_gI f (by decide) (ztf hm (by decide)) n).trans h2, fun i x hx => (zFr_gA f (ztf hm (by decide)) n i).trans (h3 i x hx), h4⟩
theorem zCm_fr {M : Nat} {z z' : St} {T : Tp} {g : Sg} (f : zFr M z z') (hm : 0x80000000000000000000000000000000000000000000000000001000000000000000000000000000000000000000000000000000000000000000080000000000000000000000000000000000000000000000000000000000000000000000000000000000000000000000000000000000000000000000000000000000000000000000000000000000000000000000000000000000000000000000000 &&& M = 0) (h : zCm z T g) : zCm z' T g := ⟨fun n hn => (zFr_gI f (by decide) (ztf hm (by decide)) n).trans (h.1 n hn), fun b hb => (zFr_gI f (by decide) (ztf hm (by decide)) b).trans (h.2.1 b hb), (zFr_gI f (by decide) (ztf hm (by decide)) 0).trans h.2.2⟩
theorem zAm_fr {M : Nat} {z z' : St} {T : Tp} {g : Sg} (f : zFr M z z') (hm : 0x30000000000000000000000000000000000000000000000200000000000000000000000000000000000000000000000000000000000000000000000000000000000000000000000000000000000000000000000000000000000000000000000000000000000000000000000000000000000000000000000000000000000000000000000000000000000000000000000000000000000000000000000000000000000000000000000000 &&& M = 0) (h : zAm z T g) : zAm z' T g := by
  intro q hq
  obtain ⟨h1, h2⟩ := h q hq
  exact ⟨(zFr_gI f (by decide) (ztf hm (by decide)) q).trans h1, fun i a ha => ⟨(zFr_gA f (ztf hm (by decide)) q i).trans (h2 i a ha).1, (zFr_gA f (ztf hm (by decide)) q i).trans (h2 i a ha).2⟩⟩
theorem zHm_fr {M : Nat} {z z' : St} {T : Tp} {g : Sg} (f : zFr M z z') (hm : 0x8000000000000000000000000000000000000000000000000000000000000000000000000000000000000000000000000000000000000000000000000000000000000000000000000000000000000000000000000000000000000000000000000000000000000000000000000000000000000000000000000000000000000000000000000000000000000000000000000000000000000000000000000000000000000000000000000 &&& M = 0) (h : zHm z T g) : zHm z' T g := fun q s hq hs => (zFr_gA f (ztf hm (by decide)) q s).trans (h q s hq hs)
/-- what frames and rows rest on, kept in another state -/
theorem zFr1_cg {w w' : St} {T : Tp} {K : Int32 → Int32 → Int32 → Prop} {i : Nat} {f : Fr} {m : Option Nat} (h188 : ∀ k, zgA w' 188 0 k = zgA w 188 0 k) (hD : ∀ d, m = some d → zMD w T K d f.2 → zMD w' T K d f.2) (h : zFr1 w T K i f m) : zFr1 w' T K i f m := by
  obtain ⟨a, b⟩ := h
  refine ⟨by rw [h188, h188, h188, h188]; exact a, ?_⟩
  rw [h188, h188, h188]
  rcases b with b | b | ⟨b1, b2, d, b3, b4, b5, b6, b7⟩
  · exact Or.inl b
  · exact Or.inr (Or.inl b)
  · exact Or.inr (Or.inr ⟨b1, b2, d, b3, b4, b5, b6, hD d b3 b7⟩)
theorem zFm_cg {w w' : St} {T : Tp} {K : Int32 → Int32 → Int32 → Prop} {fr : List Fr} {ms : List (Option Nat)} (h188 : ∀ k, zgA w' 188 0 k = zgA w 188 0 k) (h23 : zgI w' 19 23 0 = zgI w 19 23 0) (hD : ∀ d D, some d ∈ ms → zMD w T K d D → zMD w' T K d D) (h : zFm w T K fr ms) : zFm w' T K fr ms := ⟨h.1, h23.trans h.2.1, h.2.2.1, fun i f m hf hm => zFr1_cg h188 (fun d e => hD d f.2 (by rw [← e]; exact List.mem_of_getElem? hm)) (h.2.2.2 i f m hf hm)⟩
theorem zWqm_cg {w w' : St} {T : Tp} {K : Int32 → Int32 → Int32 → Prop} {q : Nat} {W : List Dg} {l : List Nat} (h12 : zgI w' 18 12 q = zgI w 18 12 q) (h170 : ∀ i, zgA w' 170 q i = zgA w 170 q i) (h171 : ∀ i, zgA w' 171 q i = zgA w 171 q i) (hD : ∀ d D, d ∈ l → zMD w T K d D → zMD w' T K d D) (h : zWqm w T K q W l) : zWqm w' T K q W l := ⟨h.1, h.2.1, h12.trans h.2.2.1, fun i D d hD' hd => by
  obtain ⟨a, b, c⟩ := h.2.2.2 i D d hD' hd
  exact ⟨(h170 i).trans a, (h171 i).trans b, hD d D (List.mem_of_getElem? hd) c⟩⟩
theorem hold_mem {X : List Nat} {ms : List (Option Nat)} {mw : Nat → List Nat} {d : Nat} : d ∈ hold X ms mw ↔ d ∈ X ∨ some d ∈ ms ∨ ∃ q, q < 192 ∧ d ∈ mw q := by
  unfold hold
  rw [List.mem_append, List.mem_append, List.mem_filterMap, List.mem_flatMap]
  constructor
  · rintro (h | ⟨a, ha, e⟩ | ⟨q, hq, hd⟩)
    · exact Or.inl h
    · simp only [id] at e
      rw [e] at ha
      exact Or.inr (Or.inl ha)
    · exact Or.inr (Or.inr ⟨q, List.mem_range.mp hq, hd⟩)
  · rintro (h | h | ⟨q, hq, hd⟩)
    · exact Or.inl h
    · exact Or.inr (Or.inl ⟨some d, h, rfl⟩)
    · exact Or.inr (Or.inr ⟨q, List.mem_range.mpr hq, hd⟩)
