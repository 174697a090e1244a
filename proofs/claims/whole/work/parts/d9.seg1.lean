/-! a segment as both sides see it; what is told of a window -/
/-- flags, number, thanked, window, largest, how many bytes, the bytes -/
abbrev Sv : Type := Int32 × Int32 × Int32 × Int32 × Int32 × Nat × (Nat → Int32)
def vgF (V : Sv) : Int32 := V.1
def vgN (V : Sv) : Int32 := V.2.1
def vgT (V : Sv) : Int32 := V.2.2.1
def vgW (V : Sv) : Int32 := V.2.2.2.1
def vgL (V : Sv) : Int32 := V.2.2.2.2.1
def vgM (V : Sv) : Nat := V.2.2.2.2.2.1
def vgB (V : Sv) : Nat → Int32 := V.2.2.2.2.2.2
def vgK (V : Sv) (k : Int32) : Bool := decide (¬ vgF V &&& k = 0)
def vSz (V : Sv) : Nat := vgM V + (if vgK V 1 then 1 else 0) + (if vgK V 2 then 1 else 0)
/-- the class's parcel behind readHead; the model's segment -/
def zSgC (z : St) (x : Nat) (V : Sv) : Prop := (zgI z 7 15 x = vgF V ∧ zgI z 7 16 x = vgN V ∧ zgI z 7 17 x = vgT V ∧ zgI z 7 18 x = vgW V ∧ zgI z 7 19 x = vgL V ∧ zgI z 7 7 x = Int32.ofNat (20 + vgM V)) ∧ vgM V ≤ 1460 ∧ ∀ i, i < vgM V → zgA z 125 x (20 + i) = vgB V i
def zSgM (w : St) (s : Nat) (V : Sv) : Prop := s < 2400 ∧ (msg w s 2 = vgF V ∧ msg w s 3 = vgN V ∧ msg w s 4 = vgT V ∧ msg w s 5 = vgW V ∧ msg w s 6 = vgL V ∧ msg w s 7 = Int32.ofNat (vgM V)) ∧ vgM V ≤ 1460 ∧ ∀ i, i < vgM V → sby w s i = vgB V i
theorem zSgC_cg {z z' : St} {x : Nat} {V : Sv} (h7 : ∀ j, zgI z' 7 j x = zgI z 7 j x) (ha : ∀ i, zgA z' 125 x i = zgA z 125 x i) (h : zSgC z x V) : zSgC z' x V := by
  obtain ⟨⟨a1, a2, a3, a4, a5, a6⟩, b, c⟩ := h
  exact ⟨⟨(h7 15).trans a1, (h7 16).trans a2, (h7 17).trans a3, (h7 18).trans a4, (h7 19).trans a5, (h7 7).trans a6⟩, b, fun i hi => (ha _).trans (c i hi)⟩
theorem zSgC_ec {z z' : St} {e x : Nat} {V : Sv} (c : zEc1 e z z') (h : zSgC z x V) : zSgC z' x V := zSgC_cg (fun j => c.1 7 j x (by omega)) (fun i => c.2.1 125 x i (by omega)) h
theorem zSgM_cg {w w' : St} {s : Nat} {V : Sv} (h7 : ∀ i, zgA w' 174 0 i = zgA w 174 0 i) (hl : ∀ i, zgL w' 175 0 i = zgL w 175 0 i) (h : zSgM w s V) : zSgM w' s V := by
  obtain ⟨s0, ⟨a1, a2, a3, a4, a5, a6⟩, b, c⟩ := h
  exact ⟨s0, ⟨(h7 _).trans a1, (h7 _).trans a2, (h7 _).trans a3, (h7 _).trans a4, (h7 _).trans a5, (h7 _).trans a6⟩, b, fun i hi => by unfold sby; rw [hl]; exact c i hi⟩
theorem zSgM_em {w w' : St} {e s : Nat} {V : Sv} (c : zEm1 e w w') (h : zSgM w s V) : zSgM w' s V := zSgM_cg (fun i => c.2.1 174 0 i (by omega)) (fun i => c.2.2.1 175 0 i) h
theorem zc_hasf {z : St} {x N : Nat} {V : Sv} (k : Int32) (h : zSgC z x V) : fX7_has N x k z = some (zbi (vgK V k), z) := by
  unfold fX7_has vgK
  rw [h.1.1]
  by_cases c : vgF V &&& k = 0
  · rw [if_pos c, decide_eq_false (fun y => y c)]; rfl
  · rw [if_neg c, decide_eq_true c]; rfl
theorem zm_hasf {w : St} {s N : Nat} {V : Sv} (k : Int32) (h : zSgM w s V) : fX19_has N 0 (Int32.ofNat s) k w = some (zbi (vgK V k), w) := by
  unfold fX19_has vgK
  rw [show (2 : Int32) = Int32.ofNat 2 from rfl, zm_seg h.1 (by omega), zc_e, h.2.1.1]
  by_cases c : vgF V &&& k = 0
  · rw [if_pos c, decide_eq_false (fun y => y c)]; rfl
  · rw [if_neg c, decide_eq_true c]; rfl
theorem zm_sgN {w : St} {s N : Nat} {V : Sv} (h : zSgM w s V) : fX19_seg N 0 (Int32.ofNat s) 3 w = some (vgN V, w) := by
  have := zm_seg (w := w) (N := N) h.1 (show 3 < 10 by omega); rw [h.2.1.2.1] at this; exact this
theorem zm_sgT {w : St} {s N : Nat} {V : Sv} (h : zSgM w s V) : fX19_seg N 0 (Int32.ofNat s) 4 w = some (vgT V, w) := by
  have := zm_seg (w := w) (N := N) h.1 (show 4 < 10 by omega); rw [h.2.1.2.2.1] at this; exact this
theorem zm_sgW {w : St} {s N : Nat} {V : Sv} (h : zSgM w s V) : fX19_seg N 0 (Int32.ofNat s) 5 w = some (vgW V, w) := by
  have := zm_seg (w := w) (N := N) h.1 (show 5 < 10 by omega); rw [h.2.1.2.2.2.1] at this; exact this
theorem zm_sgL {w : St} {s N : Nat} {V : Sv} (h : zSgM w s V) : fX19_seg N 0 (Int32.ofNat s) 6 w = some (vgL V, w) := by
  have := zm_seg (w := w) (N := N) h.1 (show 6 < 10 by omega); rw [h.2.1.2.2.2.2.1] at this; exact this
theorem zm_sgM {w : St} {s N : Nat} {V : Sv} (h : zSgM w s V) : fX19_seg N 0 (Int32.ofNat s) 7 w = some (Int32.ofNat (vgM V), w) := by
  have := zm_seg (w := w) (N := N) h.1 (show 7 < 10 by omega); rw [h.2.1.2.2.2.2.2] at this; exact this
theorem vSz_le {V : Sv} (h : vgM V ≤ 1460) : vSz V ≤ 1462 := by
  unfold vSz; split <;> split <;> omega
theorem zc_bytes {z : St} {x N : Nat} {V : Sv} (h : zSgC z x V) : fX7_bytes N x z = some (Int32.ofNat (vgM V), z) := by
  unfold fX7_bytes
  have := h.2.1
  rw [h.1.2.2.2.2.2, show (20 : Int32) = Int32.ofNat 20 from rfl, zo_sub (by omega), show 20 + vgM V - 20 = vgM V from by omega, zmax0_of (by omega)]
theorem zc_size {z : St} {x N : Nat} {V : Sv} (h : zSgC z x V) : fX7_size N x z = some (Int32.ofNat (vSz V), z) := by
  have hm := h.2.1
  have t33 : ∀ v : Nat, fX7_size_33 N x (Int32.ofNat v) z = some (Int32.ofNat (v + (if vgK V 2 then 1 else 0)), z) := fun v => by
    unfold fX7_size_33 vgK
    rw [h.1.1]
    by_cases c : vgF V &&& 2 = 0
    · rw [if_pos c, decide_eq_false (fun y => y c)]; rfl
    · rw [if_neg c, decide_eq_true c, show (1 : Int32) = Int32.ofNat 1 from rfl, zo_add]; rfl
  have t20 : ∀ v : Nat, fX7_size_20 N x (Int32.ofNat v) z = some (Int32.ofNat (v + (if vgK V 1 then 1 else 0) + (if vgK V 2 then 1 else 0)), z) := fun v => by
    unfold fX7_size_20
    rw [h.1.1]
    by_cases c : vgF V &&& 1 = 0
    · rw [if_pos c, t33]; unfold vgK; rw [decide_eq_false (p := ¬ vgF V &&& 1 = 0) (fun y => y c)]; rfl
    · rw [if_neg c, show Int32.ofNat v + 1 = Int32.ofNat (v + 1) from zo_add v 1, zl_e, t33]; unfold vgK; rw [decide_eq_true (p := ¬ vgF V &&& 1 = 0) c]; rfl
  unfold fX7_size
  rw [h.1.2.2.2.2.2, show (20 : Int32) = Int32.ofNat 20 from rfl]
  by_cases c : vgM V = 0
  · rw [if_pos (by rw [zo_le (by omega) (by omega)]; omega), show (0 : Int32) = Int32.ofNat 0 from rfl, t20]; unfold vSz; rw [c]
  · rw [if_neg (by rw [zo_le (by omega) (by omega)]; omega), zo_sub (by omega), show 20 + vgM V - 20 = vgM V from by omega, t20]; rfl
theorem zm_size {w : St} {s N : Nat} {V : Sv} (h : zSgM w s V) : fX19_sizeOf N 0 (Int32.ofNat s) w = some (Int32.ofNat (vSz V), w) := by
  have t14 : ∀ v : Nat, fX19_sizeOf_14 N 0 (Int32.ofNat s) (Int32.ofNat v) w = some (Int32.ofNat (v + vgM V + (if vgK V 2 then 1 else 0)), w) := fun v => by
    unfold fX19_sizeOf_14
    rw [zm_sgM h, zc_e, zm_hasf 2 h, zc_e, zo_add]
    cases vgK V 2
    · rw [if_pos (by decide), show (0 : Int32) = Int32.ofNat 0 from rfl, zo_add]; rfl
    · rw [if_neg (by decide), show (1 : Int32) = Int32.ofNat 1 from rfl, zo_add]; rfl
  unfold fX19_sizeOf vSz
  rw [zm_hasf 1 h, zc_e]
  cases vgK V 1
  · rw [if_pos (by decide), show (0 : Int32) = Int32.ofNat 0 from rfl, t14, Nat.zero_add]; rfl
  · rw [if_neg (by decide), show (1 : Int32) = Int32.ofNat 1 from rfl, t14, Nat.add_comm 1]; rfl
/-- is one number before another one -/
def zbf (a b : Int32) : Bool := decide (¬ b - a ≤ 0)
theorem zc_bf (a b : Int32) (z : St) (N : Nat) : fX11_isBefore N a b z = some (zbi (zbf a b), z) := by
  unfold fX11_isBefore zbf
  by_cases c : b - a ≤ 0
  · rw [if_pos c, decide_eq_false (fun y => y c)]; rfl
  · rw [if_neg c, decide_eq_true c]; rfl
theorem zm_bf (a b : Int32) (z : St) (N : Nat) : fX19_isBefore N a b z = some (zbi (zbf a b), z) := by
  unfold fX19_isBefore zbf
  by_cases c : b - a ≤ 0
  · rw [if_pos c, decide_eq_false (fun y => y c)]; rfl
  · rw [if_neg c, decide_eq_true c]; rfl
theorem zRo_win {z z' w w' : St} {e : Nat} (hc : ∀ j, j < 64 → ¬ (j = 11 ∨ j = 12 ∨ j = 13) → zgI z' 6 j e = zgI z 6 j e) (ha : ∀ i, zgA z' 124 e i = zgA z 124 e i) (hm : ∀ j, 5 ≤ j ∧ j ≤ 9 → zgI w' 14 j e = zgI w 14 j e) (hb : ∀ i, zgA w' 159 e i = zgA w 159 e i) (h11 : zgI z' 6 11 e = zgI w' 14 11 e) (h12 : zgI z' 6 12 e = zgI w' 14 12 e) (h13 : zgI z' 6 13 e = zgI w' 14 13 e) (h : zRo z w e) : zRo z' w' e := by
  obtain ⟨⟨f4, f5, f6, f8, f81, -⟩, h⟩ := h
  refine ⟨⟨?_, ?_, ?_, ?_, ?_, h11, h12, h13⟩, ?_⟩
  · rw [hc 4 (by omega) (by omega), hm 5 (by omega)]; exact f4
  · rw [hc 5 (by omega) (by omega), hm 6 (by omega)]; exact f5
  · rw [hc 6 (by omega) (by omega), hm 7 (by omega)]; exact f6
  · rw [hc 8 (by omega) (by omega), hm 9 (by omega)]; exact f8
  · rw [hc 8 (by omega) (by omega)]; exact f81
  · simp (disch := decide) only [hc, hm, ha, hb]
    exact h
theorem zRt_ch {z z' w w' : St} {e : Nat} (h0 : (zgI z' 10 0 e = 0 ∧ zgI w' 14 33 e = 0) ∨ (¬ zgI z' 10 0 e = 0 ∧ zgI w' 14 33 e = 1 ∧ zgI z' 10 0 e = zgI w' 14 34 e)) (h1 : zgI z' 10 1 e = zgI w' 14 36 e) (hc : ∀ j, 2 ≤ j ∧ j < 64 → zgI z' 10 j e = zgI z 10 j e) (hm : ∀ j, j = 35 ∨ (37 ≤ j ∧ j ≤ 42) → zgI w' 14 j e = zgI w 14 j e) (h : zRt z w e) : zRt z' w' e := by
  obtain ⟨-, -, h⟩ := h
  refine ⟨h0, h1, ?_⟩
  rw [hc 2 (by omega), hc 3 (by omega), hc 4 (by omega), hc 5 (by omega), hc 6 (by omega), hc 7 (by omega), hc 8 (by omega), hm 35 (by omega), hm 37 (by omega), hm 38 (by omega), hm 39 (by omega), hm 40 (by omega), hm 41 (by omega), hm 42 (by omega)]
  exact h
