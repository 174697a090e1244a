abbrev rmX8_firstWaitingFor : Room := { frames := 0, cells := 0, slots := 0, locals := 0 }
theorem hdX8_firstWaitingFor : yX8_firstWaitingFor.cls ≠ "java/lang/invoke/MethodHandle" ∧ yX8_firstWaitingFor.cls ≠ "java/lang/invoke/VarHandle" ∧ (parseMethodDescriptor yX8_firstWaitingFor.desc).map (fun d => d.parameters.length) = some 1 := by decide +kernel
section SX8_firstWaitingFor
variable {p : Program} {l : Launch} {e : Env} {s : State} {m : MethodId} {args : Array Value} {below : List Frame} {meth : Method} {c : Code} {Q : State → Prop} {D : va_G} {cy : Nat → ClassId} {B : Nat → Nat → Nat} {ids : List (Nat × Nat)} {A : Nat → Prop}
def fX8_firstWaitingFor_2b (N : Nat) (K2 : Nat → Int32 → Int32 → St → Option (Int32 × St)) (x0 : Nat) (x1 : Int32) (x2 : Int32) (z : St) : Option (Int32 × St) := if (zgI z 8 12 x0) ≤ x2 then (some ((-1 : Int32), z)) else (zk x2 17 <| zl (zgQ z 130 x0 (Int32.toNatClampNeg x2)) fun y3 => zd y3 fun a4 => if ¬ (zgI z 7 11 a4) = x1 then (zl (x2 + 1) fun v6 => K2 x0 x1 v6 z) else (some (x2, z)))
def fX8_firstWaitingFor_2 (N : Nat)  : Nat → Nat → Int32 → Int32 → St → Option (Int32 × St)
  | 0 => fun _ _ _ _ => none
  | n + 1 => fX8_firstWaitingFor_2b N (fX8_firstWaitingFor_2 N  n)
set_option maxHeartbeats 4000000 in
set_option maxRecDepth 100000 in
theorem bX8_firstWaitingFor_2 (hst : zSt B ids) (F : zFx p m c cX8_firstWaitingFor 3 s args RX8 D cy B ids A) (hA : ∀ q : Nat, s.heap.size ≤ q → A q) {r : Int32} {z' : St} (E : zEnd p l e rmX8_firstWaitingFor s m args below meth c cX8_firstWaitingFor D cy B ids A Q (some (.int r)) z' .ireturn True) {N : Nat} {K2 : Nat → Int32 → Int32 → St → Option (Int32 × St)} (hK2 : ∀ (x0 : Nat) (x1 : Int32) (x2 : Int32) (hx0 : (8, x0) ∈ ids) {z : St} {H : Heap} {locs : List Loc} {ls : Array Slot} (hr : zRep D cy B ids A s.heap z H locs) (hl : lv_has ls 3 [(0, .ref (B 8 x0)), (1, .int x1), (2, .int x2)]), K2 x0 x1 x2 z = some (r, z') → W p l e rmX8_firstWaitingFor s m args below meth c H locs 0 0 Q (F0 m 2 ls [])) (x0 : Nat) (x1 : Int32) (x2 : Int32) (hx0 : (8, x0) ∈ ids) {z : St} {H : Heap} {locs : List Loc} {ls : Array Slot} (hr : zRep D cy B ids A s.heap z H locs) (hl : lv_has ls 3 [(0, .ref (B 8 x0)), (1, .int x1), (2, .int x2)]) (h : fX8_firstWaitingFor_2b N K2 x0 x1 x2 z = some (r, z')) : W p l e rmX8_firstWaitingFor s m args below meth c H locs 0 0 Q (F0 m 2 ls []) := by
  unfold fX8_firstWaitingFor_2b at h
  refine lv_iload_n F.1 F.2.1 dX8_firstWaitingFor_2 rfl (lv_at hl 2 rfl) ?_
  refine lv_aload_n F.1 F.2.1 dX8_firstWaitingFor_3 rfl (lv_at hl 0 rfl) ?_
  refine gf8_61 F hx0 hr dX8_firstWaitingFor_4 ?_
  refine lv_icmp_ge (tgt := 31) F.1 F.2.1 dX8_firstWaitingFor_7 (by decide) (fun c1 => ?_) (fun c1 => ?_)
  · replace h := zi_t c1 h
    refine lv_iconst (v := (-1 : Int32)) F.1 F.2.1 dX8_firstWaitingFor_31 (by decide) ?_
    obtain ⟨rfl, rfl⟩ := zret h
    exact E _ _ _ _ dX8_firstWaitingFor_32 trivial hr
  · replace h := zi_f c1 h
    refine lv_aload_n F.1 F.2.1 dX8_firstWaitingFor_10 rfl (lv_at hl 0 rfl) ?_
    refine gf8_30 F hx0 hr dX8_firstWaitingFor_11 ?_
    refine lv_iload_n F.1 F.2.1 dX8_firstWaitingFor_14 rfl (lv_at hl 2 rfl) ?_
    replace h := zk_some h
    obtain ⟨c2, h⟩ := h
    refine zr_aaldv (k := 130) (by decide) rfl rfl (zlen_d (by decide)) F (zal_a F hx0 (j := 11) rfl) hr dX8_firstWaitingFor_15 c2 (fun y3 ey3 => ?_)
    replace h := zl_sub ey3 h
    have hy3 := zal_q hr (zal_a F hx0 (j := 11) rfl) rfl ey3
    clear ey3
    replace h := zd_some h
    obtain ⟨a4, rfl, h⟩ := h
    refine gf8_71 F (hy3 _ rfl) hr dX8_firstWaitingFor_16 ?_
    refine lv_iload_n F.1 F.2.1 dX8_firstWaitingFor_19 rfl (lv_at hl 1 rfl) ?_
    refine lv_icmp_ne (tgt := 25) F.1 F.2.1 dX8_firstWaitingFor_20 (by decide) (fun c5 => ?_) (fun c5 => ?_)
    · replace h := zi_t c5 h
      obtain ⟨v6, ev6⟩ : ∃ y : Int32, y = (x2 + 1) := ⟨_, rfl⟩
      replace h := zl_sub ev6 h
      refine lv_iinc (v := v6) (lv' := [(2, .int v6), (0, .ref (B 8 x0)), (1, .int x1)]) F.1 F.2.1 dX8_firstWaitingFor_25 hl (k := 2) rfl (by rw [ev6]; rfl) (by decide) rfl (fun ls hl => ?_)
      refine lv_goto (tgt := 2) F.1 F.2.1 dX8_firstWaitingFor_28 (by decide) ?_
      exact hK2 x0 x1 v6 hx0 hr (lv_sub hl [1, 2, 0] rfl) h
    · replace h := zi_f (fun q => q c5) h
      refine lv_iload_n F.1 F.2.1 dX8_firstWaitingFor_23 rfl (lv_at hl 2 rfl) ?_
      obtain ⟨rfl, rfl⟩ := zret h
      exact E _ _ _ _ dX8_firstWaitingFor_24 trivial hr
theorem lX8_firstWaitingFor_2 (hst : zSt B ids) (F : zFx p m c cX8_firstWaitingFor 3 s args RX8 D cy B ids A) (hA : ∀ q : Nat, s.heap.size ≤ q → A q) {r : Int32} {z' : St} (E : zEnd p l e rmX8_firstWaitingFor s m args below meth c cX8_firstWaitingFor D cy B ids A Q (some (.int r)) z' .ireturn True) {N : Nat}  : ∀ (n : Nat) (x0 : Nat) (x1 : Int32) (x2 : Int32) (hx0 : (8, x0) ∈ ids) {z : St} {H : Heap} {locs : List Loc} {ls : Array Slot} (hr : zRep D cy B ids A s.heap z H locs) (hl : lv_has ls 3 [(0, .ref (B 8 x0)), (1, .int x1), (2, .int x2)]), fX8_firstWaitingFor_2 N  n x0 x1 x2 z = some (r, z') → W p l e rmX8_firstWaitingFor s m args below meth c H locs 0 0 Q (F0 m 2 ls []) := by
  intro n
  induction n with
  | zero => intro x0 x1 x2 hx0 z H locs ls hr hl h; cases h
  | succ n ih => intro x0 x1 x2 hx0 z H locs ls hr hl h; exact bX8_firstWaitingFor_2 hst F hA E ih x0 x1 x2 hx0 hr hl h
def fX8_firstWaitingFor (N : Nat)  (x0 : Nat) (x1 : Int32) (z : St) : Option (Int32 × St) := fX8_firstWaitingFor_2 N N x0 x1 (0 : Int32) z
set_option maxHeartbeats 4000000 in
set_option maxRecDepth 100000 in
theorem bX8_firstWaitingFor_0 (hst : zSt B ids) (F : zFx p m c cX8_firstWaitingFor 3 s args RX8 D cy B ids A) (hA : ∀ q : Nat, s.heap.size ≤ q → A q) {r : Int32} {z' : St} (E : zEnd p l e rmX8_firstWaitingFor s m args below meth c cX8_firstWaitingFor D cy B ids A Q (some (.int r)) z' .ireturn True) {N : Nat}  (x0 : Nat) (x1 : Int32) (hx0 : (8, x0) ∈ ids) {z : St} {H : Heap} {locs : List Loc} {ls : Array Slot} (hr : zRep D cy B ids A s.heap z H locs) (hl : lv_has ls 3 [(0, .ref (B 8 x0)), (1, .int x1)]) (h : fX8_firstWaitingFor N x0 x1 z = some (r, z')) : W p l e rmX8_firstWaitingFor s m args below meth c H locs 0 0 Q (F0 m 0 ls []) := by
  unfold fX8_firstWaitingFor at h
  refine lv_iconst (v := (0 : Int32)) F.1 F.2.1 dX8_firstWaitingFor_0 (by decide) ?_
  refine lv_istore_n (lv' := [(2, .int (0 : Int32)), (0, .ref (B 8 x0)), (1, .int x1)]) F.1 F.2.1 dX8_firstWaitingFor_1 rfl hl (by decide) rfl (fun ls hl => ?_)
  exact lX8_firstWaitingFor_2 hst F hA E  _ x0 x1 (0 : Int32) hx0 hr (lv_sub hl [1, 2, 0] rfl) h
end SX8_firstWaitingFor
set_option maxRecDepth 100000 in
theorem okX8_firstWaitingFor (l : Launch) (D : va_G) (cy : Nat → ClassId) (B : Nat → Nat → Nat) (ids : List (Nat × Nat)) (hst : zSt B ids) (N : Nat) (x0 : Nat) (hx0 : (8, x0) ∈ ids) (x1 : Int32) {z : St} {r : Int32} {z' : St} (hW : zWf ids z) (h : fX8_firstWaitingFor N x0 x1 z = some (r, z')) : zM l yX8_firstWaitingFor (zws yX8_firstWaitingFor cX8_firstWaitingFor 3 (some .int)) rmX8_firstWaitingFor D cy B ids [.ref (B 8 x0), .int x1] (some (.int r)) True z z' :=
  zM_of hst hW (by decide +kernel) (Nat.le_of_ble_eq_true rfl) (fun p e s m args below meth c A ls F hA hret hlocks hr hl => bX8_firstWaitingFor_0 hst F hA (zEnd_i F hret hlocks) x0 x1 hx0 hr hl h)
abbrev rmX8_countWaitingFor : Room := { frames := 0, cells := 0, slots := 0, locals := 0 }
theorem hdX8_countWaitingFor : yX8_countWaitingFor.cls ≠ "java/lang/invoke/MethodHandle" ∧ yX8_countWaitingFor.cls ≠ "java/lang/invoke/VarHandle" ∧ (parseMethodDescriptor yX8_countWaitingFor.desc).map (fun d => d.parameters.length) = some 1 := by decide +kernel
section SX8_countWaitingFor
variable {p : Program} {l : Launch} {e : Env} {s : State} {m : MethodId} {args : Array Value} {below : List Frame} {meth : Method} {c : Code} {Q : State → Prop} {D : va_G} {cy : Nat → ClassId} {B : Nat → Nat → Nat} {ids : List (Nat × Nat)} {A : Nat → Prop}
def fX8_countWaitingFor_28 (N : Nat) (K4 : Nat → Int32 → Int32 → Int32 → St → Option (Int32 × St)) (x0 : Nat) (x1 : Int32) (x2 : Int32) (x3 : Int32) (z : St) : Option (Int32 × St) := zl (x3 + 1) fun v1 => K4 x0 x1 x2 v1 z
set_option maxHeartbeats 4000000 in
set_option maxRecDepth 100000 in
theorem bX8_countWaitingFor_28 (hst : zSt B ids) (F : zFx p m c cX8_countWaitingFor 4 s args RX8 D cy B ids A) (hA : ∀ q : Nat, s.heap.size ≤ q → A q) {r : Int32} {z' : St} (E : zEnd p l e rmX8_countWaitingFor s m args below meth c cX8_countWaitingFor D cy B ids A Q (some (.int r)) z' .ireturn True) {N : Nat} {K4 : Nat → Int32 → Int32 → Int32 → St → Option (Int32 × St)} (hK4 : ∀ (x0 : Nat) (x1 : Int32) (x2 : Int32) (x3 : Int32) (hx0 : (8, x0) ∈ ids) {z : St} {H : Heap} {locs : List Loc} {ls : Array Slot} (hr : zRep D cy B ids A s.heap z H locs) (hl : lv_has ls 4 [(0, .ref (B 8 x0)), (1, .int x1), (2, .int x2), (3, .int x3)]), K4 x0 x1 x2 x3 z = some (r, z') → W p l e rmX8_countWaitingFor s m args below meth c H locs 0 0 Q (F0 m 4 ls [])) (x0 : Nat) (x1 : Int32) (x2 : Int32) (x3 : Int32) (hx0 : (8, x0) ∈ ids) {z : St} {H : Heap} {locs : List Loc} {ls : Array Slot} (hr : zRep D cy B ids A s.heap z H locs) (hl : lv_has ls 4 [(0, .ref (B 8 x0)), (1, .int x1), (2, .int x2), (3, .int x3)]) (h : fX8_countWaitingFor_28 N K4 x0 x1 x2 x3 z = some (r, z')) : W p l e rmX8_countWaitingFor s m args below meth c H locs 0 0 Q (F0 m 28 ls []) := by
  unfold fX8_countWaitingFor_28 at h
  obtain ⟨v1, ev1⟩ : ∃ y : Int32, y = (x3 + 1) := ⟨_, rfl⟩
  replace h := zl_sub ev1 h
  refine lv_iinc (v := v1) (lv' := [(3, .int v1), (0, .ref (B 8 x0)), (1, .int x1), (2, .int x2)]) F.1 F.2.1 dX8_countWaitingFor_28 hl (k := 3) rfl (by rw [ev1]; rfl) (by decide) rfl (fun ls hl => ?_)
  refine lv_goto (tgt := 4) F.1 F.2.1 dX8_countWaitingFor_31 (by decide) ?_
  exact hK4 x0 x1 x2 v1 hx0 hr (lv_sub hl [1, 2, 3, 0] rfl) h
def fX8_countWaitingFor_4b (N : Nat) (K4 : Nat → Int32 → Int32 → Int32 → St → Option (Int32 × St)) (x0 : Nat) (x1 : Int32) (x2 : Int32) (x3 : Int32) (z : St) : Option (Int32 × St) := if (zgI z 8 12 x0) ≤ x3 then (some (x2, z)) else (zk x3 17 <| zl (zgQ z 130 x0 (Int32.toNatClampNeg x3)) fun y3 => zd y3 fun a4 => if ¬ (zgI z 7 11 a4) = x1 then (fX8_countWaitingFor_28 N K4 x0 x1 x2 x3 z) else (zl (x2 + 1) fun v6 => fX8_countWaitingFor_28 N K4 x0 x1 v6 x3 z))
def fX8_countWaitingFor_4 (N : Nat)  : Nat → Nat → Int32 → Int32 → Int32 → St → Option (Int32 × St)
  | 0 => fun _ _ _ _ _ => none
  | n + 1 => fX8_countWaitingFor_4b N (fX8_countWaitingFor_4 N  n)
set_option maxHeartbeats 4000000 in
set_option maxRecDepth 100000 in
theorem bX8_countWaitingFor_4 (hst : zSt B ids) (F : zFx p m c cX8_countWaitingFor 4 s args RX8 D cy B ids A) (hA : ∀ q : Nat, s.heap.size ≤ q → A q) {r : Int32} {z' : St} (E : zEnd p l e rmX8_countWaitingFor s m args below meth c cX8_countWaitingFor D cy B ids A Q (some (.int r)) z' .ireturn True) {N : Nat} {K4 : Nat → Int32 → Int32 → Int32 → St → Option (Int32 × St)} (hK4 : ∀ (x0 : Nat) (x1 : Int32) (x2 : Int32) (x3 : Int32) (hx0 : (8, x0) ∈ ids) {z : St} {H : Heap} {locs : List Loc} {ls : Array Slot} (hr : zRep D cy B ids A s.heap z H locs) (hl : lv_has ls 4 [(0, .ref (B 8 x0)), (1, .int x1), (2, .int x2), (3, .int x3)]), K4 x0 x1 x2 x3 z = some (r, z') → W p l e rmX8_countWaitingFor s m args below meth c H locs 0 0 Q (F0 m 4 ls [])) (x0 : Nat) (x1 : Int32) (x2 : Int32) (x3 : Int32) (hx0 : (8, x0) ∈ ids) {z : St} {H : Heap} {locs : List Loc} {ls : Array Slot} (hr : zRep D cy B ids A s.heap z H locs) (hl : lv_has ls 4 [(0, .ref (B 8 x0)), (1, .int x1), (2, .int x2), (3, .int x3)]) (h : fX8_countWaitingFor_4b N K4 x0 x1 x2 x3 z = some (r, z')) : W p l e rmX8_countWaitingFor s m args below meth c H locs 0 0 Q (F0 m 4 ls []) := by
  unfold fX8_countWaitingFor_4b at h
  refine lv_iload_n F.1 F.2.1 dX8_countWaitingFor_4 rfl (lv_at hl 3 rfl) ?_
  refine lv_aload_n F.1 F.2.1 dX8_countWaitingFor_5 rfl (lv_at hl 0 rfl) ?_
  refine gf8_61 F hx0 hr dX8_countWaitingFor_6 ?_
  refine lv_icmp_ge (tgt := 34) F.1 F.2.1 dX8_countWaitingFor_9 (by decide) (fun c1 => ?_) (fun c1 => ?_)
  · replace h := zi_t c1 h
    refine lv_iload_n F.1 F.2.1 dX8_countWaitingFor_34 rfl (lv_at hl 2 rfl) ?_
    obtain ⟨rfl, rfl⟩ := zret h
    exact E _ _ _ _ dX8_countWaitingFor_35 trivial hr
  · replace h := zi_f c1 h
    refine lv_aload_n F.1 F.2.1 dX8_countWaitingFor_12 rfl (lv_at hl 0 rfl) ?_
    refine gf8_30 F hx0 hr dX8_countWaitingFor_13 ?_
    refine lv_iload_n F.1 F.2.1 dX8_countWaitingFor_16 rfl (lv_at hl 3 rfl) ?_
    replace h := zk_some h
    obtain ⟨c2, h⟩ := h
    refine zr_aaldv (k := 130) (by decide) rfl rfl (zlen_d (by decide)) F (zal_a F hx0 (j := 11) rfl) hr dX8_countWaitingFor_17 c2 (fun y3 ey3 => ?_)
    replace h := zl_sub ey3 h
    have hy3 := zal_q hr (zal_a F hx0 (j := 11) rfl) rfl ey3
    clear ey3
    replace h := zd_some h
    obtain ⟨a4, rfl, h⟩ := h
    refine gf8_71 F (hy3 _ rfl) hr dX8_countWaitingFor_18 ?_
    refine lv_iload_n F.1 F.2.1 dX8_countWaitingFor_21 rfl (lv_at hl 1 rfl) ?_
    refine lv_icmp_ne (tgt := 28) F.1 F.2.1 dX8_countWaitingFor_22 (by decide) (fun c5 => ?_) (fun c5 => ?_)
    · replace h := zi_t c5 h
      exact bX8_countWaitingFor_28 hst F hA E hK4 x0 x1 x2 x3 hx0 hr (lv_sub hl [0, 1, 2, 3] rfl) h
    · replace h := zi_f (fun q => q c5) h
      obtain ⟨v6, ev6⟩ : ∃ y : Int32, y = (x2 + 1) := ⟨_, rfl⟩
      replace h := zl_sub ev6 h
      refine lv_iinc (v := v6) (lv' := [(2, .int v6), (0, .ref (B 8 x0)), (1, .int x1), (3, .int x3)]) F.1 F.2.1 dX8_countWaitingFor_25 hl (k := 2) rfl (by rw [ev6]; rfl) (by decide) rfl (fun ls hl => ?_)
      exact bX8_countWaitingFor_28 hst F hA E hK4 x0 x1 v6 x3 hx0 hr (lv_sub hl [1, 2, 0, 3] rfl) h
theorem lX8_countWaitingFor_4 (hst : zSt B ids) (F : zFx p m c cX8_countWaitingFor 4 s args RX8 D cy B ids A) (hA : ∀ q : Nat, s.heap.size ≤ q → A q) {r : Int32} {z' : St} (E : zEnd p l e rmX8_countWaitingFor s m args below meth c cX8_countWaitingFor D cy B ids A Q (some (.int r)) z' .ireturn True) {N : Nat}  : ∀ (n : Nat) (x0 : Nat) (x1 : Int32) (x2 : Int32) (x3 : Int32) (hx0 : (8, x0) ∈ ids) {z : St} {H : Heap} {locs : List Loc} {ls : Array Slot} (hr : zRep D cy B ids A s.heap z H locs) (hl : lv_has ls 4 [(0, .ref (B 8 x0)), (1, .int x1), (2, .int x2), (3, .int x3)]), fX8_countWaitingFor_4 N  n x0 x1 x2 x3 z = some (r, z') → W p l e rmX8_countWaitingFor s m args below meth c H locs 0 0 Q (F0 m 4 ls []) := by
  intro n
  induction n with
  | zero => intro x0 x1 x2 x3 hx0 z H locs ls hr hl h; cases h
  | succ n ih => intro x0 x1 x2 x3 hx0 z H locs ls hr hl h; exact bX8_countWaitingFor_4 hst F hA E ih x0 x1 x2 x3 hx0 hr hl h
def fX8_countWaitingFor (N : Nat)  (x0 : Nat) (x1 : Int32) (z : St) : Option (Int32 × St) := fX8_countWaitingFor_4 N N x0 x1 (0 : Int32) (0 : Int32) z
set_option maxHeartbeats 4000000 in
set_option maxRecDepth 100000 in
theorem bX8_countWaitingFor_0 (hst : zSt B ids) (F : zFx p m c cX8_countWaitingFor 4 s args RX8 D cy B ids A) (hA : ∀ q : Nat, s.heap.size ≤ q → A q) {r : Int32} {z' : St} (E : zEnd p l e rmX8_countWaitingFor s m args below meth c cX8_countWaitingFor D cy B ids A Q (some (.int r)) z' .ireturn True) {N : Nat}  (x0 : Nat) (x1 : Int32) (hx0 : (8, x0) ∈ ids) {z : St} {H : Heap} {locs : List Loc} {ls : Array Slot} (hr : zRep D cy B ids A s.heap z H locs) (hl : lv_has ls 4 [(0, .ref (B 8 x0)), (1, .int x1)]) (h : fX8_countWaitingFor N x0 x1 z = some (r, z')) : W p l e rmX8_countWaitingFor s m args below meth c H locs 0 0 Q (F0 m 0 ls []) := by
  unfold fX8_countWaitingFor at h
  refine lv_iconst (v := (0 : Int32)) F.1 F.2.1 dX8_countWaitingFor_0 (by decide) ?_
  refine lv_istore_n (lv' := [(2, .int (0 : Int32)), (0, .ref (B 8 x0)), (1, .int x1)]) F.1 F.2.1 dX8_countWaitingFor_1 rfl hl (by decide) rfl (fun ls hl => ?_)
  refine lv_iconst (v := (0 : Int32)) F.1 F.2.1 dX8_countWaitingFor_2 (by decide) ?_
  refine lv_istore_n (lv' := [(3, .int (0 : Int32)), (2, .int (0 : Int32)), (0, .ref (B 8 x0)), (1, .int x1)]) F.1 F.2.1 dX8_countWaitingFor_3 rfl hl (by decide) rfl (fun ls hl => ?_)
  exact lX8_countWaitingFor_4 hst F hA E  _ x0 x1 (0 : Int32) (0 : Int32) hx0 hr (lv_sub hl [2, 3, 1, 0] rfl) h
end SX8_countWaitingFor
set_option maxRecDepth 100000 in
theorem okX8_countWaitingFor (l : Launch) (D : va_G) (cy : Nat → ClassId) (B : Nat → Nat → Nat) (ids : List (Nat × Nat)) (hst : zSt B ids) (N : Nat) (x0 : Nat) (hx0 : (8, x0) ∈ ids) (x1 : Int32) {z : St} {r : Int32} {z' : St} (hW : zWf ids z) (h : fX8_countWaitingFor N x0 x1 z = some (r, z')) : zM l yX8_countWaitingFor (zws yX8_countWaitingFor cX8_countWaitingFor 4 (some .int)) rmX8_countWaitingFor D cy B ids [.ref (B 8 x0), .int x1] (some (.int r)) True z z' :=
  zM_of hst hW (by decide +kernel) (Nat.le_of_ble_eq_true rfl) (fun p e s m args below meth c A ls F hA hret hlocks hr hl => bX8_countWaitingFor_0 hst F hA (zEnd_i F hret hlocks) x0 x1 hx0 hr hl h)
abbrev rmX8_takeWaiting : Room := { frames := 0, cells := 0, slots := 0, locals := 0 }
theorem hdX8_takeWaiting : yX8_takeWaiting.cls ≠ "java/lang/invoke/MethodHandle" ∧ yX8_takeWaiting.cls ≠ "java/lang/invoke/VarHandle" ∧ (parseMethodDescriptor yX8_takeWaiting.desc).map (fun d => d.parameters.length) = some 1 := by decide +kernel
section SX8_takeWaiting
variable {p : Program} {l : Launch} {e : Env} {s : State} {m : MethodId} {args : Array Value} {below : List Frame} {meth : Method} {c : Code} {Q : State → Prop} {D : va_G} {cy : Nat → ClassId} {B : Nat → Nat → Nat} {ids : List (Nat × Nat)} {A : Nat → Prop}
def fX8_takeWaiting_9b (N : Nat) (K9 : Nat → Option Nat → Int32 → St → Option (Option Nat × St)) (x0 : Nat) (x2 : Option Nat) (x3 : Int32) (z : St) : Option (Option Nat × St) := if (zgI z 8 12 x0) ≤ (x3 + (1 : Int32)) then (zl (zsI z 8 12 x0 ((zgI z 8 12 x0) - (1 : Int32))) fun z2 => zk (zgI z2 8 12 x0) 17 <| zl (zsQ z2 130 x0 (Int32.toNatClampNeg (zgI z2 8 12 x0)) x2) fun z4 => some (x2, z4)) else (zk (x3 + (1 : Int32)) 17 <| zl (zgQ z 130 x0 (Int32.toNatClampNeg (x3 + (1 : Int32)))) fun y6 => zk x3 17 <| zl (zsQ z 130 x0 (Int32.toNatClampNeg x3) y6) fun z8 => zl (x3 + 1) fun v9 => K9 x0 x2 v9 z8)
def fX8_takeWaiting_9 (N : Nat)  : Nat → Nat → Option Nat → Int32 → St → Option (Option Nat × St)
  | 0 => fun _ _ _ _ => none
  | n + 1 => fX8_takeWaiting_9b N (fX8_takeWaiting_9 N  n)
set_option maxHeartbeats 4000000 in
set_option maxRecDepth 100000 in
theorem bX8_takeWaiting_9 (hst : zSt B ids) (F : zFx p m c cX8_takeWaiting 4 s args RX8 D cy B ids A) (hA : ∀ q : Nat, s.heap.size ≤ q → A q) {r : Option Nat} {z' : St} (E : zEnd p l e rmX8_takeWaiting s m args below meth c cX8_takeWaiting D cy B ids A Q (some (va_rf (r.map (B 7)))) z' .areturn (∀ i, r = some i → (7, i) ∈ ids)) {N : Nat} {K9 : Nat → Option Nat → Int32 → St → Option (Option Nat × St)} (hK9 : ∀ (x0 : Nat) (x2 : Option Nat) (x3 : Int32) (hx0 : (8, x0) ∈ ids) (hx2 : ∀ t, x2 = some t → (7, t) ∈ ids) {z : St} {H : Heap} {locs : List Loc} {ls : Array Slot} (hr : zRep D cy B ids A s.heap z H locs) (hl : lv_has ls 4 [(0, .ref (B 8 x0)), (2, va_rf (Option.map (B 7) x2)), (3, .int x3)]), K9 x0 x2 x3 z = some (r, z') → W p l e rmX8_takeWaiting s m args below meth c H locs 0 0 Q (F0 m 9 ls [])) (x0 : Nat) (x2 : Option Nat) (x3 : Int32) (hx0 : (8, x0) ∈ ids) (hx2 : ∀ t, x2 = some t → (7, t) ∈ ids) {z : St} {H : Heap} {locs : List Loc} {ls : Array Slot} (hr : zRep D cy B ids A s.heap z H locs) (hl : lv_has ls 4 [(0, .ref (B 8 x0)), (2, va_rf (Option.map (B 7) x2)), (3, .int x3)]) (h : fX8_takeWaiting_9b N K9 x0 x2 x3 z = some (r, z')) : W p l e rmX8_takeWaiting s m args below meth c H locs 0 0 Q (F0 m 9 ls []) := by
  unfold fX8_takeWaiting_9b at h
  refine lv_iload_n F.1 F.2.1 dX8_takeWaiting_9 rfl (lv_at hl 2 rfl) ?_
  refine lv_iconst (v := (1 : Int32)) F.1 F.2.1 dX8_takeWaiting_10 (by decide) ?_
  refine lv_iadd F.1 F.2.1 dX8_takeWaiting_11 ?_
  refine lv_aload_n F.1 F.2.1 dX8_takeWaiting_12 rfl (lv_at hl 0 rfl) ?_
  refine gf8_61 F hx0 hr dX8_takeWaiting_13 ?_
  refine lv_icmp_ge (tgt := 39) F.1 F.2.1 dX8_takeWaiting_16 (by decide) (fun c1 => ?_) (fun c1 => ?_)
  · replace h := zi_t c1 h
    refine lv_aload_n F.1 F.2.1 dX8_takeWaiting_39 rfl (lv_at hl 0 rfl) ?_
    refine lv_dup F.1 F.2.1 dX8_takeWaiting_40 rfl ?_
    refine gf8_61 F hx0 hr dX8_takeWaiting_41 ?_
    refine lv_iconst (v := (1 : Int32)) F.1 F.2.1 dX8_takeWaiting_44 (by decide) ?_
    refine lv_isub F.1 F.2.1 dX8_takeWaiting_45 ?_
    refine pf8_61 F hx0 hr dX8_takeWaiting_46 ((zgI z 8 12 x0) - (1 : Int32)) (fun H locs z2 ez2 hr => ?_)
    replace h := zl_sub ez2 h
    clear ez2
    refine lv_aload_n F.1 F.2.1 dX8_takeWaiting_49 rfl (lv_at hl 0 rfl) ?_
    refine gf8_30 F hx0 hr dX8_takeWaiting_50 ?_
    refine lv_aload_n F.1 F.2.1 dX8_takeWaiting_53 rfl (lv_at hl 0 rfl) ?_
    refine gf8_61 F hx0 hr dX8_takeWaiting_54 ?_
    refine zr_aload_n F.1 F.2.1 dX8_takeWaiting_57 rfl (lv_at hl 1 rfl) ?_
    replace h := zk_some h
    obtain ⟨c3, h⟩ := h
    refine zr_aast (k := 130) (v := x2) (T := TX7) (N := 20) (by decide) rfl (by decide) rfl rfl F (zal_a F hx0 (j := 11) rfl) hr dX8_takeWaiting_58 (by rw [zlen_d (by decide)]; exact c3) hx2 (fun H locs z4 ez4 hr => ?_)
    replace h := zl_sub ez4 h
    clear ez4
    refine zr_aload_n F.1 F.2.1 dX8_takeWaiting_59 rfl (lv_at hl 1 rfl) ?_
    obtain ⟨rfl, rfl⟩ := zret h
    exact E _ _ _ _ dX8_takeWaiting_60 hx2 hr
  · replace h := zi_f c1 h
    refine lv_aload_n F.1 F.2.1 dX8_takeWaiting_19 rfl (lv_at hl 0 rfl) ?_
    refine gf8_30 F hx0 hr dX8_takeWaiting_20 ?_
    refine lv_iload_n F.1 F.2.1 dX8_takeWaiting_23 rfl (lv_at hl 2 rfl) ?_
    refine lv_aload_n F.1 F.2.1 dX8_takeWaiting_24 rfl (lv_at hl 0 rfl) ?_
    refine gf8_30 F hx0 hr dX8_takeWaiting_25 ?_
    refine lv_iload_n F.1 F.2.1 dX8_takeWaiting_28 rfl (lv_at hl 2 rfl) ?_
    refine lv_iconst (v := (1 : Int32)) F.1 F.2.1 dX8_takeWaiting_29 (by decide) ?_
    refine lv_iadd F.1 F.2.1 dX8_takeWaiting_30 ?_
    replace h := zk_some h
    obtain ⟨c5, h⟩ := h
    refine zr_aaldv (k := 130) (by decide) rfl rfl (zlen_d (by decide)) F (zal_a F hx0 (j := 11) rfl) hr dX8_takeWaiting_31 c5 (fun y6 ey6 => ?_)
    replace h := zl_sub ey6 h
    have hy6 := zal_q hr (zal_a F hx0 (j := 11) rfl) rfl ey6
    clear ey6
    replace h := zk_some h
    obtain ⟨c7, h⟩ := h
    refine zr_aast (k := 130) (v := y6) (T := TX7) (N := 20) (by decide) rfl (by decide) rfl rfl F (zal_a F hx0 (j := 11) rfl) hr dX8_takeWaiting_32 (by rw [zlen_d (by decide)]; exact c7) hy6 (fun H locs z8 ez8 hr => ?_)
    replace h := zl_sub ez8 h
    clear ez8
    obtain ⟨v9, ev9⟩ : ∃ y : Int32, y = (x3 + 1) := ⟨_, rfl⟩
    replace h := zl_sub ev9 h
    refine lv_iinc (v := v9) (lv' := [(3, .int v9), (0, .ref (B 8 x0)), (2, va_rf (Option.map (B 7) x2))]) F.1 F.2.1 dX8_takeWaiting_33 hl (k := 2) rfl (by rw [ev9]; rfl) (by decide) (by simp only [List.filter, zrf_cat]; rfl) (fun ls hl => ?_)
    refine lv_goto (tgt := 9) F.1 F.2.1 dX8_takeWaiting_36 (by decide) ?_
    exact hK9 x0 x2 v9 hx0 hx2 hr (lv_sub hl [1, 2, 0] rfl) h
theorem lX8_takeWaiting_9 (hst : zSt B ids) (F : zFx p m c cX8_takeWaiting 4 s args RX8 D cy B ids A) (hA : ∀ q : Nat, s.heap.size ≤ q → A q) {r : Option Nat} {z' : St} (E : zEnd p l e rmX8_takeWaiting s m args below meth c cX8_takeWaiting D cy B ids A Q (some (va_rf (r.map (B 7)))) z' .areturn (∀ i, r = some i → (7, i) ∈ ids)) {N : Nat}  : ∀ (n : Nat) (x0 : Nat) (x2 : Option Nat) (x3 : Int32) (hx0 : (8, x0) ∈ ids) (hx2 : ∀ t, x2 = some t → (7, t) ∈ ids) {z : St} {H : Heap} {locs : List Loc} {ls : Array Slot} (hr : zRep D cy B ids A s.heap z H locs) (hl : lv_has ls 4 [(0, .ref (B 8 x0)), (2, va_rf (Option.map (B 7) x2)), (3, .int x3)]), fX8_takeWaiting_9 N  n x0 x2 x3 z = some (r, z') → W p l e rmX8_takeWaiting s m args below meth c H locs 0 0 Q (F0 m 9 ls []) := by
  intro n
  induction n with
  | zero => intro x0 x2 x3 hx0 hx2 z H locs ls hr hl h; cases h
  | succ n ih => intro x0 x2 x3 hx0 hx2 z H locs ls hr hl h; exact bX8_takeWaiting_9 hst F hA E ih x0 x2 x3 hx0 hx2 hr hl h
def fX8_takeWaiting (N : Nat)  (x0 : Nat) (x1 : Int32) (z : St) : Option (Option Nat × St) := zk x1 17 <| zl (zgQ z 130 x0 (Int32.toNatClampNeg x1)) fun y2 => fX8_takeWaiting_9 N N x0 y2 x1 z
set_option maxHeartbeats 4000000 in
set_option maxRecDepth 100000 in
theorem bX8_takeWaiting_0 (hst : zSt B ids) (F : zFx p m c cX8_takeWaiting 4 s args RX8 D cy B ids A) (hA : ∀ q : Nat, s.heap.size ≤ q → A q) {r : Option Nat} {z' : St} (E : zEnd p l e rmX8_takeWaiting s m args below meth c cX8_takeWaiting D cy B ids A Q (some (va_rf (r.map (B 7)))) z' .areturn (∀ i, r = some i → (7, i) ∈ ids)) {N : Nat}  (x0 : Nat) (x1 : Int32) (hx0 : (8, x0) ∈ ids) {z : St} {H : Heap} {locs : List Loc} {ls : Array Slot} (hr : zRep D cy B ids A s.heap z H locs) (hl : lv_has ls 4 [(0, .ref (B 8 x0)), (1, .int x1)]) (h : fX8_takeWaiting N x0 x1 z = some (r, z')) : W p l e rmX8_takeWaiting s m args below meth c H locs 0 0 Q (F0 m 0 ls []) := by
  unfold fX8_takeWaiting at h
  refine lv_aload_n F.1 F.2.1 dX8_takeWaiting_0 rfl (lv_at hl 0 rfl) ?_
  refine gf8_30 F hx0 hr dX8_takeWaiting_1 ?_
  refine lv_iload_n F.1 F.2.1 dX8_takeWaiting_4 rfl (lv_at hl 1 rfl) ?_
  replace h := zk_some h
  obtain ⟨c1, h⟩ := h
  refine zr_aaldv (k := 130) (by decide) rfl rfl (zlen_d (by decide)) F (zal_a F hx0 (j := 11) rfl) hr dX8_takeWaiting_5 c1 (fun y2 ey2 => ?_)
  replace h := zl_sub ey2 h
  have hy2 := zal_q hr (zal_a F hx0 (j := 11) rfl) rfl ey2
  clear ey2
  refine zr_astore_n (lv' := [(2, va_rf (Option.map (B 7) y2)), (0, .ref (B 8 x0)), (1, .int x1)]) F.1 F.2.1 dX8_takeWaiting_6 rfl hl (by decide) rfl (fun ls hl => ?_)
  refine lv_iload_n F.1 F.2.1 dX8_takeWaiting_7 rfl (lv_at hl 2 rfl) ?_
  refine lv_istore_n (lv' := [(3, .int x1), (2, va_rf (Option.map (B 7) y2)), (0, .ref (B 8 x0)), (1, .int x1)]) F.1 F.2.1 dX8_takeWaiting_8 rfl hl (by decide) (by simp only [List.filter, zrf_cat]; rfl) (fun ls hl => ?_)
  exact lX8_takeWaiting_9 hst F hA E  _ x0 y2 x1 hx0 hy2 hr (lv_sub hl [2, 1, 0] rfl) h
end SX8_takeWaiting
set_option maxRecDepth 100000 in
theorem okX8_takeWaiting (l : Launch) (D : va_G) (cy : Nat → ClassId) (B : Nat → Nat → Nat) (ids : List (Nat × Nat)) (hst : zSt B ids) (N : Nat) (x0 : Nat) (hx0 : (8, x0) ∈ ids) (x1 : Int32) {z : St} {r : Option Nat} {z' : St} (hW : zWf ids z) (h : fX8_takeWaiting N x0 x1 z = some (r, z')) : zM l yX8_takeWaiting (zws yX8_takeWaiting cX8_takeWaiting 4 (some (.object "WholeInternet$Parcel"))) rmX8_takeWaiting D cy B ids [.ref (B 8 x0), .int x1] (some (va_rf (r.map (B 7)))) (∀ i, r = some i → (7, i) ∈ ids) z z' :=
  zM_of hst hW (by decide +kernel) (Nat.le_of_ble_eq_true rfl) (fun p e s m args below meth c A ls F hA hret hlocks hr hl => bX8_takeWaiting_0 hst F hA (zEnd_r F hret hlocks) x0 x1 hx0 hr hl h)
abbrev rmX9_beginHearing : Room := { frames := 0, cells := 0, slots := 0, locals := 0 }
theorem hdX9_beginHearing : yX9_beginHearing.cls ≠ "java/lang/invoke/MethodHandle" ∧ yX9_beginHearing.cls ≠ "java/lang/invoke/VarHandle" ∧ (parseMethodDescriptor yX9_beginHearing.desc).map (fun d => d.parameters.length) = some 1 := by decide +kernel
section SX9_beginHearing
variable {p : Program} {l : Launch} {e : Env} {s : State} {m : MethodId} {args : Array Value} {below : List Frame} {meth : Method} {c : Code} {Q : State → Prop} {D : va_G} {cy : Nat → ClassId} {B : Nat → Nat → Nat} {ids : List (Nat × Nat)} {A : Nat → Prop}
def fX9_beginHearing_51 (N : Nat)  (x0 : Nat) (x1 : Int32) (x2 : Int32) (z : St) : Option (Int32 × St) := zk x2 16 <| zl (zsA z 131 x0 (Int32.toNatClampNeg x2) x1) fun z2 => zl (zsI z2 9 1 x0 ((zgI z2 9 1 x0) + (1 : Int32))) fun z3 => some (0, z3)
set_option maxHeartbeats 4000000 in
set_option maxRecDepth 100000 in
theorem bX9_beginHearing_51 (hst : zSt B ids) (F : zFx p m c cX9_beginHearing 3 s args RX9 D cy B ids A) (hA : ∀ q : Nat, s.heap.size ≤ q → A q) {r : Int32} {z' : St} (E : zEnd p l e rmX9_beginHearing s m args below meth c cX9_beginHearing D cy B ids A Q none z' .return_ True) {N : Nat}  (x0 : Nat) (x1 : Int32) (x2 : Int32) (hx0 : (9, x0) ∈ ids) {z : St} {H : Heap} {locs : List Loc} {ls : Array Slot} (hr : zRep D cy B ids A s.heap z H locs) (hl : lv_has ls 3 [(0, .ref (B 9 x0)), (1, .int x1), (2, .int x2)]) (h : fX9_beginHearing_51 N x0 x1 x2 z = some (r, z')) : W p l e rmX9_beginHearing s m args below meth c H locs 0 0 Q (F0 m 51 ls []) := by
  unfold fX9_beginHearing_51 at h
  refine lv_aload_n F.1 F.2.1 dX9_beginHearing_51 rfl (lv_at hl 0 rfl) ?_
  refine gf9_9 F hx0 hr dX9_beginHearing_52 ?_
  refine lv_iload_n F.1 F.2.1 dX9_beginHearing_55 rfl (lv_at hl 2 rfl) ?_
  refine lv_iload_n F.1 F.2.1 dX9_beginHearing_56 rfl (lv_at hl 1 rfl) ?_
  replace h := zk_some h
  obtain ⟨c1, h⟩ := h
  refine zr_iast (k := 131) (by decide) rfl (by decide) F (zal_a F hx0 (j := 0) rfl) hr dX9_beginHearing_57 c1 (fun H locs z2 ez2 hr => ?_)
  replace h := zl_sub ez2 h
  clear ez2
  refine lv_aload_n F.1 F.2.1 dX9_beginHearing_58 rfl (lv_at hl 0 rfl) ?_
  refine lv_dup F.1 F.2.1 dX9_beginHearing_59 rfl ?_
  refine gf9_49 F hx0 hr dX9_beginHearing_60 ?_
  refine lv_iconst (v := (1 : Int32)) F.1 F.2.1 dX9_beginHearing_63 (by decide) ?_
  refine lv_iadd F.1 F.2.1 dX9_beginHearing_64 ?_
  refine pf9_49 F hx0 hr dX9_beginHearing_65 ((zgI z2 9 1 x0) + (1 : Int32)) (fun H locs z3 ez3 hr => ?_)
  replace h := zl_sub ez3 h
  clear ez3
  obtain ⟨rfl, rfl⟩ := zret h
  exact E _ _ _ _ dX9_beginHearing_68 trivial hr
def fX9_beginHearing_15b (N : Nat) (K15 : Nat → Int32 → Int32 → St → Option (Int32 × St)) (x0 : Nat) (x1 : Int32) (x2 : Int32) (z : St) : Option (Int32 × St) := if x2 ≤ 0 then (fX9_beginHearing_51 N x0 x1 x2 z) else (zk (x2 - (1 : Int32)) 16 <| if (zgA z 131 x0 (Int32.toNatClampNeg (x2 - (1 : Int32)))) ≤ x1 then (fX9_beginHearing_51 N x0 x1 x2 z) else (zk (x2 - (1 : Int32)) 16 <| zk x2 16 <| zl (zsA z 131 x0 (Int32.toNatClampNeg x2) (zgA z 131 x0 (Int32.toNatClampNeg (x2 - (1 : Int32))))) fun z6 => zl (x2 + (-1)) fun v7 => K15 x0 x1 v7 z6))
def fX9_beginHearing_15 (N : Nat)  : Nat → Nat → Int32 → Int32 → St → Option (Int32 × St)
  | 0 => fun _ _ _ _ => none
  | n + 1 => fX9_beginHearing_15b N (fX9_beginHearing_15 N  n)
set_option maxHeartbeats 4000000 in
set_option maxRecDepth 100000 in
theorem bX9_beginHearing_15 (hst : zSt B ids) (F : zFx p m c cX9_beginHearing 3 s args RX9 D cy B ids A) (hA : ∀ q : Nat, s.heap.size ≤ q → A q) {r : Int32} {z' : St} (E : zEnd p l e rmX9_beginHearing s m args below meth c cX9_beginHearing D cy B ids A Q none z' .return_ True) {N : Nat} {K15 : Nat → Int32 → Int32 → St → Option (Int32 × St)} (hK15 : ∀ (x0 : Nat) (x1 : Int32) (x2 : Int32) (hx0 : (9, x0) ∈ ids) {z : St} {H : Heap} {locs : List Loc} {ls : Array Slot} (hr : zRep D cy B ids A s.heap z H locs) (hl : lv_has ls 3 [(0, .ref (B 9 x0)), (1, .int x1), (2, .int x2)]), K15 x0 x1 x2 z = some (r, z') → W p l e rmX9_beginHearing s m args below meth c H locs 0 0 Q (F0 m 15 ls [])) (x0 : Nat) (x1 : Int32) (x2 : Int32) (hx0 : (9, x0) ∈ ids) {z : St} {H : Heap} {locs : List Loc} {ls : Array Slot} (hr : zRep D cy B ids A s.heap z H locs) (hl : lv_has ls 3 [(0, .ref (B 9 x0)), (1, .int x1), (2, .int x2)]) (h : fX9_beginHearing_15b N K15 x0 x1 x2 z = some (r, z')) : W p l e rmX9_beginHearing s m args below meth c H locs 0 0 Q (F0 m 15 ls []) := by
  unfold fX9_beginHearing_15b at h
  refine lv_iload_n F.1 F.2.1 dX9_beginHearing_15 rfl (lv_at hl 2 rfl) ?_
  refine lv_if_le (tgt := 51) F.1 F.2.1 dX9_beginHearing_16 (by decide) (fun c1 => ?_) (fun c1 => ?_)
  · replace h := zi_t c1 h
    exact bX9_beginHearing_51 hst F hA E  x0 x1 x2 hx0 hr (lv_sub hl [0, 1, 2] rfl) h
  · replace h := zi_f c1 h
    refine lv_aload_n F.1 F.2.1 dX9_beginHearing_19 rfl (lv_at hl 0 rfl) ?_
    refine gf9_9 F hx0 hr dX9_beginHearing_20 ?_
    refine lv_iload_n F.1 F.2.1 dX9_beginHearing_23 rfl (lv_at hl 2 rfl) ?_
    refine lv_iconst (v := (1 : Int32)) F.1 F.2.1 dX9_beginHearing_24 (by decide) ?_
    refine lv_isub F.1 F.2.1 dX9_beginHearing_25 ?_
    replace h := zk_some h
    obtain ⟨c2, h⟩ := h
    refine zr_iald (k := 131) (by decide) rfl (by decide) F (zal_a F hx0 (j := 0) rfl) hr dX9_beginHearing_26 c2 ?_
    refine lv_iload_n F.1 F.2.1 dX9_beginHearing_27 rfl (lv_at hl 1 rfl) ?_
    refine lv_icmp_le (tgt := 51) F.1 F.2.1 dX9_beginHearing_28 (by decide) (fun c3 => ?_) (fun c3 => ?_)
    · replace h := zi_t c3 h
      exact bX9_beginHearing_51 hst F hA E  x0 x1 x2 hx0 hr (lv_sub hl [0, 1, 2] rfl) h
    · replace h := zi_f c3 h
      refine lv_aload_n F.1 F.2.1 dX9_beginHearing_31 rfl (lv_at hl 0 rfl) ?_
      refine gf9_9 F hx0 hr dX9_beginHearing_32 ?_
      refine lv_iload_n F.1 F.2.1 dX9_beginHearing_35 rfl (lv_at hl 2 rfl) ?_
      refine lv_aload_n F.1 F.2.1 dX9_beginHearing_36 rfl (lv_at hl 0 rfl) ?_
      refine gf9_9 F hx0 hr dX9_beginHearing_37 ?_
      refine lv_iload_n F.1 F.2.1 dX9_beginHearing_40 rfl (lv_at hl 2 rfl) ?_
      refine lv_iconst (v := (1 : Int32)) F.1 F.2.1 dX9_beginHearing_41 (by decide) ?_
      refine lv_isub F.1 F.2.1 dX9_beginHearing_42 ?_
      replace h := zk_some h
      obtain ⟨c4, h⟩ := h
      refine zr_iald (k := 131) (by decide) rfl (by decide) F (zal_a F hx0 (j := 0) rfl) hr dX9_beginHearing_43 c4 ?_
      replace h := zk_some h
      obtain ⟨c5, h⟩ := h
      refine zr_iast (k := 131) (by decide) rfl (by decide) F (zal_a F hx0 (j := 0) rfl) hr dX9_beginHearing_44 c5 (fun H locs z6 ez6 hr => ?_)
      replace h := zl_sub ez6 h
      clear ez6
      obtain ⟨v7, ev7⟩ : ∃ y : Int32, y = (x2 + (-1)) := ⟨_, rfl⟩
      replace h := zl_sub ev7 h
      refine lv_iinc (v := v7) (lv' := [(2, .int v7), (0, .ref (B 9 x0)), (1, .int x1)]) F.1 F.2.1 dX9_beginHearing_45 hl (k := 2) rfl (by rw [ev7]; rfl) (by decide) rfl (fun ls hl => ?_)
      refine lv_goto (tgt := 15) F.1 F.2.1 dX9_beginHearing_48 (by decide) ?_
      exact hK15 x0 x1 v7 hx0 hr (lv_sub hl [1, 2, 0] rfl) h
theorem lX9_beginHearing_15 (hst : zSt B ids) (F : zFx p m c cX9_beginHearing 3 s args RX9 D cy B ids A) (hA : ∀ q : Nat, s.heap.size ≤ q → A q) {r : Int32} {z' : St} (E : zEnd p l e rmX9_beginHearing s m args below meth c cX9_beginHearing D cy B ids A Q none z' .return_ True) {N : Nat}  : ∀ (n : Nat) (x0 : Nat) (x1 : Int32) (x2 : Int32) (hx0 : (9, x0) ∈ ids) {z : St} {H : Heap} {locs : List Loc} {ls : Array Slot} (hr : zRep D cy B ids A s.heap z H locs) (hl : lv_has ls 3 [(0, .ref (B 9 x0)), (1, .int x1), (2, .int x2)]), fX9_beginHearing_15 N  n x0 x1 x2 z = some (r, z') → W p l e rmX9_beginHearing s m args below meth c H locs 0 0 Q (F0 m 15 ls []) := by
  intro n
  induction n with
  | zero => intro x0 x1 x2 hx0 z H locs ls hr hl h; cases h
  | succ n ih => intro x0 x1 x2 hx0 z H locs ls hr hl h; exact bX9_beginHearing_15 hst F hA E ih x0 x1 x2 hx0 hr hl h
def fX9_beginHearing (N : Nat)  (x0 : Nat) (x1 : Int32) (z : St) : Option (Int32 × St) := if (zgI z 9 1 x0) < (16 : Int32) then (zl (zgI z 9 1 x0) fun v2 => fX9_beginHearing_15 N N x0 x1 v2 z) else (some (0, z))
set_option maxHeartbeats 4000000 in
set_option maxRecDepth 100000 in
theorem bX9_beginHearing_0 (hst : zSt B ids) (F : zFx p m c cX9_beginHearing 3 s args RX9 D cy B ids A) (hA : ∀ q : Nat, s.heap.size ≤ q → A q) {r : Int32} {z' : St} (E : zEnd p l e rmX9_beginHearing s m args below meth c cX9_beginHearing D cy B ids A Q none z' .return_ True) {N : Nat}  (x0 : Nat) (x1 : Int32) (hx0 : (9, x0) ∈ ids) {z : St} {H : Heap} {locs : List Loc} {ls : Array Slot} (hr : zRep D cy B ids A s.heap z H locs) (hl : lv_has ls 3 [(0, .ref (B 9 x0)), (1, .int x1)]) (h : fX9_beginHearing N x0 x1 z = some (r, z')) : W p l e rmX9_beginHearing s m args below meth c H locs 0 0 Q (F0 m 0 ls []) := by
  unfold fX9_beginHearing at h
  refine lv_aload_n F.1 F.2.1 dX9_beginHearing_0 rfl (lv_at hl 0 rfl) ?_
  refine gf9_49 F hx0 hr dX9_beginHearing_1 ?_
  refine lv_bipush (v := (16 : Int32)) F.1 F.2.1 dX9_beginHearing_4 (by decide) ?_
  refine lv_icmp_lt (tgt := 10) F.1 F.2.1 dX9_beginHearing_6 (by decide) (fun c1 => ?_) (fun c1 => ?_)
  · replace h := zi_t c1 h
    refine lv_aload_n F.1 F.2.1 dX9_beginHearing_10 rfl (lv_at hl 0 rfl) ?_
    refine gf9_49 F hx0 hr dX9_beginHearing_11 ?_
    refine lv_topi (fun v2 ev2 => ?_)
    replace h := zl_sub ev2 h
    refine lv_istore_n (lv' := [(2, .int v2), (0, .ref (B 9 x0)), (1, .int x1)]) F.1 F.2.1 dX9_beginHearing_14 rfl hl (by decide) rfl (fun ls hl => ?_)
    exact lX9_beginHearing_15 hst F hA E  _ x0 x1 v2 hx0 hr (lv_sub hl [1, 2, 0] rfl) h
  · replace h := zi_f c1 h
    obtain ⟨rfl, rfl⟩ := zret h
    exact E _ _ _ _ dX9_beginHearing_9 trivial hr
end SX9_beginHearing
set_option maxRecDepth 100000 in
theorem okX9_beginHearing (l : Launch) (D : va_G) (cy : Nat → ClassId) (B : Nat → Nat → Nat) (ids : List (Nat × Nat)) (hst : zSt B ids) (N : Nat) (x0 : Nat) (hx0 : (9, x0) ∈ ids) (x1 : Int32) {z : St} {r : Int32} {z' : St} (hW : zWf ids z) (h : fX9_beginHearing N x0 x1 z = some (r, z')) : zM l yX9_beginHearing (zws yX9_beginHearing cX9_beginHearing 3 none) rmX9_beginHearing D cy B ids [.ref (B 9 x0), .int x1] none True z z' :=
  zM_of hst hW (by decide +kernel) (Nat.le_of_ble_eq_true rfl) (fun p e s m args below meth c A ls F hA hret hlocks hr hl => bX9_beginHearing_0 hst F hA (zEnd_v F hret hlocks) x0 x1 hx0 hr hl h)
abbrev rmX9_setDue : Room := { frames := 0, cells := 0, slots := 0, locals := 0 }
theorem hdX9_setDue : yX9_setDue.cls ≠ "java/lang/invoke/MethodHandle" ∧ yX9_setDue.cls ≠ "java/lang/invoke/VarHandle" ∧ (parseMethodDescriptor yX9_setDue.desc).map (fun d => d.parameters.length) = some 3 := by decide +kernel
section SX9_setDue
variable {p : Program} {l : Launch} {e : Env} {s : State} {m : MethodId} {args : Array Value} {below : List Frame} {meth : Method} {c : Code} {Q : State → Prop} {D : va_G} {cy : Nat → ClassId} {B : Nat → Nat → Nat} {ids : List (Nat × Nat)} {A : Nat → Prop}
def fX9_setDue_21 (N : Nat)  (x0 : Nat) (x1 : Int32) (x2 : Int32) (x3 : Int32) (z : St) : Option (Int32 × St) := zk x1 96 <| zk x2 16 <| zl (zsA z 135 (x0 * 96 + (Int32.toNatClampNeg x1)) (Int32.toNatClampNeg x2) x3) fun z3 => if x3 = 0 then (some (0, z3)) else (zl (zsI z3 9 5 x0 ((zgI z3 9 5 x0) + (1 : Int32))) fun z5 => some (0, z5))
set_option maxHeartbeats 4000000 in
set_option maxRecDepth 100000 in
theorem bX9_setDue_21 (hst : zSt B ids) (F : zFx p m c cX9_setDue 4 s args RX9 D cy B ids A) (hA : ∀ q : Nat, s.heap.size ≤ q → A q) {r : Int32} {z' : St} (E : zEnd p l e rmX9_setDue s m args below meth c cX9_setDue D cy B ids A Q none z' .return_ True) {N : Nat}  (x0 : Nat) (x1 : Int32) (x2 : Int32) (x3 : Int32) (hx0 : (9, x0) ∈ ids) {z : St} {H : Heap} {locs : List Loc} {ls : Array Slot} (hr : zRep D cy B ids A s.heap z H locs) (hl : lv_has ls 4 [(0, .ref (B 9 x0)), (1, .int x1), (2, .int x2), (3, .int x3)]) (h : fX9_setDue_21 N x0 x1 x2 x3 z = some (r, z')) : W p l e rmX9_setDue s m args below meth c H locs 0 0 Q (F0 m 21 ls []) := by
  unfold fX9_setDue_21 at h
  refine lv_aload_n F.1 F.2.1 dX9_setDue_21 rfl (lv_at hl 0 rfl) ?_
  refine gf9_24 F hx0 hr dX9_setDue_22 ?_
  refine lv_iload_n F.1 F.2.1 dX9_setDue_25 rfl (lv_at hl 1 rfl) ?_
  replace h := zk_some h
  obtain ⟨c1, h⟩ := h
  refine zr_rald (k := 134) (by decide) rfl (by decide) rfl F (zal_a F hx0 (j := 4) rfl) hr dX9_setDue_26 c1 ?_
  refine lv_iload_n F.1 F.2.1 dX9_setDue_27 rfl (lv_at hl 2 rfl) ?_
  refine lv_iload_n F.1 F.2.1 dX9_setDue_28 rfl (lv_at hl 3 rfl) ?_
  replace h := zk_some h
  obtain ⟨c2, h⟩ := h
  refine zr_iast (k := 135) (by decide) rfl (by decide) F (zal_w F (zal_a F hx0 (j := 4) rfl) (k := 134) rfl c1) hr dX9_setDue_29 c2 (fun H locs z3 ez3 hr => ?_)
  replace h := zl_sub ez3 h
  clear ez3
  refine lv_iload_n F.1 F.2.1 dX9_setDue_30 rfl (lv_at hl 3 rfl) ?_
  refine lv_if_eq (tgt := 44) F.1 F.2.1 dX9_setDue_31 (by decide) (fun c4 => ?_) (fun c4 => ?_)
  · replace h := zi_t c4 h
    obtain ⟨rfl, rfl⟩ := zret h
    exact E _ _ _ _ dX9_setDue_44 trivial hr
  · replace h := zi_f c4 h
    refine lv_aload_n F.1 F.2.1 dX9_setDue_34 rfl (lv_at hl 0 rfl) ?_
    refine lv_dup F.1 F.2.1 dX9_setDue_35 rfl ?_
    refine gf9_64 F hx0 hr dX9_setDue_36 ?_
    refine lv_iconst (v := (1 : Int32)) F.1 F.2.1 dX9_setDue_39 (by decide) ?_
    refine lv_iadd F.1 F.2.1 dX9_setDue_40 ?_
    refine pf9_64 F hx0 hr dX9_setDue_41 ((zgI z3 9 5 x0) + (1 : Int32)) (fun H locs z5 ez5 hr => ?_)
    replace h := zl_sub ez5 h
    clear ez5
    obtain ⟨rfl, rfl⟩ := zret h
    exact E _ _ _ _ dX9_setDue_44 trivial hr
def fX9_setDue (N : Nat)  (x0 : Nat) (x1 : Int32) (x2 : Int32) (x3 : Int32) (z : St) : Option (Int32 × St) := zk x1 96 <| zk x2 16 <| if (zgA z 135 (x0 * 96 + (Int32.toNatClampNeg x1)) (Int32.toNatClampNeg x2)) = 0 then (fX9_setDue_21 N x0 x1 x2 x3 z) else (zl (zsI z 9 5 x0 ((zgI z 9 5 x0) - (1 : Int32))) fun z4 => fX9_setDue_21 N x0 x1 x2 x3 z4)
set_option maxHeartbeats 4000000 in
set_option maxRecDepth 100000 in
theorem bX9_setDue_0 (hst : zSt B ids) (F : zFx p m c cX9_setDue 4 s args RX9 D cy B ids A) (hA : ∀ q : Nat, s.heap.size ≤ q → A q) {r : Int32} {z' : St} (E : zEnd p l e rmX9_setDue s m args below meth c cX9_setDue D cy B ids A Q none z' .return_ True) {N : Nat}  (x0 : Nat) (x1 : Int32) (x2 : Int32) (x3 : Int32) (hx0 : (9, x0) ∈ ids) {z : St} {H : Heap} {locs : List Loc} {ls : Array Slot} (hr : zRep D cy B ids A s.heap z H locs) (hl : lv_has ls 4 [(0, .ref (B 9 x0)), (1, .int x1), (2, .int x2), (3, .int x3)]) (h : fX9_setDue N x0 x1 x2 x3 z = some (r, z')) : W p l e rmX9_setDue s m args below meth c H locs 0 0 Q (F0 m 0 ls []) := by
  unfold fX9_setDue at h
  refine lv_aload_n F.1 F.2.1 dX9_setDue_0 rfl (lv_at hl 0 rfl) ?_
  refine gf9_24 F hx0 hr dX9_setDue_1 ?_
  refine lv_iload_n F.1 F.2.1 dX9_setDue_4 rfl (lv_at hl 1 rfl) ?_
  replace h := zk_some h
  obtain ⟨c1, h⟩ := h
  refine zr_rald (k := 134) (by decide) rfl (by decide) rfl F (zal_a F hx0 (j := 4) rfl) hr dX9_setDue_5 c1 ?_
  refine lv_iload_n F.1 F.2.1 dX9_setDue_6 rfl (lv_at hl 2 rfl) ?_
  replace h := zk_some h
  obtain ⟨c2, h⟩ := h
  refine zr_iald (k := 135) (by decide) rfl (by decide) F (zal_w F (zal_a F hx0 (j := 4) rfl) (k := 134) rfl c1) hr dX9_setDue_7 c2 ?_
  refine lv_if_eq (tgt := 21) F.1 F.2.1 dX9_setDue_8 (by decide) (fun c3 => ?_) (fun c3 => ?_)
  · replace h := zi_t c3 h
    exact bX9_setDue_21 hst F hA E  x0 x1 x2 x3 hx0 hr (lv_sub hl [0, 1, 2, 3] rfl) h
  · replace h := zi_f c3 h
    refine lv_aload_n F.1 F.2.1 dX9_setDue_11 rfl (lv_at hl 0 rfl) ?_
    refine lv_dup F.1 F.2.1 dX9_setDue_12 rfl ?_
    refine gf9_64 F hx0 hr dX9_setDue_13 ?_
    refine lv_iconst (v := (1 : Int32)) F.1 F.2.1 dX9_setDue_16 (by decide) ?_
    refine lv_isub F.1 F.2.1 dX9_setDue_17 ?_
    refine pf9_64 F hx0 hr dX9_setDue_18 ((zgI z 9 5 x0) - (1 : Int32)) (fun H locs z4 ez4 hr => ?_)
    replace h := zl_sub ez4 h
    clear ez4
    exact bX9_setDue_21 hst F hA E  x0 x1 x2 x3 hx0 hr (lv_sub hl [0, 1, 2, 3] rfl) h
end SX9_setDue
set_option maxRecDepth 100000 in
theorem okX9_setDue (l : Launch) (D : va_G) (cy : Nat → ClassId) (B : Nat → Nat → Nat) (ids : List (Nat × Nat)) (hst : zSt B ids) (N : Nat) (x0 : Nat) (hx0 : (9, x0) ∈ ids) (x1 : Int32) (x2 : Int32) (x3 : Int32) {z : St} {r : Int32} {z' : St} (hW : zWf ids z) (h : fX9_setDue N x0 x1 x2 x3 z = some (r, z')) : zM l yX9_setDue (zws yX9_setDue cX9_setDue 4 none) rmX9_setDue D cy B ids [.ref (B 9 x0), .int x1, .int x2, .int x3] none True z z' :=
  zM_of hst hW (by decide +kernel) (Nat.le_of_ble_eq_true rfl) (fun p e s m args below meth c A ls F hA hret hlocks hr hl => bX9_setDue_0 hst F hA (zEnd_v F hret hlocks) x0 x1 x2 x3 hx0 hr hl h)
abbrev rmX9_setFriend : Room := { frames := 1, cells := 0, slots := 0, locals := 23 }
theorem hdX9_setFriend : yX9_setFriend.cls ≠ "java/lang/invoke/MethodHandle" ∧ yX9_setFriend.cls ≠ "java/lang/invoke/VarHandle" ∧ (parseMethodDescriptor yX9_setFriend.desc).map (fun d => d.parameters.length) = some 3 := by decide +kernel
theorem hroX9_setFriend_X9_setDue : rmX9_setDue.frames + 1 ≤ rmX9_setFriend.frames ∧ 8 + (4 + 11) + rmX9_setDue.locals ≤ rmX9_setFriend.locals := by decide
section SX9_setFriend
variable {p : Program} {l : Launch} {e : Env} {s : State} {m : MethodId} {args : Array Value} {below : List Frame} {meth : Method} {c : Code} {Q : State → Prop} {D : va_G} {cy : Nat → ClassId} {B : Nat → Nat → Nat} {ids : List (Nat × Nat)} {A : Nat → Prop}
def fX9_setFriend_59 (N : Nat) (K26 : Nat → Int32 → Int32 → Int32 → Int32 → St → Option (Int32 × St)) (x0 : Nat) (x1 : Int32) (x2 : Int32) (x3 : Int32) (x4 : Int32) (s0 : Nat) (s1 : Int32) (s2 : Int32) (s3 : Int32) (z : St) : Option (Int32 × St) := zc (fX9_setDue N s0 s1 s2 s3 z) fun _ z2 => zl (x4 + 1) fun v5 => K26 x0 x1 x2 x3 v5 z2
set_option maxHeartbeats 4000000 in
set_option maxRecDepth 100000 in
theorem bX9_setFriend_59 (hst : zSt B ids) (F : zFx p m c cX9_setFriend 5 s args RX9 D cy B ids A) (hA : ∀ q : Nat, s.heap.size ≤ q → A q) {r : Int32} {z' : St} (E : zEnd p l e rmX9_setFriend s m args below meth c cX9_setFriend D cy B ids A Q none z' .return_ True) {N : Nat} {K26 : Nat → Int32 → Int32 → Int32 → Int32 → St → Option (Int32 × St)} (hK26 : ∀ (x0 : Nat) (x1 : Int32) (x2 : Int32) (x3 : Int32) (x4 : Int32) (hx0 : (9, x0) ∈ ids) {z : St} {H : Heap} {locs : List Loc} {ls : Array Slot} (hr : zRep D cy B ids A s.heap z H locs) (hl : lv_has ls 5 [(0, .ref (B 9 x0)), (1, .int x1), (2, .int x2), (3, .int x3), (4, .int x4)]), K26 x0 x1 x2 x3 x4 z = some (r, z') → W p l e rmX9_setFriend s m args below meth c H locs 0 0 Q (F0 m 26 ls [])) (x0 : Nat) (x1 : Int32) (x2 : Int32) (x3 : Int32) (x4 : Int32) (s0 : Nat) (s1 : Int32) (s2 : Int32) (s3 : Int32) (hx0 : (9, x0) ∈ ids) (hs0 : (9, s0) ∈ ids) {z : St} {H : Heap} {locs : List Loc} {ls : Array Slot} (hr : zRep D cy B ids A s.heap z H locs) (hl : lv_has ls 5 [(0, .ref (B 9 x0)), (1, .int x1), (2, .int x2), (3, .int x3), (4, .int x4)]) (h : fX9_setFriend_59 N K26 x0 x1 x2 x3 x4 s0 s1 s2 s3 z = some (r, z')) : W p l e rmX9_setFriend s m args below meth c H locs 0 0 Q (F0 m 59 ls [.int s3, .int s2, .int s1, .ref (B 9 s0)]) := by
  unfold fX9_setFriend_59 at h
  replace h := zc_some h
  obtain ⟨r1, z2, hc3, h⟩ := h
  refine zr_callv (zrun_V (As := [.int s1, .int s2, .int s3]) (rest := []) zq_1176 zq_1178 zs_X9_setDue zq_1179 zq_10 hdX9_setDue (by decide) (T := TX9) (N := 13) rfl (okX9_setDue l D cy B ids hst N s0 hs0 s1  s2  s3  hr.2.2 hc3) F hr hs0 hl.1 rfl (by decide) dX9_setFriend_59 rfl rfl hroX9_setFriend_X9_setDue ⟨Nat.zero_le _, Nat.zero_le _⟩) F hA hr (fun H locs hw4 hr => ?_)
  clear hc3
  obtain ⟨v5, ev5⟩ : ∃ y : Int32, y = (x4 + 1) := ⟨_, rfl⟩
  replace h := zl_sub ev5 h
  refine lv_iinc (v := v5) (lv' := [(4, .int v5), (0, .ref (B 9 x0)), (1, .int x1), (2, .int x2), (3, .int x3)]) F.1 F.2.1 dX9_setFriend_62 hl (k := 4) rfl (by rw [ev5]; rfl) (by decide) rfl (fun ls hl => ?_)
  refine lv_goto (tgt := 26) F.1 F.2.1 dX9_setFriend_65 (by decide) ?_
  exact hK26 x0 x1 x2 x3 v5 hx0 hr (lv_sub hl [1, 2, 3, 4, 0] rfl) h
def fX9_setFriend_58 (N : Nat) (K26 : Nat → Int32 → Int32 → Int32 → Int32 → St → Option (Int32 × St)) (x0 : Nat) (x1 : Int32) (x2 : Int32) (x3 : Int32) (x4 : Int32) (s0 : Nat) (s1 : Int32) (s2 : Int32) (z : St) : Option (Int32 × St) := fX9_setFriend_59 N K26 x0 x1 x2 x3 x4 s0 s1 s2 (0 : Int32) z
set_option maxHeartbeats 4000000 in
set_option maxRecDepth 100000 in
theorem bX9_setFriend_58 (hst : zSt B ids) (F : zFx p m c cX9_setFriend 5 s args RX9 D cy B ids A) (hA : ∀ q : Nat, s.heap.size ≤ q → A q) {r : Int32} {z' : St} (E : zEnd p l e rmX9_setFriend s m args below meth c cX9_setFriend D cy B ids A Q none z' .return_ True) {N : Nat} {K26 : Nat → Int32 → Int32 → Int32 → Int32 → St → Option (Int32 × St)} (hK26 : ∀ (x0 : Nat) (x1 : Int32) (x2 : Int32) (x3 : Int32) (x4 : Int32) (hx0 : (9, x0) ∈ ids) {z : St} {H : Heap} {locs : List Loc} {ls : Array Slot} (hr : zRep D cy B ids A s.heap z H locs) (hl : lv_has ls 5 [(0, .ref (B 9 x0)), (1, .int x1), (2, .int x2), (3, .int x3), (4, .int x4)]), K26 x0 x1 x2 x3 x4 z = some (r, z') → W p l e rmX9_setFriend s m args below meth c H locs 0 0 Q (F0 m 26 ls [])) (x0 : Nat) (x1 : Int32) (x2 : Int32) (x3 : Int32) (x4 : Int32) (s0 : Nat) (s1 : Int32) (s2 : Int32) (hx0 : (9, x0) ∈ ids) (hs0 : (9, s0) ∈ ids) {z : St} {H : Heap} {locs : List Loc} {ls : Array Slot} (hr : zRep D cy B ids A s.heap z H locs) (hl : lv_has ls 5 [(0, .ref (B 9 x0)), (1, .int x1), (2, .int x2), (3, .int x3), (4, .int x4)]) (h : fX9_setFriend_58 N K26 x0 x1 x2 x3 x4 s0 s1 s2 z = some (r, z')) : W p l e rmX9_setFriend s m args below meth c H locs 0 0 Q (F0 m 58 ls [.int s2, .int s1, .ref (B 9 s0)]) := by
  unfold fX9_setFriend_58 at h
  refine lv_iconst (v := (0 : Int32)) F.1 F.2.1 dX9_setFriend_58 (by decide) ?_
  exact bX9_setFriend_59 hst F hA E hK26 x0 x1 x2 x3 x4 s0 s1 s2 (0 : Int32) hx0 hs0 hr (lv_sub hl [0, 1, 2, 3, 4] rfl) h
def fX9_setFriend_26b (N : Nat) (K26 : Nat → Int32 → Int32 → Int32 → Int32 → St → Option (Int32 × St)) (x0 : Nat) (x1 : Int32) (x2 : Int32) (x3 : Int32) (x4 : Int32) (z : St) : Option (Int32 × St) := if (16 : Int32) ≤ x4 then (some (0, z)) else (if x2 = 0 then (fX9_setFriend_58 N K26 x0 x1 x2 x3 x4 x0 x1 x4 z) else (zl (zgR z 9 12 x0) fun y3 => zd y3 fun a4 => zk x4 16 <| if (zgA z 100 a4 (Int32.toNatClampNeg x4)) = 0 then (fX9_setFriend_58 N K26 x0 x1 x2 x3 x4 x0 x1 x4 z) else (fX9_setFriend_59 N K26 x0 x1 x2 x3 x4 x0 x1 x4 x3 z)))
def fX9_setFriend_26 (N : Nat)  : Nat → Nat → Int32 → Int32 → Int32 → Int32 → St → Option (Int32 × St)
  | 0 => fun _ _ _ _ _ _ => none
  | n + 1 => fX9_setFriend_26b N (fX9_setFriend_26 N  n)
set_option maxHeartbeats 4000000 in
set_option maxRecDepth 100000 in
theorem bX9_setFriend_26 (hst : zSt B ids) (F : zFx p m c cX9_setFriend 5 s args RX9 D cy B ids A) (hA : ∀ q : Nat, s.heap.size ≤ q → A q) {r : Int32} {z' : St} (E : zEnd p l e rmX9_setFriend s m args below meth c cX9_setFriend D cy B ids A Q none z' .return_ True) {N : Nat} {K26 : Nat → Int32 → Int32 → Int32 → Int32 → St → Option (Int32 × St)} (hK26 : ∀ (x0 : Nat) (x1 : Int32) (x2 : Int32) (x3 : Int32) (x4 : Int32) (hx0 : (9, x0) ∈ ids) {z : St} {H : Heap} {locs : List Loc} {ls : Array Slot} (hr : zRep D cy B ids A s.heap z H locs) (hl : lv_has ls 5 [(0, .ref (B 9 x0)), (1, .int x1), (2, .int x2), (3, .int x3), (4, .int x4)]), K26 x0 x1 x2 x3 x4 z = some (r, z') → W p l e rmX9_setFriend s m args below meth c H locs 0 0 Q (F0 m 26 ls [])) (x0 : Nat) (x1 : Int32) (x2 : Int32) (x3 : Int32) (x4 : Int32) (hx0 : (9, x0) ∈ ids) {z : St} {H : Heap} {locs : List Loc} {ls : Array Slot} (hr : zRep D cy B ids A s.heap z H locs) (hl : lv_has ls 5 [(0, .ref (B 9 x0)), (1, .int x1), (2, .int x2), (3, .int x3), (4, .int x4)]) (h : fX9_setFriend_26b N K26 x0 x1 x2 x3 x4 z = some (r, z')) : W p l e rmX9_setFriend s m args below meth c H locs 0 0 Q (F0 m 26 ls []) := by
  unfold fX9_setFriend_26b at h
  refine lv_iload F.1 F.2.1 dX9_setFriend_26 (lv_at hl 4 rfl) ?_
  refine lv_bipush (v := (16 : Int32)) F.1 F.2.1 dX9_setFriend_28 (by decide) ?_
  refine lv_icmp_ge (tgt := 68) F.1 F.2.1 dX9_setFriend_30 (by decide) (fun c1 => ?_) (fun c1 => ?_)
  · replace h := zi_t c1 h
    obtain ⟨rfl, rfl⟩ := zret h
    exact E _ _ _ _ dX9_setFriend_68 trivial hr
  · replace h := zi_f c1 h
    refine lv_aload_n F.1 F.2.1 dX9_setFriend_33 rfl (lv_at hl 0 rfl) ?_
    refine lv_iload_n F.1 F.2.1 dX9_setFriend_34 rfl (lv_at hl 1 rfl) ?_
    refine lv_iload F.1 F.2.1 dX9_setFriend_35 (lv_at hl 4 rfl) ?_
    refine lv_iload_n F.1 F.2.1 dX9_setFriend_37 rfl (lv_at hl 2 rfl) ?_
    refine lv_if_eq (tgt := 58) F.1 F.2.1 dX9_setFriend_38 (by decide) (fun c2 => ?_) (fun c2 => ?_)
    · replace h := zi_t c2 h
      exact bX9_setFriend_58 hst F hA E hK26 x0 x1 x2 x3 x4 x0 x1 x4 hx0 hx0 hr (lv_sub hl [0, 1, 2, 3, 4] rfl) h
    · replace h := zi_f c2 h
      refine lv_aload_n F.1 F.2.1 dX9_setFriend_41 rfl (lv_at hl 0 rfl) ?_
      refine gf9_45 F hx0 hr dX9_setFriend_42 (fun y3 ey3 => ?_)
      replace h := zl_sub ey3 h
      have hy3 := zal_g hr hx0 (j := 12) rfl ey3
      clear ey3
      replace h := zd_some h
      obtain ⟨a4, rfl, h⟩ := h
      refine gf9_57 F (hy3 _ rfl) hr dX9_setFriend_45 ?_
      refine lv_iload F.1 F.2.1 dX9_setFriend_48 (lv_at hl 4 rfl) ?_
      replace h := zk_some h
      obtain ⟨c5, h⟩ := h
      refine zr_iald (k := 100) (by decide) rfl (by decide) F (zal_a F (hy3 _ rfl) (j := 1) rfl) hr dX9_setFriend_50 c5 ?_
      refine lv_if_eq (tgt := 58) F.1 F.2.1 dX9_setFriend_51 (by decide) (fun c6 => ?_) (fun c6 => ?_)
      · replace h := zi_t c6 h
        exact bX9_setFriend_58 hst F hA E hK26 x0 x1 x2 x3 x4 x0 x1 x4 hx0 hx0 hr (lv_sub hl [0, 1, 2, 3, 4] rfl) h
      · replace h := zi_f c6 h
        refine lv_iload_n F.1 F.2.1 dX9_setFriend_54 rfl (lv_at hl 3 rfl) ?_
        refine lv_goto (tgt := 59) F.1 F.2.1 dX9_setFriend_55 (by decide) ?_
        exact bX9_setFriend_59 hst F hA E hK26 x0 x1 x2 x3 x4 x0 x1 x4 x3 hx0 hx0 hr (lv_sub hl [0, 1, 2, 3, 4] rfl) h
theorem lX9_setFriend_26 (hst : zSt B ids) (F : zFx p m c cX9_setFriend 5 s args RX9 D cy B ids A) (hA : ∀ q : Nat, s.heap.size ≤ q → A q) {r : Int32} {z' : St} (E : zEnd p l e rmX9_setFriend s m args below meth c cX9_setFriend D cy B ids A Q none z' .return_ True) {N : Nat}  : ∀ (n : Nat) (x0 : Nat) (x1 : Int32) (x2 : Int32) (x3 : Int32) (x4 : Int32) (hx0 : (9, x0) ∈ ids) {z : St} {H : Heap} {locs : List Loc} {ls : Array Slot} (hr : zRep D cy B ids A s.heap z H locs) (hl : lv_has ls 5 [(0, .ref (B 9 x0)), (1, .int x1), (2, .int x2), (3, .int x3), (4, .int x4)]), fX9_setFriend_26 N  n x0 x1 x2 x3 x4 z = some (r, z') → W p l e rmX9_setFriend s m args below meth c H locs 0 0 Q (F0 m 26 ls []) := by
  intro n
  induction n with
  | zero => intro x0 x1 x2 x3 x4 hx0 z H locs ls hr hl h; cases h
  | succ n ih => intro x0 x1 x2 x3 x4 hx0 z H locs ls hr hl h; exact bX9_setFriend_26 hst F hA E ih x0 x1 x2 x3 x4 hx0 hr hl h
def fX9_setFriend (N : Nat)  (x0 : Nat) (x1 : Int32) (x2 : Int32) (x3 : Int32) (z : St) : Option (Int32 × St) := zk x1 96 <| if ¬ (zgA z 133 x0 (Int32.toNatClampNeg x1)) = x2 then (zk x1 96 <| zl (zsA z 133 x0 (Int32.toNatClampNeg x1) (vp_nar .boolean x2)) fun z4 => zl (zsI z4 9 10 x0 (1 : Int32)) fun z5 => fX9_setFriend_26 N N x0 x1 x2 x3 (0 : Int32) z5) else (some (0, z))
set_option maxHeartbeats 4000000 in
set_option maxRecDepth 100000 in
theorem bX9_setFriend_0 (hst : zSt B ids) (F : zFx p m c cX9_setFriend 5 s args RX9 D cy B ids A) (hA : ∀ q : Nat, s.heap.size ≤ q → A q) {r : Int32} {z' : St} (E : zEnd p l e rmX9_setFriend s m args below meth c cX9_setFriend D cy B ids A Q none z' .return_ True) {N : Nat}  (x0 : Nat) (x1 : Int32) (x2 : Int32) (x3 : Int32) (hx0 : (9, x0) ∈ ids) {z : St} {H : Heap} {locs : List Loc} {ls : Array Slot} (hr : zRep D cy B ids A s.heap z H locs) (hl : lv_has ls 5 [(0, .ref (B 9 x0)), (1, .int x1), (2, .int x2), (3, .int x3)]) (h : fX9_setFriend N x0 x1 x2 x3 z = some (r, z')) : W p l e rmX9_setFriend s m args below meth c H locs 0 0 Q (F0 m 0 ls []) := by
  unfold fX9_setFriend at h
  refine lv_aload_n F.1 F.2.1 dX9_setFriend_0 rfl (lv_at hl 0 rfl) ?_
  refine gf9_18 F hx0 hr dX9_setFriend_1 ?_
  refine lv_iload_n F.1 F.2.1 dX9_setFriend_4 rfl (lv_at hl 1 rfl) ?_
  replace h := zk_some h
  obtain ⟨c1, h⟩ := h
  refine zr_zald (k := 133) (by decide) rfl (by decide) F (zal_a F hx0 (j := 3) rfl) hr dX9_setFriend_5 c1 ?_
  refine lv_iload_n F.1 F.2.1 dX9_setFriend_6 rfl (lv_at hl 2 rfl) ?_
  refine lv_icmp_ne (tgt := 11) F.1 F.2.1 dX9_setFriend_7 (by decide) (fun c2 => ?_) (fun c2 => ?_)
  · replace h := zi_t c2 h
    refine lv_aload_n F.1 F.2.1 dX9_setFriend_11 rfl (lv_at hl 0 rfl) ?_
    refine gf9_18 F hx0 hr dX9_setFriend_12 ?_
    refine lv_iload_n F.1 F.2.1 dX9_setFriend_15 rfl (lv_at hl 1 rfl) ?_
    refine lv_iload_n F.1 F.2.1 dX9_setFriend_16 rfl (lv_at hl 2 rfl) ?_
    replace h := zk_some h
    obtain ⟨c3, h⟩ := h
    refine zr_zast (k := 133) (by decide) rfl (by decide) F (zal_a F hx0 (j := 3) rfl) hr dX9_setFriend_17 c3 (fun H locs z4 ez4 hr => ?_)
    replace h := zl_sub ez4 h
    clear ez4
    refine lv_aload_n F.1 F.2.1 dX9_setFriend_18 rfl (lv_at hl 0 rfl) ?_
    refine lv_iconst (v := (1 : Int32)) F.1 F.2.1 dX9_setFriend_19 (by decide) ?_
    refine pf9_36 F hx0 hr dX9_setFriend_20 (1 : Int32) (by decide) (fun H locs z5 ez5 hr => ?_)
    replace h := zl_sub ez5 h
    clear ez5
    refine lv_iconst (v := (0 : Int32)) F.1 F.2.1 dX9_setFriend_23 (by decide) ?_
    refine lv_istore (lv' := [(4, .int (0 : Int32)), (0, .ref (B 9 x0)), (1, .int x1), (2, .int x2), (3, .int x3)]) F.1 F.2.1 dX9_setFriend_24 hl (by decide) rfl (fun ls hl => ?_)
    exact lX9_setFriend_26 hst F hA E  _ x0 x1 x2 x3 (0 : Int32) hx0 hr (lv_sub hl [1, 2, 3, 4, 0] rfl) h
  · replace h := zi_f (fun q => q c2) h
    obtain ⟨rfl, rfl⟩ := zret h
    exact E _ _ _ _ dX9_setFriend_10 trivial hr
end SX9_setFriend
set_option maxRecDepth 100000 in
theorem okX9_setFriend (l : Launch) (D : va_G) (cy : Nat → ClassId) (B : Nat → Nat → Nat) (ids : List (Nat × Nat)) (hst : zSt B ids) (N : Nat) (x0 : Nat) (hx0 : (9, x0) ∈ ids) (x1 : Int32) (x2 : Int32) (x3 : Int32) {z : St} {r : Int32} {z' : St} (hW : zWf ids z) (h : fX9_setFriend N x0 x1 x2 x3 z = some (r, z')) : zM l yX9_setFriend (zws yX9_setFriend cX9_setFriend 5 none) rmX9_setFriend D cy B ids [.ref (B 9 x0), .int x1, .int x2, .int x3] none True z z' :=
  zM_of hst hW (by decide +kernel) (Nat.le_of_ble_eq_true rfl) (fun p e s m args below meth c A ls F hA hret hlocks hr hl => bX9_setFriend_0 hst F hA (zEnd_v F hret hlocks) x0 x1 x2 x3 hx0 hr hl h)
abbrev rmX9_forget : Room := { frames := 2, cells := 0, slots := 0, locals := 47 }
theorem hdX9_forget : yX9_forget.cls ≠ "java/lang/invoke/MethodHandle" ∧ yX9_forget.cls ≠ "java/lang/invoke/VarHandle" ∧ (parseMethodDescriptor yX9_forget.desc).map (fun d => d.parameters.length) = some 1 := by decide +kernel
theorem hroX9_forget_X9_setFriend : rmX9_setFriend.frames + 1 ≤ rmX9_forget.frames ∧ 8 + (5 + 11) + rmX9_setFriend.locals ≤ rmX9_forget.locals := by decide
section SX9_forget
variable {p : Program} {l : Launch} {e : Env} {s : State} {m : MethodId} {args : Array Value} {below : List Frame} {meth : Method} {c : Code} {Q : State → Prop} {D : va_G} {cy : Nat → ClassId} {B : Nat → Nat → Nat} {ids : List (Nat × Nat)} {A : Nat → Prop}
def fX9_forget_9b (N : Nat) (K9 : Nat → Int32 → Int32 → St → Option (Int32 × St)) (x0 : Nat) (x2 : Int32) (x3 : Int32) (z : St) : Option (Int32 × St) := if (zgI z 9 1 x0) ≤ (x3 + (1 : Int32)) then (zl (zsI z 9 1 x0 ((zgI z 9 1 x0) - (1 : Int32))) fun z2 => zk x2 96 <| zl (zsA z2 132 x0 (Int32.toNatClampNeg x2) (0 : Int32)) fun z4 => zc (fX9_setFriend N x0 x2 (0 : Int32) (0 : Int32) z4) fun _ z6 => some (0, z6)) else (zk (x3 + (1 : Int32)) 16 <| zk x3 16 <| zl (zsA z 131 x0 (Int32.toNatClampNeg x3) (zgA z 131 x0 (Int32.toNatClampNeg (x3 + (1 : Int32))))) fun z11 => zl (x3 + 1) fun v12 => K9 x0 x2 v12 z11)
def fX9_forget_9 (N : Nat)  : Nat → Nat → Int32 → Int32 → St → Option (Int32 × St)
  | 0 => fun _ _ _ _ => none
  | n + 1 => fX9_forget_9b N (fX9_forget_9 N  n)
set_option maxHeartbeats 4000000 in
set_option maxRecDepth 100000 in
theorem bX9_forget_9 (hst : zSt B ids) (F : zFx p m c cX9_forget 4 s args RX9 D cy B ids A) (hA : ∀ q : Nat, s.heap.size ≤ q → A q) {r : Int32} {z' : St} (E : zEnd p l e rmX9_forget s m args below meth c cX9_forget D cy B ids A Q none z' .return_ True) {N : Nat} {K9 : Nat → Int32 → Int32 → St → Option (Int32 × St)} (hK9 : ∀ (x0 : Nat) (x2 : Int32) (x3 : Int32) (hx0 : (9, x0) ∈ ids) {z : St} {H : Heap} {locs : List Loc} {ls : Array Slot} (hr : zRep D cy B ids A s.heap z H locs) (hl : lv_has ls 4 [(0, .ref (B 9 x0)), (2, .int x2), (3, .int x3)]), K9 x0 x2 x3 z = some (r, z') → W p l e rmX9_forget s m args below meth c H locs 0 0 Q (F0 m 9 ls [])) (x0 : Nat) (x2 : Int32) (x3 : Int32) (hx0 : (9, x0) ∈ ids) {z : St} {H : Heap} {locs : List Loc} {ls : Array Slot} (hr : zRep D cy B ids A s.heap z H locs) (hl : lv_has ls 4 [(0, .ref (B 9 x0)), (2, .int x2), (3, .int x3)]) (h : fX9_forget_9b N K9 x0 x2 x3 z = some (r, z')) : W p l e rmX9_forget s m args below meth c H locs 0 0 Q (F0 m 9 ls []) := by
  unfold fX9_forget_9b at h
  refine lv_iload_n F.1 F.2.1 dX9_forget_9 rfl (lv_at hl 2 rfl) ?_
  refine lv_iconst (v := (1 : Int32)) F.1 F.2.1 dX9_forget_10 (by decide) ?_
  refine lv_iadd F.1 F.2.1 dX9_forget_11 ?_
  refine lv_aload_n F.1 F.2.1 dX9_forget_12 rfl (lv_at hl 0 rfl) ?_
  refine gf9_49 F hx0 hr dX9_forget_13 ?_
  refine lv_icmp_ge (tgt := 39) F.1 F.2.1 dX9_forget_16 (by decide) (fun c1 => ?_) (fun c1 => ?_)
  · replace h := zi_t c1 h
    refine lv_aload_n F.1 F.2.1 dX9_forget_39 rfl (lv_at hl 0 rfl) ?_
    refine lv_dup F.1 F.2.1 dX9_forget_40 rfl ?_
    refine gf9_49 F hx0 hr dX9_forget_41 ?_
    refine lv_iconst (v := (1 : Int32)) F.1 F.2.1 dX9_forget_44 (by decide) ?_
    refine lv_isub F.1 F.2.1 dX9_forget_45 ?_
    refine pf9_49 F hx0 hr dX9_forget_46 ((zgI z 9 1 x0) - (1 : Int32)) (fun H locs z2 ez2 hr => ?_)
    replace h := zl_sub ez2 h
    clear ez2
    refine lv_aload_n F.1 F.2.1 dX9_forget_49 rfl (lv_at hl 0 rfl) ?_
    refine gf9_15 F hx0 hr dX9_forget_50 ?_
    refine lv_iload_n F.1 F.2.1 dX9_forget_53 rfl (lv_at hl 1 rfl) ?_
    refine lv_iconst (v := (0 : Int32)) F.1 F.2.1 dX9_forget_54 (by decide) ?_
    replace h := zk_some h
    obtain ⟨c3, h⟩ := h
    refine zr_iast (k := 132) (by decide) rfl (by decide) F (zal_a F hx0 (j := 2) rfl) hr dX9_forget_55 c3 (fun H locs z4 ez4 hr => ?_)
    replace h := zl_sub ez4 h
    clear ez4
    refine lv_aload_n F.1 F.2.1 dX9_forget_56 rfl (lv_at hl 0 rfl) ?_
    refine lv_iload_n F.1 F.2.1 dX9_forget_57 rfl (lv_at hl 1 rfl) ?_
    refine lv_iconst (v := (0 : Int32)) F.1 F.2.1 dX9_forget_58 (by decide) ?_
    refine lv_iconst (v := (0 : Int32)) F.1 F.2.1 dX9_forget_59 (by decide) ?_
    replace h := zc_some h
    obtain ⟨r5, z6, hc7, h⟩ := h
    refine zr_callv (zrun_V (As := [.int x2, .int (0 : Int32), .int (0 : Int32)]) (rest := []) zq_1493 zq_1174 zs_X9_setFriend zq_1175 zq_10 hdX9_setFriend (by decide) (T := TX9) (N := 13) rfl (okX9_setFriend l D cy B ids hst N x0 hx0 x2  (0 : Int32)  (0 : Int32)  hr.2.2 hc7) F hr hx0 hl.1 rfl (by decide) dX9_forget_60 rfl rfl hroX9_forget_X9_setFriend ⟨Nat.zero_le _, Nat.zero_le _⟩) F hA hr (fun H locs hw8 hr => ?_)
    clear hc7
    obtain ⟨rfl, rfl⟩ := zret h
    exact E _ _ _ _ dX9_forget_63 trivial hr
  · replace h := zi_f c1 h
    refine lv_aload_n F.1 F.2.1 dX9_forget_19 rfl (lv_at hl 0 rfl) ?_
    refine gf9_9 F hx0 hr dX9_forget_20 ?_
    refine lv_iload_n F.1 F.2.1 dX9_forget_23 rfl (lv_at hl 2 rfl) ?_
    refine lv_aload_n F.1 F.2.1 dX9_forget_24 rfl (lv_at hl 0 rfl) ?_
    refine gf9_9 F hx0 hr dX9_forget_25 ?_
    refine lv_iload_n F.1 F.2.1 dX9_forget_28 rfl (lv_at hl 2 rfl) ?_
    refine lv_iconst (v := (1 : Int32)) F.1 F.2.1 dX9_forget_29 (by decide) ?_
    refine lv_iadd F.1 F.2.1 dX9_forget_30 ?_
    replace h := zk_some h
    obtain ⟨c9, h⟩ := h
    refine zr_iald (k := 131) (by decide) rfl (by decide) F (zal_a F hx0 (j := 0) rfl) hr dX9_forget_31 c9 ?_
    replace h := zk_some h
    obtain ⟨c10, h⟩ := h
    refine zr_iast (k := 131) (by decide) rfl (by decide) F (zal_a F hx0 (j := 0) rfl) hr dX9_forget_32 c10 (fun H locs z11 ez11 hr => ?_)
    replace h := zl_sub ez11 h
    clear ez11
    obtain ⟨v12, ev12⟩ : ∃ y : Int32, y = (x3 + 1) := ⟨_, rfl⟩
    replace h := zl_sub ev12 h
    refine lv_iinc (v := v12) (lv' := [(3, .int v12), (0, .ref (B 9 x0)), (2, .int x2)]) F.1 F.2.1 dX9_forget_33 hl (k := 2) rfl (by rw [ev12]; rfl) (by decide) rfl (fun ls hl => ?_)
    refine lv_goto (tgt := 9) F.1 F.2.1 dX9_forget_36 (by decide) ?_
    exact hK9 x0 x2 v12 hx0 hr (lv_sub hl [1, 2, 0] rfl) h
theorem lX9_forget_9 (hst : zSt B ids) (F : zFx p m c cX9_forget 4 s args RX9 D cy B ids A) (hA : ∀ q : Nat, s.heap.size ≤ q → A q) {r : Int32} {z' : St} (E : zEnd p l e rmX9_forget s m args below meth c cX9_forget D cy B ids A Q none z' .return_ True) {N : Nat}  : ∀ (n : Nat) (x0 : Nat) (x2 : Int32) (x3 : Int32) (hx0 : (9, x0) ∈ ids) {z : St} {H : Heap} {locs : List Loc} {ls : Array Slot} (hr : zRep D cy B ids A s.heap z H locs) (hl : lv_has ls 4 [(0, .ref (B 9 x0)), (2, .int x2), (3, .int x3)]), fX9_forget_9 N  n x0 x2 x3 z = some (r, z') → W p l e rmX9_forget s m args below meth c H locs 0 0 Q (F0 m 9 ls []) := by
  intro n
  induction n with
  | zero => intro x0 x2 x3 hx0 z H locs ls hr hl h; cases h
  | succ n ih => intro x0 x2 x3 hx0 z H locs ls hr hl h; exact bX9_forget_9 hst F hA E ih x0 x2 x3 hx0 hr hl h
def fX9_forget (N : Nat)  (x0 : Nat) (x1 : Int32) (z : St) : Option (Int32 × St) := zk x1 16 <| zl (zgA z 131 x0 (Int32.toNatClampNeg x1)) fun v2 => fX9_forget_9 N N x0 v2 x1 z
set_option maxHeartbeats 4000000 in
set_option maxRecDepth 100000 in
theorem bX9_forget_0 (hst : zSt B ids) (F : zFx p m c cX9_forget 4 s args RX9 D cy B ids A) (hA : ∀ q : Nat, s.heap.size ≤ q → A q) {r : Int32} {z' : St} (E : zEnd p l e rmX9_forget s m args below meth c cX9_forget D cy B ids A Q none z' .return_ True) {N : Nat}  (x0 : Nat) (x1 : Int32) (hx0 : (9, x0) ∈ ids) {z : St} {H : Heap} {locs : List Loc} {ls : Array Slot} (hr : zRep D cy B ids A s.heap z H locs) (hl : lv_has ls 4 [(0, .ref (B 9 x0)), (1, .int x1)]) (h : fX9_forget N x0 x1 z = some (r, z')) : W p l e rmX9_forget s m args below meth c H locs 0 0 Q (F0 m 0 ls []) := by
  unfold fX9_forget at h
  refine lv_aload_n F.1 F.2.1 dX9_forget_0 rfl (lv_at hl 0 rfl) ?_
  refine gf9_9 F hx0 hr dX9_forget_1 ?_
  refine lv_iload_n F.1 F.2.1 dX9_forget_4 rfl (lv_at hl 1 rfl) ?_
  replace h := zk_some h
  obtain ⟨c1, h⟩ := h
  refine zr_iald (k := 131) (by decide) rfl (by decide) F (zal_a F hx0 (j := 0) rfl) hr dX9_forget_5 c1 ?_
  refine lv_topi (fun v2 ev2 => ?_)
  replace h := zl_sub ev2 h
  refine lv_istore_n (lv' := [(2, .int v2), (0, .ref (B 9 x0)), (1, .int x1)]) F.1 F.2.1 dX9_forget_6 rfl hl (by decide) rfl (fun ls hl => ?_)
  refine lv_iload_n F.1 F.2.1 dX9_forget_7 rfl (lv_at hl 2 rfl) ?_
  refine lv_istore_n (lv' := [(3, .int x1), (2, .int v2), (0, .ref (B 9 x0)), (1, .int x1)]) F.1 F.2.1 dX9_forget_8 rfl hl (by decide) rfl (fun ls hl => ?_)
  exact lX9_forget_9 hst F hA E  _ x0 v2 x1 hx0 hr (lv_sub hl [2, 1, 0] rfl) h
end SX9_forget
set_option maxRecDepth 100000 in
theorem okX9_forget (l : Launch) (D : va_G) (cy : Nat → ClassId) (B : Nat → Nat → Nat) (ids : List (Nat × Nat)) (hst : zSt B ids) (N : Nat) (x0 : Nat) (hx0 : (9, x0) ∈ ids) (x1 : Int32) {z : St} {r : Int32} {z' : St} (hW : zWf ids z) (h : fX9_forget N x0 x1 z = some (r, z')) : zM l yX9_forget (zws yX9_forget cX9_forget 4 none) rmX9_forget D cy B ids [.ref (B 9 x0), .int x1] none True z z' :=
  zM_of hst hW (by decide +kernel) (Nat.le_of_ble_eq_true rfl) (fun p e s m args below meth c A ls F hA hret hlocks hr hl => bX9_forget_0 hst F hA (zEnd_v F hret hlocks) x0 x1 hx0 hr hl h)
abbrev rmX9_setDueToAll : Room := { frames := 1, cells := 0, slots := 0, locals := 23 }
theorem hdX9_setDueToAll : yX9_setDueToAll.cls ≠ "java/lang/invoke/MethodHandle" ∧ yX9_setDueToAll.cls ≠ "java/lang/invoke/VarHandle" ∧ (parseMethodDescriptor yX9_setDueToAll.desc).map (fun d => d.parameters.length) = some 3 := by decide +kernel
theorem hroX9_setDueToAll_X9_setDue : rmX9_setDue.frames + 1 ≤ rmX9_setDueToAll.frames ∧ 8 + (4 + 11) + rmX9_setDue.locals ≤ rmX9_setDueToAll.locals := by decide
section SX9_setDueToAll
variable {p : Program} {l : Launch} {e : Env} {s : State} {m : MethodId} {args : Array Value} {below : List Frame} {meth : Method} {c : Code} {Q : State → Prop} {D : va_G} {cy : Nat → ClassId} {B : Nat → Nat → Nat} {ids : List (Nat × Nat)} {A : Nat → Prop}
def fX9_setDueToAll_51 (N : Nat) (K3 : Nat → Int32 → Int32 → Int32 → Int32 → St → Option (Int32 × St)) (x0 : Nat) (x1 : Int32) (x2 : Int32) (x3 : Int32) (x4 : Int32) (z : St) : Option (Int32 × St) := zl (x4 + 1) fun v1 => K3 x0 x1 x2 x3 v1 z
set_option maxHeartbeats 4000000 in
set_option maxRecDepth 100000 in
theorem bX9_setDueToAll_51 (hst : zSt B ids) (F : zFx p m c cX9_setDueToAll 5 s args RX9 D cy B ids A) (hA : ∀ q : Nat, s.heap.size ≤ q → A q) {r : Int32} {z' : St} (E : zEnd p l e rmX9_setDueToAll s m args below meth c cX9_setDueToAll D cy B ids A Q none z' .return_ True) {N : Nat} {K3 : Nat → Int32 → Int32 → Int32 → Int32 → St → Option (Int32 × St)} (hK3 : ∀ (x0 : Nat) (x1 : Int32) (x2 : Int32) (x3 : Int32) (x4 : Int32) (hx0 : (9, x0) ∈ ids) {z : St} {H : Heap} {locs : List Loc} {ls : Array Slot} (hr : zRep D cy B ids A s.heap z H locs) (hl : lv_has ls 5 [(0, .ref (B 9 x0)), (1, .int x1), (2, .int x2), (3, .int x3), (4, .int x4)]), K3 x0 x1 x2 x3 x4 z = some (r, z') → W p l e rmX9_setDueToAll s m args below meth c H locs 0 0 Q (F0 m 3 ls [])) (x0 : Nat) (x1 : Int32) (x2 : Int32) (x3 : Int32) (x4 : Int32) (hx0 : (9, x0) ∈ ids) {z : St} {H : Heap} {locs : List Loc} {ls : Array Slot} (hr : zRep D cy B ids A s.heap z H locs) (hl : lv_has ls 5 [(0, .ref (B 9 x0)), (1, .int x1), (2, .int x2), (3, .int x3), (4, .int x4)]) (h : fX9_setDueToAll_51 N K3 x0 x1 x2 x3 x4 z = some (r, z')) : W p l e rmX9_setDueToAll s m args below meth c H locs 0 0 Q (F0 m 51 ls []) := by
  unfold fX9_setDueToAll_51 at h
  obtain ⟨v1, ev1⟩ : ∃ y : Int32, y = (x4 + 1) := ⟨_, rfl⟩
  replace h := zl_sub ev1 h
  refine lv_iinc (v := v1) (lv' := [(4, .int v1), (0, .ref (B 9 x0)), (1, .int x1), (2, .int x2), (3, .int x3)]) F.1 F.2.1 dX9_setDueToAll_51 hl (k := 4) rfl (by rw [ev1]; rfl) (by decide) rfl (fun ls hl => ?_)
  refine lv_goto (tgt := 3) F.1 F.2.1 dX9_setDueToAll_54 (by decide) ?_
  exact hK3 x0 x1 x2 x3 v1 hx0 hr (lv_sub hl [1, 2, 3, 4, 0] rfl) h
def fX9_setDueToAll_3b (N : Nat) (K3 : Nat → Int32 → Int32 → Int32 → Int32 → St → Option (Int32 × St)) (x0 : Nat) (x1 : Int32) (x2 : Int32) (x3 : Int32) (x4 : Int32) (z : St) : Option (Int32 × St) := if (zgI z 9 1 x0) ≤ x4 then (some (0, z)) else (zk x4 16 <| if (zgA z 131 x0 (Int32.toNatClampNeg x4)) = x2 then (fX9_setDueToAll_51 N K3 x0 x1 x2 x3 x4 z) else (zk x4 16 <| zk (zgA z 131 x0 (Int32.toNatClampNeg x4)) 96 <| if (zgA z 133 x0 (Int32.toNatClampNeg (zgA z 131 x0 (Int32.toNatClampNeg x4)))) = 0 then (fX9_setDueToAll_51 N K3 x0 x1 x2 x3 x4 z) else (zk x4 16 <| zc (fX9_setDue N x0 (zgA z 131 x0 (Int32.toNatClampNeg x4)) x1 x3 z) fun _ z9 => fX9_setDueToAll_51 N K3 x0 x1 x2 x3 x4 z9)))
def fX9_setDueToAll_3 (N : Nat)  : Nat → Nat → Int32 → Int32 → Int32 → Int32 → St → Option (Int32 × St)
  | 0 => fun _ _ _ _ _ _ => none
  | n + 1 => fX9_setDueToAll_3b N (fX9_setDueToAll_3 N  n)
set_option maxHeartbeats 4000000 in
set_option maxRecDepth 100000 in
theorem bX9_setDueToAll_3 (hst : zSt B ids) (F : zFx p m c cX9_setDueToAll 5 s args RX9 D cy B ids A) (hA : ∀ q : Nat, s.heap.size ≤ q → A q) {r : Int32} {z' : St} (E : zEnd p l e rmX9_setDueToAll s m args below meth c cX9_setDueToAll D cy B ids A Q none z' .return_ True) {N : Nat} {K3 : Nat → Int32 → Int32 → Int32 → Int32 → St → Option (Int32 × St)} (hK3 : ∀ (x0 : Nat) (x1 : Int32) (x2 : Int32) (x3 : Int32) (x4 : Int32) (hx0 : (9, x0) ∈ ids) {z : St} {H : Heap} {locs : List Loc} {ls : Array Slot} (hr : zRep D cy B ids A s.heap z H locs) (hl : lv_has ls 5 [(0, .ref (B 9 x0)), (1, .int x1), (2, .int x2), (3, .int x3), (4, .int x4)]), K3 x0 x1 x2 x3 x4 z = some (r, z') → W p l e rmX9_setDueToAll s m args below meth c H locs 0 0 Q (F0 m 3 ls [])) (x0 : Nat) (x1 : Int32) (x2 : Int32) (x3 : Int32) (x4 : Int32) (hx0 : (9, x0) ∈ ids) {z : St} {H : Heap} {locs : List Loc} {ls : Array Slot} (hr : zRep D cy B ids A s.heap z H locs) (hl : lv_has ls 5 [(0, .ref (B 9 x0)), (1, .int x1), (2, .int x2), (3, .int x3), (4, .int x4)]) (h : fX9_setDueToAll_3b N K3 x0 x1 x2 x3 x4 z = some (r, z')) : W p l e rmX9_setDueToAll s m args below meth c H locs 0 0 Q (F0 m 3 ls []) := by
  unfold fX9_setDueToAll_3b at h
  refine lv_iload F.1 F.2.1 dX9_setDueToAll_3 (lv_at hl 4 rfl) ?_
  refine lv_aload_n F.1 F.2.1 dX9_setDueToAll_5 rfl (lv_at hl 0 rfl) ?_
  refine gf9_49 F hx0 hr dX9_setDueToAll_6 ?_
  refine lv_icmp_ge (tgt := 57) F.1 F.2.1 dX9_setDueToAll_9 (by decide) (fun c1 => ?_) (fun c1 => ?_)
  · replace h := zi_t c1 h
    obtain ⟨rfl, rfl⟩ := zret h
    exact E _ _ _ _ dX9_setDueToAll_57 trivial hr
  · replace h := zi_f c1 h
    refine lv_aload_n F.1 F.2.1 dX9_setDueToAll_12 rfl (lv_at hl 0 rfl) ?_
    refine gf9_9 F hx0 hr dX9_setDueToAll_13 ?_
    refine lv_iload F.1 F.2.1 dX9_setDueToAll_16 (lv_at hl 4 rfl) ?_
    replace h := zk_some h
    obtain ⟨c2, h⟩ := h
    refine zr_iald (k := 131) (by decide) rfl (by decide) F (zal_a F hx0 (j := 0) rfl) hr dX9_setDueToAll_18 c2 ?_
    refine lv_iload_n F.1 F.2.1 dX9_setDueToAll_19 rfl (lv_at hl 2 rfl) ?_
    refine lv_icmp_eq (tgt := 51) F.1 F.2.1 dX9_setDueToAll_20 (by decide) (fun c3 => ?_) (fun c3 => ?_)
    · replace h := zi_t c3 h
      exact bX9_setDueToAll_51 hst F hA E hK3 x0 x1 x2 x3 x4 hx0 hr (lv_sub hl [0, 1, 2, 3, 4] rfl) h
    · replace h := zi_f c3 h
      refine lv_aload_n F.1 F.2.1 dX9_setDueToAll_23 rfl (lv_at hl 0 rfl) ?_
      refine gf9_18 F hx0 hr dX9_setDueToAll_24 ?_
      refine lv_aload_n F.1 F.2.1 dX9_setDueToAll_27 rfl (lv_at hl 0 rfl) ?_
      refine gf9_9 F hx0 hr dX9_setDueToAll_28 ?_
      refine lv_iload F.1 F.2.1 dX9_setDueToAll_31 (lv_at hl 4 rfl) ?_
      replace h := zk_some h
      obtain ⟨c4, h⟩ := h
      refine zr_iald (k := 131) (by decide) rfl (by decide) F (zal_a F hx0 (j := 0) rfl) hr dX9_setDueToAll_33 c4 ?_
      replace h := zk_some h
      obtain ⟨c5, h⟩ := h
      refine zr_zald (k := 133) (by decide) rfl (by decide) F (zal_a F hx0 (j := 3) rfl) hr dX9_setDueToAll_34 c5 ?_
      refine lv_if_eq (tgt := 51) F.1 F.2.1 dX9_setDueToAll_35 (by decide) (fun c6 => ?_) (fun c6 => ?_)
      · replace h := zi_t c6 h
        exact bX9_setDueToAll_51 hst F hA E hK3 x0 x1 x2 x3 x4 hx0 hr (lv_sub hl [0, 1, 2, 3, 4] rfl) h
      · replace h := zi_f c6 h
        refine lv_aload_n F.1 F.2.1 dX9_setDueToAll_38 rfl (lv_at hl 0 rfl) ?_
        refine lv_aload_n F.1 F.2.1 dX9_setDueToAll_39 rfl (lv_at hl 0 rfl) ?_
        refine gf9_9 F hx0 hr dX9_setDueToAll_40 ?_
        refine lv_iload F.1 F.2.1 dX9_setDueToAll_43 (lv_at hl 4 rfl) ?_
        replace h := zk_some h
        obtain ⟨c7, h⟩ := h
        refine zr_iald (k := 131) (by decide) rfl (by decide) F (zal_a F hx0 (j := 0) rfl) hr dX9_setDueToAll_45 c7 ?_
        refine lv_iload_n F.1 F.2.1 dX9_setDueToAll_46 rfl (lv_at hl 1 rfl) ?_
        refine lv_iload_n F.1 F.2.1 dX9_setDueToAll_47 rfl (lv_at hl 3 rfl) ?_
        replace h := zc_some h
        obtain ⟨r8, z9, hc10, h⟩ := h
        refine zr_callv (zrun_V (As := [.int (zgA z 131 x0 (Int32.toNatClampNeg x4)), .int x1, .int x3]) (rest := []) zq_1176 zq_1178 zs_X9_setDue zq_1179 zq_10 hdX9_setDue (by decide) (T := TX9) (N := 13) rfl (okX9_setDue l D cy B ids hst N x0 hx0 (zgA z 131 x0 (Int32.toNatClampNeg x4))  x1  x3  hr.2.2 hc10) F hr hx0 hl.1 rfl (by decide) dX9_setDueToAll_48 rfl rfl hroX9_setDueToAll_X9_setDue ⟨Nat.zero_le _, Nat.zero_le _⟩) F hA hr (fun H locs hw11 hr => ?_)
        clear hc10
        exact bX9_setDueToAll_51 hst F hA E hK3 x0 x1 x2 x3 x4 hx0 hr (lv_sub hl [0, 1, 2, 3, 4] rfl) h
theorem lX9_setDueToAll_3 (hst : zSt B ids) (F : zFx p m c cX9_setDueToAll 5 s args RX9 D cy B ids A) (hA : ∀ q : Nat, s.heap.size ≤ q → A q) {r : Int32} {z' : St} (E : zEnd p l e rmX9_setDueToAll s m args below meth c cX9_setDueToAll D cy B ids A Q none z' .return_ True) {N : Nat}  : ∀ (n : Nat) (x0 : Nat) (x1 : Int32) (x2 : Int32) (x3 : Int32) (x4 : Int32) (hx0 : (9, x0) ∈ ids) {z : St} {H : Heap} {locs : List Loc} {ls : Array Slot} (hr : zRep D cy B ids A s.heap z H locs) (hl : lv_has ls 5 [(0, .ref (B 9 x0)), (1, .int x1), (2, .int x2), (3, .int x3), (4, .int x4)]), fX9_setDueToAll_3 N  n x0 x1 x2 x3 x4 z = some (r, z') → W p l e rmX9_setDueToAll s m args below meth c H locs 0 0 Q (F0 m 3 ls []) := by
  intro n
  induction n with
  | zero => intro x0 x1 x2 x3 x4 hx0 z H locs ls hr hl h; cases h
  | succ n ih => intro x0 x1 x2 x3 x4 hx0 z H locs ls hr hl h; exact bX9_setDueToAll_3 hst F hA E ih x0 x1 x2 x3 x4 hx0 hr hl h
def fX9_setDueToAll (N : Nat)  (x0 : Nat) (x1 : Int32) (x2 : Int32) (x3 : Int32) (z : St) : Option (Int32 × St) := fX9_setDueToAll_3 N N x0 x1 x2 x3 (0 : Int32) z
set_option maxHeartbeats 4000000 in
set_option maxRecDepth 100000 in
theorem bX9_setDueToAll_0 (hst : zSt B ids) (F : zFx p m c cX9_setDueToAll 5 s args RX9 D cy B ids A) (hA : ∀ q : Nat, s.heap.size ≤ q → A q) {r : Int32} {z' : St} (E : zEnd p l e rmX9_setDueToAll s m args below meth c cX9_setDueToAll D cy B ids A Q none z' .return_ True) {N : Nat}  (x0 : Nat) (x1 : Int32) (x2 : Int32) (x3 : Int32) (hx0 : (9, x0) ∈ ids) {z : St} {H : Heap} {locs : List Loc} {ls : Array Slot} (hr : zRep D cy B ids A s.heap z H locs) (hl : lv_has ls 5 [(0, .ref (B 9 x0)), (1, .int x1), (2, .int x2), (3, .int x3)]) (h : fX9_setDueToAll N x0 x1 x2 x3 z = some (r, z')) : W p l e rmX9_setDueToAll s m args below meth c H locs 0 0 Q (F0 m 0 ls []) := by
  unfold fX9_setDueToAll at h
  refine lv_iconst (v := (0 : Int32)) F.1 F.2.1 dX9_setDueToAll_0 (by decide) ?_
  refine lv_istore (lv' := [(4, .int (0 : Int32)), (0, .ref (B 9 x0)), (1, .int x1), (2, .int x2), (3, .int x3)]) F.1 F.2.1 dX9_setDueToAll_1 hl (by decide) rfl (fun ls hl => ?_)
  exact lX9_setDueToAll_3 hst F hA E  _ x0 x1 x2 x3 (0 : Int32) hx0 hr (lv_sub hl [1, 2, 3, 4, 0] rfl) h
end SX9_setDueToAll
set_option maxRecDepth 100000 in
theorem okX9_setDueToAll (l : Launch) (D : va_G) (cy : Nat → ClassId) (B : Nat → Nat → Nat) (ids : List (Nat × Nat)) (hst : zSt B ids) (N : Nat) (x0 : Nat) (hx0 : (9, x0) ∈ ids) (x1 : Int32) (x2 : Int32) (x3 : Int32) {z : St} {r : Int32} {z' : St} (hW : zWf ids z) (h : fX9_setDueToAll N x0 x1 x2 x3 z = some (r, z')) : zM l yX9_setDueToAll (zws yX9_setDueToAll cX9_setDueToAll 5 none) rmX9_setDueToAll D cy B ids [.ref (B 9 x0), .int x1, .int x2, .int x3] none True z z' :=
  zM_of hst hW (by decide +kernel) (Nat.le_of_ble_eq_true rfl) (fun p e s m args below meth c A ls F hA hret hlocks hr hl => bX9_setDueToAll_0 hst F hA (zEnd_v F hret hlocks) x0 x1 x2 x3 hx0 hr hl h)
abbrev rmX9_clearDueOf : Room := { frames := 1, cells := 0, slots := 0, locals := 23 }
theorem hdX9_clearDueOf : yX9_clearDueOf.cls ≠ "java/lang/invoke/MethodHandle" ∧ yX9_clearDueOf.cls ≠ "java/lang/invoke/VarHandle" ∧ (parseMethodDescriptor yX9_clearDueOf.desc).map (fun d => d.parameters.length) = some 1 := by decide +kernel
theorem hroX9_clearDueOf_X9_setDue : rmX9_setDue.frames + 1 ≤ rmX9_clearDueOf.frames ∧ 8 + (4 + 11) + rmX9_setDue.locals ≤ rmX9_clearDueOf.locals := by decide
section SX9_clearDueOf
variable {p : Program} {l : Launch} {e : Env} {s : State} {m : MethodId} {args : Array Value} {below : List Frame} {meth : Method} {c : Code} {Q : State → Prop} {D : va_G} {cy : Nat → ClassId} {B : Nat → Nat → Nat} {ids : List (Nat × Nat)} {A : Nat → Prop}
def fX9_clearDueOf_2b (N : Nat) (K2 : Nat → Int32 → Int32 → St → Option (Int32 × St)) (x0 : Nat) (x1 : Int32) (x2 : Int32) (z : St) : Option (Int32 × St) := if (zgI z 9 1 x0) ≤ x2 then (some (0, z)) else (zk x2 16 <| zc (fX9_setDue N x0 (zgA z 131 x0 (Int32.toNatClampNeg x2)) x1 (0 : Int32) z) fun _ z4 => zl (x2 + 1) fun v7 => K2 x0 x1 v7 z4)
def fX9_clearDueOf_2 (N : Nat)  : Nat → Nat → Int32 → Int32 → St → Option (Int32 × St)
  | 0 => fun _ _ _ _ => none
  | n + 1 => fX9_clearDueOf_2b N (fX9_clearDueOf_2 N  n)
set_option maxHeartbeats 4000000 in
set_option maxRecDepth 100000 in
theorem bX9_clearDueOf_2 (hst : zSt B ids) (F : zFx p m c cX9_clearDueOf 3 s args RX9 D cy B ids A) (hA : ∀ q : Nat, s.heap.size ≤ q → A q) {r : Int32} {z' : St} (E : zEnd p l e rmX9_clearDueOf s m args below meth c cX9_clearDueOf D cy B ids A Q none z' .return_ True) {N : Nat} {K2 : Nat → Int32 → Int32 → St → Option (Int32 × St)} (hK2 : ∀ (x0 : Nat) (x1 : Int32) (x2 : Int32) (hx0 : (9, x0) ∈ ids) {z : St} {H : Heap} {locs : List Loc} {ls : Array Slot} (hr : zRep D cy B ids A s.heap z H locs) (hl : lv_has ls 3 [(0, .ref (B 9 x0)), (1, .int x1), (2, .int x2)]), K2 x0 x1 x2 z = some (r, z') → W p l e rmX9_clearDueOf s m args below meth c H locs 0 0 Q (F0 m 2 ls [])) (x0 : Nat) (x1 : Int32) (x2 : Int32) (hx0 : (9, x0) ∈ ids) {z : St} {H : Heap} {locs : List Loc} {ls : Array Slot} (hr : zRep D cy B ids A s.heap z H locs) (hl : lv_has ls 3 [(0, .ref (B 9 x0)), (1, .int x1), (2, .int x2)]) (h : fX9_clearDueOf_2b N K2 x0 x1 x2 z = some (r, z')) : W p l e rmX9_clearDueOf s m args below meth c H locs 0 0 Q (F0 m 2 ls []) := by
  unfold fX9_clearDueOf_2b at h
  refine lv_iload_n F.1 F.2.1 dX9_clearDueOf_2 rfl (lv_at hl 2 rfl) ?_
  refine lv_aload_n F.1 F.2.1 dX9_clearDueOf_3 rfl (lv_at hl 0 rfl) ?_
  refine gf9_49 F hx0 hr dX9_clearDueOf_4 ?_
  refine lv_icmp_ge (tgt := 28) F.1 F.2.1 dX9_clearDueOf_7 (by decide) (fun c1 => ?_) (fun c1 => ?_)
  · replace h := zi_t c1 h
    obtain ⟨rfl, rfl⟩ := zret h
    exact E _ _ _ _ dX9_clearDueOf_28 trivial hr
  · replace h := zi_f c1 h
    refine lv_aload_n F.1 F.2.1 dX9_clearDueOf_10 rfl (lv_at hl 0 rfl) ?_
    refine lv_aload_n F.1 F.2.1 dX9_clearDueOf_11 rfl (lv_at hl 0 rfl) ?_
    refine gf9_9 F hx0 hr dX9_clearDueOf_12 ?_
    refine lv_iload_n F.1 F.2.1 dX9_clearDueOf_15 rfl (lv_at hl 2 rfl) ?_
    replace h := zk_some h
    obtain ⟨c2, h⟩ := h
    refine zr_iald (k := 131) (by decide) rfl (by decide) F (zal_a F hx0 (j := 0) rfl) hr dX9_clearDueOf_16 c2 ?_
    refine lv_iload_n F.1 F.2.1 dX9_clearDueOf_17 rfl (lv_at hl 1 rfl) ?_
    refine lv_iconst (v := (0 : Int32)) F.1 F.2.1 dX9_clearDueOf_18 (by decide) ?_
    replace h := zc_some h
    obtain ⟨r3, z4, hc5, h⟩ := h
    refine zr_callv (zrun_V (As := [.int (zgA z 131 x0 (Int32.toNatClampNeg x2)), .int x1, .int (0 : Int32)]) (rest := []) zq_1176 zq_1178 zs_X9_setDue zq_1179 zq_10 hdX9_setDue (by decide) (T := TX9) (N := 13) rfl (okX9_setDue l D cy B ids hst N x0 hx0 (zgA z 131 x0 (Int32.toNatClampNeg x2))  x1  (0 : Int32)  hr.2.2 hc5) F hr hx0 hl.1 rfl (by decide) dX9_clearDueOf_19 rfl rfl hroX9_clearDueOf_X9_setDue ⟨Nat.zero_le _, Nat.zero_le _⟩) F hA hr (fun H locs hw6 hr => ?_)
    clear hc5
    obtain ⟨v7, ev7⟩ : ∃ y : Int32, y = (x2 + 1) := ⟨_, rfl⟩
    replace h := zl_sub ev7 h
    refine lv_iinc (v := v7) (lv' := [(2, .int v7), (0, .ref (B 9 x0)), (1, .int x1)]) F.1 F.2.1 dX9_clearDueOf_22 hl (k := 2) rfl (by rw [ev7]; rfl) (by decide) rfl (fun ls hl => ?_)
    refine lv_goto (tgt := 2) F.1 F.2.1 dX9_clearDueOf_25 (by decide) ?_
    exact hK2 x0 x1 v7 hx0 hr (lv_sub hl [1, 2, 0] rfl) h
theorem lX9_clearDueOf_2 (hst : zSt B ids) (F : zFx p m c cX9_clearDueOf 3 s args RX9 D cy B ids A) (hA : ∀ q : Nat, s.heap.size ≤ q → A q) {r : Int32} {z' : St} (E : zEnd p l e rmX9_clearDueOf s m args below meth c cX9_clearDueOf D cy B ids A Q none z' .return_ True) {N : Nat}  : ∀ (n : Nat) (x0 : Nat) (x1 : Int32) (x2 : Int32) (hx0 : (9, x0) ∈ ids) {z : St} {H : Heap} {locs : List Loc} {ls : Array Slot} (hr : zRep D cy B ids A s.heap z H locs) (hl : lv_has ls 3 [(0, .ref (B 9 x0)), (1, .int x1), (2, .int x2)]), fX9_clearDueOf_2 N  n x0 x1 x2 z = some (r, z') → W p l e rmX9_clearDueOf s m args below meth c H locs 0 0 Q (F0 m 2 ls []) := by
  intro n
  induction n with
  | zero => intro x0 x1 x2 hx0 z H locs ls hr hl h; cases h
  | succ n ih => intro x0 x1 x2 hx0 z H locs ls hr hl h; exact bX9_clearDueOf_2 hst F hA E ih x0 x1 x2 hx0 hr hl h
def fX9_clearDueOf (N : Nat)  (x0 : Nat) (x1 : Int32) (z : St) : Option (Int32 × St) := fX9_clearDueOf_2 N N x0 x1 (0 : Int32) z
set_option maxHeartbeats 4000000 in
set_option maxRecDepth 100000 in
theorem bX9_clearDueOf_0 (hst : zSt B ids) (F : zFx p m c cX9_clearDueOf 3 s args RX9 D cy B ids A) (hA : ∀ q : Nat, s.heap.size ≤ q → A q) {r : Int32} {z' : St} (E : zEnd p l e rmX9_clearDueOf s m args below meth c cX9_clearDueOf D cy B ids A Q none z' .return_ True) {N : Nat}  (x0 : Nat) (x1 : Int32) (hx0 : (9, x0) ∈ ids) {z : St} {H : Heap} {locs : List Loc} {ls : Array Slot} (hr : zRep D cy B ids A s.heap z H locs) (hl : lv_has ls 3 [(0, .ref (B 9 x0)), (1, .int x1)]) (h : fX9_clearDueOf N x0 x1 z = some (r, z')) : W p l e rmX9_clearDueOf s m args below meth c H locs 0 0 Q (F0 m 0 ls []) := by
  unfold fX9_clearDueOf at h
  refine lv_iconst (v := (0 : Int32)) F.1 F.2.1 dX9_clearDueOf_0 (by decide) ?_
  refine lv_istore_n (lv' := [(2, .int (0 : Int32)), (0, .ref (B 9 x0)), (1, .int x1)]) F.1 F.2.1 dX9_clearDueOf_1 rfl hl (by decide) rfl (fun ls hl => ?_)
  exact lX9_clearDueOf_2 hst F hA E  _ x0 x1 (0 : Int32) hx0 hr (lv_sub hl [1, 2, 0] rfl) h
end SX9_clearDueOf
set_option maxRecDepth 100000 in
theorem okX9_clearDueOf (l : Launch) (D : va_G) (cy : Nat → ClassId) (B : Nat → Nat → Nat) (ids : List (Nat × Nat)) (hst : zSt B ids) (N : Nat) (x0 : Nat) (hx0 : (9, x0) ∈ ids) (x1 : Int32) {z : St} {r : Int32} {z' : St} (hW : zWf ids z) (h : fX9_clearDueOf N x0 x1 z = some (r, z')) : zM l yX9_clearDueOf (zws yX9_clearDueOf cX9_clearDueOf 3 none) rmX9_clearDueOf D cy B ids [.ref (B 9 x0), .int x1] none True z z' :=
  zM_of hst hW (by decide +kernel) (Nat.le_of_ble_eq_true rfl) (fun p e s m args below meth c A ls F hA hret hlocks hr hl => bX9_clearDueOf_0 hst F hA (zEnd_v F hret hlocks) x0 x1 hx0 hr hl h)
abbrev rmX9_addThanks : Room := { frames := 0, cells := 0, slots := 0, locals := 0 }
theorem hdX9_addThanks : yX9_addThanks.cls ≠ "java/lang/invoke/MethodHandle" ∧ yX9_addThanks.cls ≠ "java/lang/invoke/VarHandle" ∧ (parseMethodDescriptor yX9_addThanks.desc).map (fun d => d.parameters.length) = some 3 := by decide +kernel
section SX9_addThanks
variable {p : Program} {l : Launch} {e : Env} {s : State} {m : MethodId} {args : Array Value} {below : List Frame} {meth : Method} {c : Code} {Q : State → Prop} {D : va_G} {cy : Nat → ClassId} {B : Nat → Nat → Nat} {ids : List (Nat × Nat)} {A : Nat → Prop}
def fX9_addThanks (N : Nat)  (x0 : Nat) (x1 : Int32) (x2 : Int32) (x3 : Int32) (z : St) : Option (Int32 × St) := if (zgI z 9 9 x0) < (64 : Int32) then (zk (zgI z 9 9 x0) 64 <| zl (zsA z 136 x0 (Int32.toNatClampNeg (zgI z 9 9 x0)) x1) fun z3 => zk (zgI z3 9 9 x0) 64 <| zl (zsA z3 137 x0 (Int32.toNatClampNeg (zgI z3 9 9 x0)) x2) fun z5 => zk (zgI z5 9 9 x0) 64 <| zl (zsA z5 138 x0 (Int32.toNatClampNeg (zgI z5 9 9 x0)) x3) fun z7 => zl (zsI z7 9 9 x0 ((zgI z7 9 9 x0) + (1 : Int32))) fun z8 => some ((1 : Int32), z8)) else (some ((0 : Int32), z))
set_option maxHeartbeats 4000000 in
set_option maxRecDepth 100000 in
theorem bX9_addThanks_0 (hst : zSt B ids) (F : zFx p m c cX9_addThanks 4 s args RX9 D cy B ids A) (hA : ∀ q : Nat, s.heap.size ≤ q → A q) {r : Int32} {z' : St} (E : zEnd p l e rmX9_addThanks s m args below meth c cX9_addThanks D cy B ids A Q (some (.int r)) z' .ireturn (r = 0 ∨ r = 1)) {N : Nat}  (x0 : Nat) (x1 : Int32) (x2 : Int32) (x3 : Int32) (hx0 : (9, x0) ∈ ids) {z : St} {H : Heap} {locs : List Loc} {ls : Array Slot} (hr : zRep D cy B ids A s.heap z H locs) (hl : lv_has ls 4 [(0, .ref (B 9 x0)), (1, .int x1), (2, .int x2), (3, .int x3)]) (h : fX9_addThanks N x0 x1 x2 x3 z = some (r, z')) : W p l e rmX9_addThanks s m args below meth c H locs 0 0 Q (F0 m 0 ls []) := by
  unfold fX9_addThanks at h
  refine lv_aload_n F.1 F.2.1 dX9_addThanks_0 rfl (lv_at hl 0 rfl) ?_
  refine gf9_67 F hx0 hr dX9_addThanks_1 ?_
  refine lv_bipush (v := (64 : Int32)) F.1 F.2.1 dX9_addThanks_4 (by decide) ?_
  refine lv_icmp_lt (tgt := 11) F.1 F.2.1 dX9_addThanks_6 (by decide) (fun c1 => ?_) (fun c1 => ?_)
  · replace h := zi_t c1 h
    refine lv_aload_n F.1 F.2.1 dX9_addThanks_11 rfl (lv_at hl 0 rfl) ?_
    refine gf9_27 F hx0 hr dX9_addThanks_12 ?_
    refine lv_aload_n F.1 F.2.1 dX9_addThanks_15 rfl (lv_at hl 0 rfl) ?_
    refine gf9_67 F hx0 hr dX9_addThanks_16 ?_
    refine lv_iload_n F.1 F.2.1 dX9_addThanks_19 rfl (lv_at hl 1 rfl) ?_
    replace h := zk_some h
    obtain ⟨c2, h⟩ := h
    refine zr_iast (k := 136) (by decide) rfl (by decide) F (zal_a F hx0 (j := 6) rfl) hr dX9_addThanks_20 c2 (fun H locs z3 ez3 hr => ?_)
    replace h := zl_sub ez3 h
    clear ez3
    refine lv_aload_n F.1 F.2.1 dX9_addThanks_21 rfl (lv_at hl 0 rfl) ?_
    refine gf9_30 F hx0 hr dX9_addThanks_22 ?_
    refine lv_aload_n F.1 F.2.1 dX9_addThanks_25 rfl (lv_at hl 0 rfl) ?_
    refine gf9_67 F hx0 hr dX9_addThanks_26 ?_
    refine lv_iload_n F.1 F.2.1 dX9_addThanks_29 rfl (lv_at hl 2 rfl) ?_
    replace h := zk_some h
    obtain ⟨c4, h⟩ := h
    refine zr_iast (k := 137) (by decide) rfl (by decide) F (zal_a F hx0 (j := 7) rfl) hr dX9_addThanks_30 c4 (fun H locs z5 ez5 hr => ?_)
    replace h := zl_sub ez5 h
    clear ez5
    refine lv_aload_n F.1 F.2.1 dX9_addThanks_31 rfl (lv_at hl 0 rfl) ?_
    refine gf9_33 F hx0 hr dX9_addThanks_32 ?_
    refine lv_aload_n F.1 F.2.1 dX9_addThanks_35 rfl (lv_at hl 0 rfl) ?_
    refine gf9_67 F hx0 hr dX9_addThanks_36 ?_
    refine lv_iload_n F.1 F.2.1 dX9_addThanks_39 rfl (lv_at hl 3 rfl) ?_
    replace h := zk_some h
    obtain ⟨c6, h⟩ := h
    refine zr_iast (k := 138) (by decide) rfl (by decide) F (zal_a F hx0 (j := 8) rfl) hr dX9_addThanks_40 c6 (fun H locs z7 ez7 hr => ?_)
    replace h := zl_sub ez7 h
    clear ez7
    refine lv_aload_n F.1 F.2.1 dX9_addThanks_41 rfl (lv_at hl 0 rfl) ?_
    refine lv_dup F.1 F.2.1 dX9_addThanks_42 rfl ?_
    refine gf9_67 F hx0 hr dX9_addThanks_43 ?_
    refine lv_iconst (v := (1 : Int32)) F.1 F.2.1 dX9_addThanks_46 (by decide) ?_
    refine lv_iadd F.1 F.2.1 dX9_addThanks_47 ?_
    refine pf9_67 F hx0 hr dX9_addThanks_48 ((zgI z7 9 9 x0) + (1 : Int32)) (fun H locs z8 ez8 hr => ?_)
    replace h := zl_sub ez8 h
    clear ez8
    refine lv_iconst (v := (1 : Int32)) F.1 F.2.1 dX9_addThanks_51 (by decide) ?_
    obtain ⟨rfl, rfl⟩ := zret h
    exact E _ _ _ _ dX9_addThanks_52 (by decide) hr
  · replace h := zi_f c1 h
    refine lv_iconst (v := (0 : Int32)) F.1 F.2.1 dX9_addThanks_9 (by decide) ?_
    obtain ⟨rfl, rfl⟩ := zret h
    exact E _ _ _ _ dX9_addThanks_10 (by decide) hr
end SX9_addThanks
set_option maxRecDepth 100000 in
theorem okX9_addThanks (l : Launch) (D : va_G) (cy : Nat → ClassId) (B : Nat → Nat → Nat) (ids : List (Nat × Nat)) (hst : zSt B ids) (N : Nat) (x0 : Nat) (hx0 : (9, x0) ∈ ids) (x1 : Int32) (x2 : Int32) (x3 : Int32) {z : St} {r : Int32} {z' : St} (hW : zWf ids z) (h : fX9_addThanks N x0 x1 x2 x3 z = some (r, z')) : zM l yX9_addThanks (zws yX9_addThanks cX9_addThanks 4 (some .boolean)) rmX9_addThanks D cy B ids [.ref (B 9 x0), .int x1, .int x2, .int x3] (some (.int r)) (r = 0 ∨ r = 1) z z' :=
  zM_of hst hW (by decide +kernel) (Nat.le_of_ble_eq_true rfl) (fun p e s m args below meth c A ls F hA hret hlocks hr hl => bX9_addThanks_0 hst F hA (zEnd_z F hret hlocks) x0 x1 x2 x3 hx0 hr hl h)
abbrev rmX9_draftFriends : Room := { frames := 1, cells := 0, slots := 0, locals := 23 }
theorem hdX9_draftFriends : yX9_draftFriends.cls ≠ "java/lang/invoke/MethodHandle" ∧ yX9_draftFriends.cls ≠ "java/lang/invoke/VarHandle" ∧ (parseMethodDescriptor yX9_draftFriends.desc).map (fun d => d.parameters.length) = some 1 := by decide +kernel
theorem hroX9_draftFriends_X0_addToDraft : rmX0_addToDraft.frames + 1 ≤ rmX9_draftFriends.frames ∧ 8 + (4 + 11) + rmX0_addToDraft.locals ≤ rmX9_draftFriends.locals := by decide
section SX9_draftFriends
variable {p : Program} {l : Launch} {e : Env} {s : State} {m : MethodId} {args : Array Value} {below : List Frame} {meth : Method} {c : Code} {Q : State → Prop} {D : va_G} {cy : Nat → ClassId} {B : Nat → Nat → Nat} {ids : List (Nat × Nat)} {A : Nat → Prop}
def fX9_draftFriends_64 (N : Nat) (K2 : Nat → Nat → Int32 → St → Option (Int32 × St)) (x0 : Nat) (x1 : Nat) (x2 : Int32) (z : St) : Option (Int32 × St) := zl (x2 + 1) fun v1 => K2 x0 x1 v1 z
set_option maxHeartbeats 4000000 in
set_option maxRecDepth 100000 in
theorem bX9_draftFriends_64 (hst : zSt B ids) (F : zFx p m c cX9_draftFriends 4 s args RX9 D cy B ids A) (hA : ∀ q : Nat, s.heap.size ≤ q → A q) {r : Int32} {z' : St} (E : zEnd p l e rmX9_draftFriends s m args below meth c cX9_draftFriends D cy B ids A Q none z' .return_ True) {N : Nat} {K2 : Nat → Nat → Int32 → St → Option (Int32 × St)} (hK2 : ∀ (x0 : Nat) (x1 : Nat) (x2 : Int32) (hx0 : (9, x0) ∈ ids) (hx1 : (8, x1) ∈ ids) {z : St} {H : Heap} {locs : List Loc} {ls : Array Slot} (hr : zRep D cy B ids A s.heap z H locs) (hl : lv_has ls 4 [(0, .ref (B 9 x0)), (1, .ref (B 8 x1)), (2, .int x2)]), K2 x0 x1 x2 z = some (r, z') → W p l e rmX9_draftFriends s m args below meth c H locs 0 0 Q (F0 m 2 ls [])) (x0 : Nat) (x1 : Nat) (x2 : Int32) (hx0 : (9, x0) ∈ ids) (hx1 : (8, x1) ∈ ids) {z : St} {H : Heap} {locs : List Loc} {ls : Array Slot} (hr : zRep D cy B ids A s.heap z H locs) (hl : lv_has ls 4 [(0, .ref (B 9 x0)), (1, .ref (B 8 x1)), (2, .int x2)]) (h : fX9_draftFriends_64 N K2 x0 x1 x2 z = some (r, z')) : W p l e rmX9_draftFriends s m args below meth c H locs 0 0 Q (F0 m 64 ls []) := by
  unfold fX9_draftFriends_64 at h
  obtain ⟨v1, ev1⟩ : ∃ y : Int32, y = (x2 + 1) := ⟨_, rfl⟩
  replace h := zl_sub ev1 h
  refine lv_iinc (v := v1) (lv' := [(2, .int v1), (0, .ref (B 9 x0)), (1, .ref (B 8 x1))]) F.1 F.2.1 dX9_draftFriends_64 hl (k := 2) rfl (by rw [ev1]; rfl) (by decide) rfl (fun ls hl => ?_)
  refine lv_goto (tgt := 2) F.1 F.2.1 dX9_draftFriends_67 (by decide) ?_
  exact hK2 x0 x1 v1 hx0 hx1 hr (lv_sub hl [1, 2, 0] rfl) h
def fX9_draftFriends_2b (N : Nat) (K2 : Nat → Nat → Int32 → St → Option (Int32 × St)) (x0 : Nat) (x1 : Nat) (x2 : Int32) (z : St) : Option (Int32 × St) := if (zgI z 9 1 x0) ≤ x2 then (some (0, z)) else (zk x2 16 <| zl (zgA z 131 x0 (Int32.toNatClampNeg x2)) fun v3 => if ¬ (v3 / (16 : Int32)) = (zgI z 8 2 x1) then (fX9_draftFriends_64 N K2 x0 x1 x2 z) else (zk v3 96 <| if ¬ (zgA z 133 x0 (Int32.toNatClampNeg v3)) = 0 then (zl (zgR z 9 12 x0) fun y7 => zl (zgR z 8 1 x1) fun y8 => zd y8 fun a9 => zd y7 fun a10 => zc (fX0_addToDraft N a10 ((v3 - v3 / (16 : Int32) * (16 : Int32)) + (1 : Int32)) (zgI z 5 0 a9) (zgI z 8 5 x1) z) fun _ z12 => fX9_draftFriends_64 N K2 x0 x1 x2 z12) else (fX9_draftFriends_64 N K2 x0 x1 x2 z)))
def fX9_draftFriends_2 (N : Nat)  : Nat → Nat → Nat → Int32 → St → Option (Int32 × St)
  | 0 => fun _ _ _ _ => none
  | n + 1 => fX9_draftFriends_2b N (fX9_draftFriends_2 N  n)
set_option maxHeartbeats 4000000 in
set_option maxRecDepth 100000 in
theorem bX9_draftFriends_2 (hst : zSt B ids) (F : zFx p m c cX9_draftFriends 4 s args RX9 D cy B ids A) (hA : ∀ q : Nat, s.heap.size ≤ q → A q) {r : Int32} {z' : St} (E : zEnd p l e rmX9_draftFriends s m args below meth c cX9_draftFriends D cy B ids A Q none z' .return_ True) {N : Nat} {K2 : Nat → Nat → Int32 → St → Option (Int32 × St)} (hK2 : ∀ (x0 : Nat) (x1 : Nat) (x2 : Int32) (hx0 : (9, x0) ∈ ids) (hx1 : (8, x1) ∈ ids) {z : St} {H : Heap} {locs : List Loc} {ls : Array Slot} (hr : zRep D cy B ids A s.heap z H locs) (hl : lv_has ls 4 [(0, .ref (B 9 x0)), (1, .ref (B 8 x1)), (2, .int x2)]), K2 x0 x1 x2 z = some (r, z') → W p l e rmX9_draftFriends s m args below meth c H locs 0 0 Q (F0 m 2 ls [])) (x0 : Nat) (x1 : Nat) (x2 : Int32) (hx0 : (9, x0) ∈ ids) (hx1 : (8, x1) ∈ ids) {z : St} {H : Heap} {locs : List Loc} {ls : Array Slot} (hr : zRep D cy B ids A s.heap z H locs) (hl : lv_has ls 4 [(0, .ref (B 9 x0)), (1, .ref (B 8 x1)), (2, .int x2)]) (h : fX9_draftFriends_2b N K2 x0 x1 x2 z = some (r, z')) : W p l e rmX9_draftFriends s m args below meth c H locs 0 0 Q (F0 m 2 ls []) := by
  unfold fX9_draftFriends_2b at h
  refine lv_iload_n F.1 F.2.1 dX9_draftFriends_2 rfl (lv_at hl 2 rfl) ?_
  refine lv_aload_n F.1 F.2.1 dX9_draftFriends_3 rfl (lv_at hl 0 rfl) ?_
  refine gf9_49 F hx0 hr dX9_draftFriends_4 ?_
  refine lv_icmp_ge (tgt := 70) F.1 F.2.1 dX9_draftFriends_7 (by decide) (fun c1 => ?_) (fun c1 => ?_)
  · replace h := zi_t c1 h
    obtain ⟨rfl, rfl⟩ := zret h
    exact E _ _ _ _ dX9_draftFriends_70 trivial hr
  · replace h := zi_f c1 h
    refine lv_aload_n F.1 F.2.1 dX9_draftFriends_10 rfl (lv_at hl 0 rfl) ?_
    refine gf9_9 F hx0 hr dX9_draftFriends_11 ?_
    refine lv_iload_n F.1 F.2.1 dX9_draftFriends_14 rfl (lv_at hl 2 rfl) ?_
    replace h := zk_some h
    obtain ⟨c2, h⟩ := h
    refine zr_iald (k := 131) (by decide) rfl (by decide) F (zal_a F hx0 (j := 0) rfl) hr dX9_draftFriends_15 c2 ?_
    refine lv_topi (fun v3 ev3 => ?_)
    replace h := zl_sub ev3 h
    refine lv_istore_n (lv' := [(3, .int v3), (0, .ref (B 9 x0)), (1, .ref (B 8 x1)), (2, .int x2)]) F.1 F.2.1 dX9_draftFriends_16 rfl hl (by decide) rfl (fun ls hl => ?_)
    refine lv_iload_n F.1 F.2.1 dX9_draftFriends_17 rfl (lv_at hl 0 rfl) ?_
    refine lv_bipush (v := (16 : Int32)) F.1 F.2.1 dX9_draftFriends_18 (by decide) ?_
    refine lv_idiv F.1 F.2.1 dX9_draftFriends_20 (by decide) ?_
    refine lv_aload_n F.1 F.2.1 dX9_draftFriends_21 rfl (lv_at hl 2 rfl) ?_
    refine gf9_100 F hx1 hr dX9_draftFriends_22 ?_
    refine lv_icmp_ne (tgt := 64) F.1 F.2.1 dX9_draftFriends_25 (by decide) (fun c4 => ?_) (fun c4 => ?_)
    · replace h := zi_t c4 h
      exact bX9_draftFriends_64 hst F hA E hK2 x0 x1 x2 hx0 hx1 hr (lv_sub hl [1, 2, 3] rfl) h
    · replace h := zi_f (fun q => q c4) h
      refine lv_aload_n F.1 F.2.1 dX9_draftFriends_28 rfl (lv_at hl 1 rfl) ?_
      refine gf9_18 F hx0 hr dX9_draftFriends_29 ?_
      refine lv_iload_n F.1 F.2.1 dX9_draftFriends_32 rfl (lv_at hl 0 rfl) ?_
      replace h := zk_some h
      obtain ⟨c5, h⟩ := h
      refine zr_zald (k := 133) (by decide) rfl (by decide) F (zal_a F hx0 (j := 3) rfl) hr dX9_draftFriends_33 c5 ?_
      refine lv_if_ne (tgt := 40) F.1 F.2.1 dX9_draftFriends_34 (by decide) (fun c6 => ?_) (fun c6 => ?_)
      · replace h := zi_t c6 h
        refine lv_aload_n F.1 F.2.1 dX9_draftFriends_40 rfl (lv_at hl 1 rfl) ?_
        refine gf9_45 F hx0 hr dX9_draftFriends_41 (fun y7 ey7 => ?_)
        replace h := zl_sub ey7 h
        have hy7 := zal_g hr hx0 (j := 12) rfl ey7
        clear ey7
        refine lv_iload_n F.1 F.2.1 dX9_draftFriends_44 rfl (lv_at hl 0 rfl) ?_
        refine lv_bipush (v := (16 : Int32)) F.1 F.2.1 dX9_draftFriends_45 (by decide) ?_
        refine lv_irem F.1 F.2.1 dX9_draftFriends_47 (by decide) ?_
        refine lv_iconst (v := (1 : Int32)) F.1 F.2.1 dX9_draftFriends_48 (by decide) ?_
        refine lv_iadd F.1 F.2.1 dX9_draftFriends_49 ?_
        refine lv_aload_n F.1 F.2.1 dX9_draftFriends_50 rfl (lv_at hl 2 rfl) ?_
        refine gf9_79 F hx1 hr dX9_draftFriends_51 (fun y8 ey8 => ?_)
        replace h := zl_sub ey8 h
        have hy8 := zal_g hr hx1 (j := 1) rfl ey8
        clear ey8
        replace h := zd_some h
        obtain ⟨a9, rfl, h⟩ := h
        refine gf9_103 F (hy8 _ rfl) hr dX9_draftFriends_54 ?_
        refine lv_aload_n F.1 F.2.1 dX9_draftFriends_57 rfl (lv_at hl 2 rfl) ?_
        refine gf9_90 F hx1 hr dX9_draftFriends_58 ?_
        replace h := zd_some h
        obtain ⟨a10, rfl, h⟩ := h
        replace h := zc_some h
        obtain ⟨r11, z12, hc13, h⟩ := h
        refine zr_callv (zrun_VN (As := [.int ((v3 - v3 / (16 : Int32) * (16 : Int32)) + (1 : Int32)), .int (zgI z 5 0 a9), .int (zgI z 8 5 x1)]) (rest := []) zn_1511 zq_1197 zs_X0_addToDraft zq_1198 zq_11 hdX0_addToDraft (by decide) (T := TX0) (N := 16) rfl (okX0_addToDraft l D cy B ids hst N a10 (hy7 _ rfl) ((v3 - v3 / (16 : Int32) * (16 : Int32)) + (1 : Int32))  (zgI z 5 0 a9)  (zgI z 8 5 x1)  hr.2.2 hc13) F hr (hy7 _ rfl) hl.1 rfl (by decide) dX9_draftFriends_61 rfl rfl hroX9_draftFriends_X0_addToDraft ⟨Nat.zero_le _, Nat.zero_le _⟩) F hA hr (fun H locs hw14 hr => ?_)
        clear hc13
        exact bX9_draftFriends_64 hst F hA E hK2 x0 x1 x2 hx0 hx1 hr (lv_sub hl [1, 2, 3] rfl) h
      · replace h := zi_f (fun q => q c6) h
        refine lv_goto (tgt := 64) F.1 F.2.1 dX9_draftFriends_37 (by decide) ?_
        exact bX9_draftFriends_64 hst F hA E hK2 x0 x1 x2 hx0 hx1 hr (lv_sub hl [1, 2, 3] rfl) h
theorem lX9_draftFriends_2 (hst : zSt B ids) (F : zFx p m c cX9_draftFriends 4 s args RX9 D cy B ids A) (hA : ∀ q : Nat, s.heap.size ≤ q → A q) {r : Int32} {z' : St} (E : zEnd p l e rmX9_draftFriends s m args below meth c cX9_draftFriends D cy B ids A Q none z' .return_ True) {N : Nat}  : ∀ (n : Nat) (x0 : Nat) (x1 : Nat) (x2 : Int32) (hx0 : (9, x0) ∈ ids) (hx1 : (8, x1) ∈ ids) {z : St} {H : Heap} {locs : List Loc} {ls : Array Slot} (hr : zRep D cy B ids A s.heap z H locs) (hl : lv_has ls 4 [(0, .ref (B 9 x0)), (1, .ref (B 8 x1)), (2, .int x2)]), fX9_draftFriends_2 N  n x0 x1 x2 z = some (r, z') → W p l e rmX9_draftFriends s m args below meth c H locs 0 0 Q (F0 m 2 ls []) := by
  intro n
  induction n with
  | zero => intro x0 x1 x2 hx0 hx1 z H locs ls hr hl h; cases h
  | succ n ih => intro x0 x1 x2 hx0 hx1 z H locs ls hr hl h; exact bX9_draftFriends_2 hst F hA E ih x0 x1 x2 hx0 hx1 hr hl h
def fX9_draftFriends (N : Nat)  (x0 : Nat) (x1 : Nat) (z : St) : Option (Int32 × St) := fX9_draftFriends_2 N N x0 x1 (0 : Int32) z
set_option maxHeartbeats 4000000 in
set_option maxRecDepth 100000 in
theorem bX9_draftFriends_0 (hst : zSt B ids) (F : zFx p m c cX9_draftFriends 4 s args RX9 D cy B ids A) (hA : ∀ q : Nat, s.heap.size ≤ q → A q) {r : Int32} {z' : St} (E : zEnd p l e rmX9_draftFriends s m args below meth c cX9_draftFriends D cy B ids A Q none z' .return_ True) {N : Nat}  (x0 : Nat) (x1 : Nat) (hx0 : (9, x0) ∈ ids) (hx1 : (8, x1) ∈ ids) {z : St} {H : Heap} {locs : List Loc} {ls : Array Slot} (hr : zRep D cy B ids A s.heap z H locs) (hl : lv_has ls 4 [(0, .ref (B 9 x0)), (1, .ref (B 8 x1))]) (h : fX9_draftFriends N x0 x1 z = some (r, z')) : W p l e rmX9_draftFriends s m args below meth c H locs 0 0 Q (F0 m 0 ls []) := by
  unfold fX9_draftFriends at h
  refine lv_iconst (v := (0 : Int32)) F.1 F.2.1 dX9_draftFriends_0 (by decide) ?_
  refine lv_istore_n (lv' := [(2, .int (0 : Int32)), (0, .ref (B 9 x0)), (1, .ref (B 8 x1))]) F.1 F.2.1 dX9_draftFriends_1 rfl hl (by decide) rfl (fun ls hl => ?_)
  exact lX9_draftFriends_2 hst F hA E  _ x0 x1 (0 : Int32) hx0 hx1 hr (lv_sub hl [1, 2, 0] rfl) h
end SX9_draftFriends
set_option maxRecDepth 100000 in
theorem okX9_draftFriends (l : Launch) (D : va_G) (cy : Nat → ClassId) (B : Nat → Nat → Nat) (ids : List (Nat × Nat)) (hst : zSt B ids) (N : Nat) (x0 : Nat) (hx0 : (9, x0) ∈ ids) (x1 : Nat) (hx1 : (8, x1) ∈ ids) {z : St} {r : Int32} {z' : St} (hW : zWf ids z) (h : fX9_draftFriends N x0 x1 z = some (r, z')) : zM l yX9_draftFriends (zws yX9_draftFriends cX9_draftFriends 4 none) rmX9_draftFriends D cy B ids [.ref (B 9 x0), .ref (B 8 x1)] none True z z' :=
  zM_of hst hW (by decide +kernel) (Nat.le_of_ble_eq_true rfl) (fun p e s m args below meth c A ls F hA hret hlocks hr hl => bX9_draftFriends_0 hst F hA (zEnd_v F hret hlocks) x0 x1 hx0 hx1 hr hl h)
