abbrev rmX1_unusedDoor : Room := { frames := 0, cells := 0, slots := 0, locals := 0 }
theorem hdX1_unusedDoor : yX1_unusedDoor.cls ≠ "java/lang/invoke/MethodHandle" ∧ yX1_unusedDoor.cls ≠ "java/lang/invoke/VarHandle" ∧ (parseMethodDescriptor yX1_unusedDoor.desc).map (fun d => d.parameters.length) = some 0 := by decide +kernel
section SX1_unusedDoor
variable {p : Program} {l : Launch} {e : Env} {s : State} {m : MethodId} {args : Array Value} {below : List Frame} {meth : Method} {c : Code} {Q : State → Prop} {D : va_G} {cy : Nat → ClassId} {B : Nat → Nat → Nat} {ids : List (Nat × Nat)} {A : Nat → Prop}
def fX1_unusedDoor_2b (N : Nat) (K2 : Nat → Int32 → St → Option (Int32 × St)) (x0 : Nat) (x1 : Int32) (z : St) : Option (Int32 × St) := if (Int32.ofNat (zlen z 119 x0)) ≤ x1 then (some ((-1 : Int32), z)) else (zk x1 (zlen z 119 x0) <| zl (zgQ z 119 x0 (Int32.toNatClampNeg x1)) fun y3 => zd y3 fun a4 => if ¬ (zgI z 2 0 a4) = 0 then (zl (x1 + 1) fun v6 => K2 x0 v6 z) else (some (x1, z)))
def fX1_unusedDoor_2 (N : Nat)  : Nat → Nat → Int32 → St → Option (Int32 × St)
  | 0 => fun _ _ _ => none
  | n + 1 => fX1_unusedDoor_2b N (fX1_unusedDoor_2 N  n)
set_option maxHeartbeats 4000000 in
set_option maxRecDepth 100000 in
theorem bX1_unusedDoor_2 (hst : zSt B ids) (F : zFx p m c cX1_unusedDoor 2 s args RX1 D cy B ids A) (hA : ∀ q : Nat, s.heap.size ≤ q → A q) {r : Int32} {z' : St} (E : zEnd p l e rmX1_unusedDoor s m args below meth c cX1_unusedDoor D cy B ids A Q (some (.int r)) z' .ireturn True) {N : Nat} {K2 : Nat → Int32 → St → Option (Int32 × St)} (hK2 : ∀ (x0 : Nat) (x1 : Int32) (hx0 : (1, x0) ∈ ids) {z : St} {H : Heap} {locs : List Loc} {ls : Array Slot} (hr : zRep D cy B ids A s.heap z H locs) (hl : lv_has ls 2 [(0, .ref (B 1 x0)), (1, .int x1)]), K2 x0 x1 z = some (r, z') → W p l e rmX1_unusedDoor s m args below meth c H locs 0 0 Q (F0 m 2 ls [])) (x0 : Nat) (x1 : Int32) (hx0 : (1, x0) ∈ ids) {z : St} {H : Heap} {locs : List Loc} {ls : Array Slot} (hr : zRep D cy B ids A s.heap z H locs) (hl : lv_has ls 2 [(0, .ref (B 1 x0)), (1, .int x1)]) (h : fX1_unusedDoor_2b N K2 x0 x1 z = some (r, z')) : W p l e rmX1_unusedDoor s m args below meth c H locs 0 0 Q (F0 m 2 ls []) := by
  unfold fX1_unusedDoor_2b at h
  refine lv_iload_n F.1 F.2.1 dX1_unusedDoor_2 rfl (lv_at hl 1 rfl) ?_
  refine lv_aload_n F.1 F.2.1 dX1_unusedDoor_3 rfl (lv_at hl 0 rfl) ?_
  refine gf1_58 F hx0 hr dX1_unusedDoor_4 ?_
  refine zr_alen (k := 119) (v := (Int32.ofNat (zlen z 119 x0))) (by decide) rfl rfl (ti := 8) rfl rfl F (zal_a F hx0 (j := 11) rfl) hr dX1_unusedDoor_7 ?_
  refine lv_icmp_ge (tgt := 31) F.1 F.2.1 dX1_unusedDoor_8 (by decide) (fun c1 => ?_) (fun c1 => ?_)
  · replace h := zi_t c1 h
    refine lv_iconst (v := (-1 : Int32)) F.1 F.2.1 dX1_unusedDoor_31 (by decide) ?_
    obtain ⟨rfl, rfl⟩ := zret h
    exact E _ _ _ _ dX1_unusedDoor_32 trivial hr
  · replace h := zi_f c1 h
    refine lv_aload_n F.1 F.2.1 dX1_unusedDoor_11 rfl (lv_at hl 0 rfl) ?_
    refine gf1_58 F hx0 hr dX1_unusedDoor_12 ?_
    refine lv_iload_n F.1 F.2.1 dX1_unusedDoor_15 rfl (lv_at hl 1 rfl) ?_
    replace h := zk_some h
    obtain ⟨c2, h⟩ := h
    refine zr_aaldv (k := 119) (by decide) rfl rfl rfl F (zal_a F hx0 (j := 11) rfl) hr dX1_unusedDoor_16 c2 (fun y3 ey3 => ?_)
    replace h := zl_sub ey3 h
    have hy3 := zal_q hr (zal_a F hx0 (j := 11) rfl) rfl ey3
    clear ey3
    replace h := zd_some h
    obtain ⟨a4, rfl, h⟩ := h
    refine gf1_130 F (hy3 _ rfl) hr dX1_unusedDoor_17 ?_
    refine lv_if_ne (tgt := 25) F.1 F.2.1 dX1_unusedDoor_20 (by decide) (fun c5 => ?_) (fun c5 => ?_)
    · replace h := zi_t c5 h
      obtain ⟨v6, ev6⟩ : ∃ y : Int32, y = (x1 + 1) := ⟨_, rfl⟩
      replace h := zl_sub ev6 h
      refine lv_iinc (v := v6) (lv' := [(1, .int v6), (0, .ref (B 1 x0))]) F.1 F.2.1 dX1_unusedDoor_25 hl (k := 1) rfl (by rw [ev6]; rfl) (by decide) rfl (fun ls hl => ?_)
      refine lv_goto (tgt := 2) F.1 F.2.1 dX1_unusedDoor_28 (by decide) ?_
      exact hK2 x0 v6 hx0 hr (lv_sub hl [1, 0] rfl) h
    · replace h := zi_f (fun q => q c5) h
      refine lv_iload_n F.1 F.2.1 dX1_unusedDoor_23 rfl (lv_at hl 1 rfl) ?_
      obtain ⟨rfl, rfl⟩ := zret h
      exact E _ _ _ _ dX1_unusedDoor_24 trivial hr
theorem lX1_unusedDoor_2 (hst : zSt B ids) (F : zFx p m c cX1_unusedDoor 2 s args RX1 D cy B ids A) (hA : ∀ q : Nat, s.heap.size ≤ q → A q) {r : Int32} {z' : St} (E : zEnd p l e rmX1_unusedDoor s m args below meth c cX1_unusedDoor D cy B ids A Q (some (.int r)) z' .ireturn True) {N : Nat}  : ∀ (n : Nat) (x0 : Nat) (x1 : Int32) (hx0 : (1, x0) ∈ ids) {z : St} {H : Heap} {locs : List Loc} {ls : Array Slot} (hr : zRep D cy B ids A s.heap z H locs) (hl : lv_has ls 2 [(0, .ref (B 1 x0)), (1, .int x1)]), fX1_unusedDoor_2 N  n x0 x1 z = some (r, z') → W p l e rmX1_unusedDoor s m args below meth c H locs 0 0 Q (F0 m 2 ls []) := by
  intro n
  induction n with
  | zero => intro x0 x1 hx0 z H locs ls hr hl h; cases h
  | succ n ih => intro x0 x1 hx0 z H locs ls hr hl h; exact bX1_unusedDoor_2 hst F hA E ih x0 x1 hx0 hr hl h
def fX1_unusedDoor (N : Nat)  (x0 : Nat) (z : St) : Option (Int32 × St) := fX1_unusedDoor_2 N N x0 (0 : Int32) z
set_option maxHeartbeats 4000000 in
set_option maxRecDepth 100000 in
theorem bX1_unusedDoor_0 (hst : zSt B ids) (F : zFx p m c cX1_unusedDoor 2 s args RX1 D cy B ids A) (hA : ∀ q : Nat, s.heap.size ≤ q → A q) {r : Int32} {z' : St} (E : zEnd p l e rmX1_unusedDoor s m args below meth c cX1_unusedDoor D cy B ids A Q (some (.int r)) z' .ireturn True) {N : Nat}  (x0 : Nat) (hx0 : (1, x0) ∈ ids) {z : St} {H : Heap} {locs : List Loc} {ls : Array Slot} (hr : zRep D cy B ids A s.heap z H locs) (hl : lv_has ls 2 [(0, .ref (B 1 x0))]) (h : fX1_unusedDoor N x0 z = some (r, z')) : W p l e rmX1_unusedDoor s m args below meth c H locs 0 0 Q (F0 m 0 ls []) := by
  unfold fX1_unusedDoor at h
  refine lv_iconst (v := (0 : Int32)) F.1 F.2.1 dX1_unusedDoor_0 (by decide) ?_
  refine lv_istore_n (lv' := [(1, .int (0 : Int32)), (0, .ref (B 1 x0))]) F.1 F.2.1 dX1_unusedDoor_1 rfl hl (by decide) rfl (fun ls hl => ?_)
  exact lX1_unusedDoor_2 hst F hA E  _ x0 (0 : Int32) hx0 hr (lv_sub hl [1, 0] rfl) h
end SX1_unusedDoor
set_option maxRecDepth 100000 in
theorem okX1_unusedDoor (l : Launch) (D : va_G) (cy : Nat → ClassId) (B : Nat → Nat → Nat) (ids : List (Nat × Nat)) (hst : zSt B ids) (N : Nat) (x0 : Nat) (hx0 : (1, x0) ∈ ids) {z : St} {r : Int32} {z' : St} (hW : zWf ids z) (h : fX1_unusedDoor N x0 z = some (r, z')) : zM l yX1_unusedDoor (zws yX1_unusedDoor cX1_unusedDoor 2 (some .int)) rmX1_unusedDoor D cy B ids [.ref (B 1 x0)] (some (.int r)) True z z' :=
  zM_of hst hW (by decide +kernel) (Nat.le_of_ble_eq_true rfl) (fun p e s m args below meth c A ls F hA hret hlocks hr hl => bX1_unusedDoor_0 hst F hA (zEnd_i F hret hlocks) x0 hx0 hr hl h)
abbrev rmX1_listenerAt : Room := { frames := 0, cells := 0, slots := 0, locals := 0 }
theorem hdX1_listenerAt : yX1_listenerAt.cls ≠ "java/lang/invoke/MethodHandle" ∧ yX1_listenerAt.cls ≠ "java/lang/invoke/VarHandle" ∧ (parseMethodDescriptor yX1_listenerAt.desc).map (fun d => d.parameters.length) = some 1 := by decide +kernel
section SX1_listenerAt
variable {p : Program} {l : Launch} {e : Env} {s : State} {m : MethodId} {args : Array Value} {below : List Frame} {meth : Method} {c : Code} {Q : State → Prop} {D : va_G} {cy : Nat → ClassId} {B : Nat → Nat → Nat} {ids : List (Nat × Nat)} {A : Nat → Prop}
def fX1_listenerAt_39 (N : Nat) (K2 : Nat → Int32 → Int32 → St → Option (Int32 × St)) (x0 : Nat) (x1 : Int32) (x2 : Int32) (z : St) : Option (Int32 × St) := zl (x2 + 1) fun v1 => K2 x0 x1 v1 z
set_option maxHeartbeats 4000000 in
set_option maxRecDepth 100000 in
theorem bX1_listenerAt_39 (hst : zSt B ids) (F : zFx p m c cX1_listenerAt 3 s args RX1 D cy B ids A) (hA : ∀ q : Nat, s.heap.size ≤ q → A q) {r : Int32} {z' : St} (E : zEnd p l e rmX1_listenerAt s m args below meth c cX1_listenerAt D cy B ids A Q (some (.int r)) z' .ireturn True) {N : Nat} {K2 : Nat → Int32 → Int32 → St → Option (Int32 × St)} (hK2 : ∀ (x0 : Nat) (x1 : Int32) (x2 : Int32) (hx0 : (1, x0) ∈ ids) {z : St} {H : Heap} {locs : List Loc} {ls : Array Slot} (hr : zRep D cy B ids A s.heap z H locs) (hl : lv_has ls 3 [(0, .ref (B 1 x0)), (1, .int x1), (2, .int x2)]), K2 x0 x1 x2 z = some (r, z') → W p l e rmX1_listenerAt s m args below meth c H locs 0 0 Q (F0 m 2 ls [])) (x0 : Nat) (x1 : Int32) (x2 : Int32) (hx0 : (1, x0) ∈ ids) {z : St} {H : Heap} {locs : List Loc} {ls : Array Slot} (hr : zRep D cy B ids A s.heap z H locs) (hl : lv_has ls 3 [(0, .ref (B 1 x0)), (1, .int x1), (2, .int x2)]) (h : fX1_listenerAt_39 N K2 x0 x1 x2 z = some (r, z')) : W p l e rmX1_listenerAt s m args below meth c H locs 0 0 Q (F0 m 39 ls []) := by
  unfold fX1_listenerAt_39 at h
  obtain ⟨v1, ev1⟩ : ∃ y : Int32, y = (x2 + 1) := ⟨_, rfl⟩
  replace h := zl_sub ev1 h
  refine lv_iinc (v := v1) (lv' := [(2, .int v1), (0, .ref (B 1 x0)), (1, .int x1)]) F.1 F.2.1 dX1_listenerAt_39 hl (k := 2) rfl (by rw [ev1]; rfl) (by decide) rfl (fun ls hl => ?_)
  refine lv_goto (tgt := 2) F.1 F.2.1 dX1_listenerAt_42 (by decide) ?_
  exact hK2 x0 x1 v1 hx0 hr (lv_sub hl [1, 2, 0] rfl) h
def fX1_listenerAt_2b (N : Nat) (K2 : Nat → Int32 → Int32 → St → Option (Int32 × St)) (x0 : Nat) (x1 : Int32) (x2 : Int32) (z : St) : Option (Int32 × St) := if (Int32.ofNat (zlen z 119 x0)) ≤ x2 then (some ((-1 : Int32), z)) else (zk x2 (zlen z 119 x0) <| zl (zgQ z 119 x0 (Int32.toNatClampNeg x2)) fun y3 => zd y3 fun a4 => if ¬ (zgI z 2 0 a4) = (1 : Int32) then (fX1_listenerAt_39 N K2 x0 x1 x2 z) else (zk x2 (zlen z 119 x0) <| zl (zgQ z 119 x0 (Int32.toNatClampNeg x2)) fun y7 => zd y7 fun a8 => if ¬ (zgI z 2 1 a8) = x1 then (fX1_listenerAt_39 N K2 x0 x1 x2 z) else (some (x2, z))))
def fX1_listenerAt_2 (N : Nat)  : Nat → Nat → Int32 → Int32 → St → Option (Int32 × St)
  | 0 => fun _ _ _ _ => none
  | n + 1 => fX1_listenerAt_2b N (fX1_listenerAt_2 N  n)
set_option maxHeartbeats 4000000 in
set_option maxRecDepth 100000 in
theorem bX1_listenerAt_2 (hst : zSt B ids) (F : zFx p m c cX1_listenerAt 3 s args RX1 D cy B ids A) (hA : ∀ q : Nat, s.heap.size ≤ q → A q) {r : Int32} {z' : St} (E : zEnd p l e rmX1_listenerAt s m args below meth c cX1_listenerAt D cy B ids A Q (some (.int r)) z' .ireturn True) {N : Nat} {K2 : Nat → Int32 → Int32 → St → Option (Int32 × St)} (hK2 : ∀ (x0 : Nat) (x1 : Int32) (x2 : Int32) (hx0 : (1, x0) ∈ ids) {z : St} {H : Heap} {locs : List Loc} {ls : Array Slot} (hr : zRep D cy B ids A s.heap z H locs) (hl : lv_has ls 3 [(0, .ref (B 1 x0)), (1, .int x1), (2, .int x2)]), K2 x0 x1 x2 z = some (r, z') → W p l e rmX1_listenerAt s m args below meth c H locs 0 0 Q (F0 m 2 ls [])) (x0 : Nat) (x1 : Int32) (x2 : Int32) (hx0 : (1, x0) ∈ ids) {z : St} {H : Heap} {locs : List Loc} {ls : Array Slot} (hr : zRep D cy B ids A s.heap z H locs) (hl : lv_has ls 3 [(0, .ref (B 1 x0)), (1, .int x1), (2, .int x2)]) (h : fX1_listenerAt_2b N K2 x0 x1 x2 z = some (r, z')) : W p l e rmX1_listenerAt s m args below meth c H locs 0 0 Q (F0 m 2 ls []) := by
  unfold fX1_listenerAt_2b at h
  refine lv_iload_n F.1 F.2.1 dX1_listenerAt_2 rfl (lv_at hl 2 rfl) ?_
  refine lv_aload_n F.1 F.2.1 dX1_listenerAt_3 rfl (lv_at hl 0 rfl) ?_
  refine gf1_58 F hx0 hr dX1_listenerAt_4 ?_
  refine zr_alen (k := 119) (v := (Int32.ofNat (zlen z 119 x0))) (by decide) rfl rfl (ti := 8) rfl rfl F (zal_a F hx0 (j := 11) rfl) hr dX1_listenerAt_7 ?_
  refine lv_icmp_ge (tgt := 45) F.1 F.2.1 dX1_listenerAt_8 (by decide) (fun c1 => ?_) (fun c1 => ?_)
  · replace h := zi_t c1 h
    refine lv_iconst (v := (-1 : Int32)) F.1 F.2.1 dX1_listenerAt_45 (by decide) ?_
    obtain ⟨rfl, rfl⟩ := zret h
    exact E _ _ _ _ dX1_listenerAt_46 trivial hr
  · replace h := zi_f c1 h
    refine lv_aload_n F.1 F.2.1 dX1_listenerAt_11 rfl (lv_at hl 0 rfl) ?_
    refine gf1_58 F hx0 hr dX1_listenerAt_12 ?_
    refine lv_iload_n F.1 F.2.1 dX1_listenerAt_15 rfl (lv_at hl 2 rfl) ?_
    replace h := zk_some h
    obtain ⟨c2, h⟩ := h
    refine zr_aaldv (k := 119) (by decide) rfl rfl rfl F (zal_a F hx0 (j := 11) rfl) hr dX1_listenerAt_16 c2 (fun y3 ey3 => ?_)
    replace h := zl_sub ey3 h
    have hy3 := zal_q hr (zal_a F hx0 (j := 11) rfl) rfl ey3
    clear ey3
    replace h := zd_some h
    obtain ⟨a4, rfl, h⟩ := h
    refine gf1_130 F (hy3 _ rfl) hr dX1_listenerAt_17 ?_
    refine lv_iconst (v := (1 : Int32)) F.1 F.2.1 dX1_listenerAt_20 (by decide) ?_
    refine lv_icmp_ne (tgt := 39) F.1 F.2.1 dX1_listenerAt_21 (by decide) (fun c5 => ?_) (fun c5 => ?_)
    · replace h := zi_t c5 h
      exact bX1_listenerAt_39 hst F hA E hK2 x0 x1 x2 hx0 hr (lv_sub hl [0, 1, 2] rfl) h
    · replace h := zi_f (fun q => q c5) h
      refine lv_aload_n F.1 F.2.1 dX1_listenerAt_24 rfl (lv_at hl 0 rfl) ?_
      refine gf1_58 F hx0 hr dX1_listenerAt_25 ?_
      refine lv_iload_n F.1 F.2.1 dX1_listenerAt_28 rfl (lv_at hl 2 rfl) ?_
      replace h := zk_some h
      obtain ⟨c6, h⟩ := h
      refine zr_aaldv (k := 119) (by decide) rfl rfl rfl F (zal_a F hx0 (j := 11) rfl) hr dX1_listenerAt_29 c6 (fun y7 ey7 => ?_)
      replace h := zl_sub ey7 h
      have hy7 := zal_q hr (zal_a F hx0 (j := 11) rfl) rfl ey7
      clear ey7
      replace h := zd_some h
      obtain ⟨a8, rfl, h⟩ := h
      refine gf1_133 F (hy7 _ rfl) hr dX1_listenerAt_30 ?_
      refine lv_iload_n F.1 F.2.1 dX1_listenerAt_33 rfl (lv_at hl 1 rfl) ?_
      refine lv_icmp_ne (tgt := 39) F.1 F.2.1 dX1_listenerAt_34 (by decide) (fun c9 => ?_) (fun c9 => ?_)
      · replace h := zi_t c9 h
        exact bX1_listenerAt_39 hst F hA E hK2 x0 x1 x2 hx0 hr (lv_sub hl [0, 1, 2] rfl) h
      · replace h := zi_f (fun q => q c9) h
        refine lv_iload_n F.1 F.2.1 dX1_listenerAt_37 rfl (lv_at hl 2 rfl) ?_
        obtain ⟨rfl, rfl⟩ := zret h
        exact E _ _ _ _ dX1_listenerAt_38 trivial hr
theorem lX1_listenerAt_2 (hst : zSt B ids) (F : zFx p m c cX1_listenerAt 3 s args RX1 D cy B ids A) (hA : ∀ q : Nat, s.heap.size ≤ q → A q) {r : Int32} {z' : St} (E : zEnd p l e rmX1_listenerAt s m args below meth c cX1_listenerAt D cy B ids A Q (some (.int r)) z' .ireturn True) {N : Nat}  : ∀ (n : Nat) (x0 : Nat) (x1 : Int32) (x2 : Int32) (hx0 : (1, x0) ∈ ids) {z : St} {H : Heap} {locs : List Loc} {ls : Array Slot} (hr : zRep D cy B ids A s.heap z H locs) (hl : lv_has ls 3 [(0, .ref (B 1 x0)), (1, .int x1), (2, .int x2)]), fX1_listenerAt_2 N  n x0 x1 x2 z = some (r, z') → W p l e rmX1_listenerAt s m args below meth c H locs 0 0 Q (F0 m 2 ls []) := by
  intro n
  induction n with
  | zero => intro x0 x1 x2 hx0 z H locs ls hr hl h; cases h
  | succ n ih => intro x0 x1 x2 hx0 z H locs ls hr hl h; exact bX1_listenerAt_2 hst F hA E ih x0 x1 x2 hx0 hr hl h
def fX1_listenerAt (N : Nat)  (x0 : Nat) (x1 : Int32) (z : St) : Option (Int32 × St) := fX1_listenerAt_2 N N x0 x1 (0 : Int32) z
set_option maxHeartbeats 4000000 in
set_option maxRecDepth 100000 in
theorem bX1_listenerAt_0 (hst : zSt B ids) (F : zFx p m c cX1_listenerAt 3 s args RX1 D cy B ids A) (hA : ∀ q : Nat, s.heap.size ≤ q → A q) {r : Int32} {z' : St} (E : zEnd p l e rmX1_listenerAt s m args below meth c cX1_listenerAt D cy B ids A Q (some (.int r)) z' .ireturn True) {N : Nat}  (x0 : Nat) (x1 : Int32) (hx0 : (1, x0) ∈ ids) {z : St} {H : Heap} {locs : List Loc} {ls : Array Slot} (hr : zRep D cy B ids A s.heap z H locs) (hl : lv_has ls 3 [(0, .ref (B 1 x0)), (1, .int x1)]) (h : fX1_listenerAt N x0 x1 z = some (r, z')) : W p l e rmX1_listenerAt s m args below meth c H locs 0 0 Q (F0 m 0 ls []) := by
  unfold fX1_listenerAt at h
  refine lv_iconst (v := (0 : Int32)) F.1 F.2.1 dX1_listenerAt_0 (by decide) ?_
  refine lv_istore_n (lv' := [(2, .int (0 : Int32)), (0, .ref (B 1 x0)), (1, .int x1)]) F.1 F.2.1 dX1_listenerAt_1 rfl hl (by decide) rfl (fun ls hl => ?_)
  exact lX1_listenerAt_2 hst F hA E  _ x0 x1 (0 : Int32) hx0 hr (lv_sub hl [1, 2, 0] rfl) h
end SX1_listenerAt
set_option maxRecDepth 100000 in
theorem okX1_listenerAt (l : Launch) (D : va_G) (cy : Nat → ClassId) (B : Nat → Nat → Nat) (ids : List (Nat × Nat)) (hst : zSt B ids) (N : Nat) (x0 : Nat) (hx0 : (1, x0) ∈ ids) (x1 : Int32) {z : St} {r : Int32} {z' : St} (hW : zWf ids z) (h : fX1_listenerAt N x0 x1 z = some (r, z')) : zM l yX1_listenerAt (zws yX1_listenerAt cX1_listenerAt 3 (some .int)) rmX1_listenerAt D cy B ids [.ref (B 1 x0), .int x1] (some (.int r)) True z z' :=
  zM_of hst hW (by decide +kernel) (Nat.le_of_ble_eq_true rfl) (fun p e s m args below meth c A ls F hA hret hlocks hr hl => bX1_listenerAt_0 hst F hA (zEnd_i F hret hlocks) x0 x1 hx0 hr hl h)
abbrev rmX2_isFor : Room := { frames := 0, cells := 0, slots := 0, locals := 0 }
theorem hdX2_isFor : yX2_isFor.cls ≠ "java/lang/invoke/MethodHandle" ∧ yX2_isFor.cls ≠ "java/lang/invoke/VarHandle" ∧ (parseMethodDescriptor yX2_isFor.desc).map (fun d => d.parameters.length) = some 3 := by decide +kernel
section SX2_isFor
variable {p : Program} {l : Launch} {e : Env} {s : State} {m : MethodId} {args : Array Value} {below : List Frame} {meth : Method} {c : Code} {Q : State → Prop} {D : va_G} {cy : Nat → ClassId} {B : Nat → Nat → Nat} {ids : List (Nat × Nat)} {A : Nat → Prop}
def fX2_isFor (N : Nat)  (x0 : Nat) (x1 : Int32) (x2 : Int32) (x3 : Int32) (z : St) : Option (Int32 × St) := if ¬ (zgI z 2 0 x0) = (2 : Int32) then (some ((0 : Int32), z)) else (if ¬ (zgI z 2 1 x0) = x1 then (some ((0 : Int32), z)) else (if ¬ (zgI z 2 2 x0) = x2 then (some ((0 : Int32), z)) else (if ¬ (zgI z 2 3 x0) = x3 then (some ((0 : Int32), z)) else (some ((1 : Int32), z)))))
set_option maxHeartbeats 4000000 in
set_option maxRecDepth 100000 in
theorem bX2_isFor_0 (hst : zSt B ids) (F : zFx p m c cX2_isFor 4 s args RX2 D cy B ids A) (hA : ∀ q : Nat, s.heap.size ≤ q → A q) {r : Int32} {z' : St} (E : zEnd p l e rmX2_isFor s m args below meth c cX2_isFor D cy B ids A Q (some (.int r)) z' .ireturn (r = 0 ∨ r = 1)) {N : Nat}  (x0 : Nat) (x1 : Int32) (x2 : Int32) (x3 : Int32) (hx0 : (2, x0) ∈ ids) {z : St} {H : Heap} {locs : List Loc} {ls : Array Slot} (hr : zRep D cy B ids A s.heap z H locs) (hl : lv_has ls 4 [(0, .ref (B 2 x0)), (1, .int x1), (2, .int x2), (3, .int x3)]) (h : fX2_isFor N x0 x1 x2 x3 z = some (r, z')) : W p l e rmX2_isFor s m args below meth c H locs 0 0 Q (F0 m 0 ls []) := by
  unfold fX2_isFor at h
  refine lv_aload_n F.1 F.2.1 dX2_isFor_0 rfl (lv_at hl 0 rfl) ?_
  refine gf2_25 F hx0 hr dX2_isFor_1 ?_
  refine lv_iconst (v := (2 : Int32)) F.1 F.2.1 dX2_isFor_4 (by decide) ?_
  refine lv_icmp_ne (tgt := 36) F.1 F.2.1 dX2_isFor_5 (by decide) (fun c1 => ?_) (fun c1 => ?_)
  · replace h := zi_t c1 h
    refine lv_iconst (v := (0 : Int32)) F.1 F.2.1 dX2_isFor_36 (by decide) ?_
    obtain ⟨rfl, rfl⟩ := zret h
    exact E _ _ _ _ dX2_isFor_37 (by decide) hr
  · replace h := zi_f (fun q => q c1) h
    refine lv_aload_n F.1 F.2.1 dX2_isFor_8 rfl (lv_at hl 0 rfl) ?_
    refine gf2_28 F hx0 hr dX2_isFor_9 ?_
    refine lv_iload_n F.1 F.2.1 dX2_isFor_12 rfl (lv_at hl 1 rfl) ?_
    refine lv_icmp_ne (tgt := 36) F.1 F.2.1 dX2_isFor_13 (by decide) (fun c2 => ?_) (fun c2 => ?_)
    · replace h := zi_t c2 h
      refine lv_iconst (v := (0 : Int32)) F.1 F.2.1 dX2_isFor_36 (by decide) ?_
      obtain ⟨rfl, rfl⟩ := zret h
      exact E _ _ _ _ dX2_isFor_37 (by decide) hr
    · replace h := zi_f (fun q => q c2) h
      refine lv_aload_n F.1 F.2.1 dX2_isFor_16 rfl (lv_at hl 0 rfl) ?_
      refine gf2_31 F hx0 hr dX2_isFor_17 ?_
      refine lv_iload_n F.1 F.2.1 dX2_isFor_20 rfl (lv_at hl 2 rfl) ?_
      refine lv_icmp_ne (tgt := 36) F.1 F.2.1 dX2_isFor_21 (by decide) (fun c3 => ?_) (fun c3 => ?_)
      · replace h := zi_t c3 h
        refine lv_iconst (v := (0 : Int32)) F.1 F.2.1 dX2_isFor_36 (by decide) ?_
        obtain ⟨rfl, rfl⟩ := zret h
        exact E _ _ _ _ dX2_isFor_37 (by decide) hr
      · replace h := zi_f (fun q => q c3) h
        refine lv_aload_n F.1 F.2.1 dX2_isFor_24 rfl (lv_at hl 0 rfl) ?_
        refine gf2_34 F hx0 hr dX2_isFor_25 ?_
        refine lv_iload_n F.1 F.2.1 dX2_isFor_28 rfl (lv_at hl 3 rfl) ?_
        refine lv_icmp_ne (tgt := 36) F.1 F.2.1 dX2_isFor_29 (by decide) (fun c4 => ?_) (fun c4 => ?_)
        · replace h := zi_t c4 h
          refine lv_iconst (v := (0 : Int32)) F.1 F.2.1 dX2_isFor_36 (by decide) ?_
          obtain ⟨rfl, rfl⟩ := zret h
          exact E _ _ _ _ dX2_isFor_37 (by decide) hr
        · replace h := zi_f (fun q => q c4) h
          refine lv_iconst (v := (1 : Int32)) F.1 F.2.1 dX2_isFor_32 (by decide) ?_
          refine lv_goto (tgt := 37) F.1 F.2.1 dX2_isFor_33 (by decide) ?_
          obtain ⟨rfl, rfl⟩ := zret h
          exact E _ _ _ _ dX2_isFor_37 (by decide) hr
end SX2_isFor
set_option maxRecDepth 100000 in
theorem okX2_isFor (l : Launch) (D : va_G) (cy : Nat → ClassId) (B : Nat → Nat → Nat) (ids : List (Nat × Nat)) (hst : zSt B ids) (N : Nat) (x0 : Nat) (hx0 : (2, x0) ∈ ids) (x1 : Int32) (x2 : Int32) (x3 : Int32) {z : St} {r : Int32} {z' : St} (hW : zWf ids z) (h : fX2_isFor N x0 x1 x2 x3 z = some (r, z')) : zM l yX2_isFor (zws yX2_isFor cX2_isFor 4 (some .boolean)) rmX2_isFor D cy B ids [.ref (B 2 x0), .int x1, .int x2, .int x3] (some (.int r)) (r = 0 ∨ r = 1) z z' :=
  zM_of hst hW (by decide +kernel) (Nat.le_of_ble_eq_true rfl) (fun p e s m args below meth c A ls F hA hret hlocks hr hl => bX2_isFor_0 hst F hA (zEnd_z F hret hlocks) x0 x1 x2 x3 hx0 hr hl h)
abbrev rmX3_isDead : Room := { frames := 0, cells := 0, slots := 0, locals := 0 }
theorem hdX3_isDead : yX3_isDead.cls ≠ "java/lang/invoke/MethodHandle" ∧ yX3_isDead.cls ≠ "java/lang/invoke/VarHandle" ∧ (parseMethodDescriptor yX3_isDead.desc).map (fun d => d.parameters.length) = some 0 := by decide +kernel
section SX3_isDead
variable {p : Program} {l : Launch} {e : Env} {s : State} {m : MethodId} {args : Array Value} {below : List Frame} {meth : Method} {c : Code} {Q : State → Prop} {D : va_G} {cy : Nat → ClassId} {B : Nat → Nat → Nat} {ids : List (Nat × Nat)} {A : Nat → Prop}
def fX3_isDead_16 (N : Nat)   (z : St) : Option (Int32 × St) := some ((1 : Int32), z)
set_option maxHeartbeats 4000000 in
set_option maxRecDepth 100000 in
theorem bX3_isDead_16 (hst : zSt B ids) (F : zFx p m c cX3_isDead 1 s args RX3 D cy B ids A) (hA : ∀ q : Nat, s.heap.size ≤ q → A q) {r : Int32} {z' : St} (E : zEnd p l e rmX3_isDead s m args below meth c cX3_isDead D cy B ids A Q (some (.int r)) z' .ireturn (r = 0 ∨ r = 1)) {N : Nat}    {z : St} {H : Heap} {locs : List Loc} {ls : Array Slot} (hr : zRep D cy B ids A s.heap z H locs) (hl : lv_has ls 1 []) (h : fX3_isDead_16 N z = some (r, z')) : W p l e rmX3_isDead s m args below meth c H locs 0 0 Q (F0 m 16 ls []) := by
  unfold fX3_isDead_16 at h
  refine lv_iconst (v := (1 : Int32)) F.1 F.2.1 dX3_isDead_16 (by decide) ?_
  refine lv_goto (tgt := 21) F.1 F.2.1 dX3_isDead_17 (by decide) ?_
  obtain ⟨rfl, rfl⟩ := zret h
  exact E _ _ _ _ dX3_isDead_21 (by decide) hr
def fX3_isDead (N : Nat)  (x0 : Nat) (z : St) : Option (Int32 × St) := if (zgI z 3 0 x0) = 0 then (fX3_isDead_16 N z) else (if ¬ (zgI z 3 0 x0) = (11 : Int32) then (some ((0 : Int32), z)) else (fX3_isDead_16 N z))
set_option maxHeartbeats 4000000 in
set_option maxRecDepth 100000 in
theorem bX3_isDead_0 (hst : zSt B ids) (F : zFx p m c cX3_isDead 1 s args RX3 D cy B ids A) (hA : ∀ q : Nat, s.heap.size ≤ q → A q) {r : Int32} {z' : St} (E : zEnd p l e rmX3_isDead s m args below meth c cX3_isDead D cy B ids A Q (some (.int r)) z' .ireturn (r = 0 ∨ r = 1)) {N : Nat}  (x0 : Nat) (hx0 : (3, x0) ∈ ids) {z : St} {H : Heap} {locs : List Loc} {ls : Array Slot} (hr : zRep D cy B ids A s.heap z H locs) (hl : lv_has ls 1 [(0, .ref (B 3 x0))]) (h : fX3_isDead N x0 z = some (r, z')) : W p l e rmX3_isDead s m args below meth c H locs 0 0 Q (F0 m 0 ls []) := by
  unfold fX3_isDead at h
  refine lv_aload_n F.1 F.2.1 dX3_isDead_0 rfl (lv_at hl 0 rfl) ?_
  refine gf3_32 F hx0 hr dX3_isDead_1 ?_
  refine lv_if_eq (tgt := 16) F.1 F.2.1 dX3_isDead_4 (by decide) (fun c1 => ?_) (fun c1 => ?_)
  · replace h := zi_t c1 h
    exact bX3_isDead_16 hst F hA E   hr (lv_sub hl [] rfl) h
  · replace h := zi_f c1 h
    refine lv_aload_n F.1 F.2.1 dX3_isDead_7 rfl (lv_at hl 0 rfl) ?_
    refine gf3_32 F hx0 hr dX3_isDead_8 ?_
    refine lv_bipush (v := (11 : Int32)) F.1 F.2.1 dX3_isDead_11 (by decide) ?_
    refine lv_icmp_ne (tgt := 20) F.1 F.2.1 dX3_isDead_13 (by decide) (fun c2 => ?_) (fun c2 => ?_)
    · replace h := zi_t c2 h
      refine lv_iconst (v := (0 : Int32)) F.1 F.2.1 dX3_isDead_20 (by decide) ?_
      obtain ⟨rfl, rfl⟩ := zret h
      exact E _ _ _ _ dX3_isDead_21 (by decide) hr
    · replace h := zi_f (fun q => q c2) h
      exact bX3_isDead_16 hst F hA E   hr (lv_sub hl [] rfl) h
end SX3_isDead
set_option maxRecDepth 100000 in
theorem okX3_isDead (l : Launch) (D : va_G) (cy : Nat → ClassId) (B : Nat → Nat → Nat) (ids : List (Nat × Nat)) (hst : zSt B ids) (N : Nat) (x0 : Nat) (hx0 : (3, x0) ∈ ids) {z : St} {r : Int32} {z' : St} (hW : zWf ids z) (h : fX3_isDead N x0 z = some (r, z')) : zM l yX3_isDead (zws yX3_isDead cX3_isDead 1 (some .boolean)) rmX3_isDead D cy B ids [.ref (B 3 x0)] (some (.int r)) (r = 0 ∨ r = 1) z z' :=
  zM_of hst hW (by decide +kernel) (Nat.le_of_ble_eq_true rfl) (fun p e s m args below meth c A ls F hA hret hlocks hr hl => bX3_isDead_0 hst F hA (zEnd_z F hret hlocks) x0 hx0 hr hl h)
abbrev rmX1_liveDoor : Room := { frames := 1, cells := 0, slots := 0, locals := 23 }
theorem hdX1_liveDoor : yX1_liveDoor.cls ≠ "java/lang/invoke/MethodHandle" ∧ yX1_liveDoor.cls ≠ "java/lang/invoke/VarHandle" ∧ (parseMethodDescriptor yX1_liveDoor.desc).map (fun d => d.parameters.length) = some 3 := by decide +kernel
theorem hroX1_liveDoor_X2_isFor : rmX2_isFor.frames + 1 ≤ rmX1_liveDoor.frames ∧ 8 + (4 + 11) + rmX2_isFor.locals ≤ rmX1_liveDoor.locals := by decide
theorem hroX1_liveDoor_X3_isDead : rmX3_isDead.frames + 1 ≤ rmX1_liveDoor.frames ∧ 8 + (1 + 11) + rmX3_isDead.locals ≤ rmX1_liveDoor.locals := by decide
section SX1_liveDoor
variable {p : Program} {l : Launch} {e : Env} {s : State} {m : MethodId} {args : Array Value} {below : List Frame} {meth : Method} {c : Code} {Q : State → Prop} {D : va_G} {cy : Nat → ClassId} {B : Nat → Nat → Nat} {ids : List (Nat × Nat)} {A : Nat → Prop}
def fX1_liveDoor_53 (N : Nat) (K3 : Nat → Int32 → Int32 → Int32 → Int32 → St → Option (Option Nat × St)) (x0 : Nat) (x1 : Int32) (x2 : Int32) (x3 : Int32) (x4 : Int32) (z : St) : Option (Option Nat × St) := zl (x4 + 1) fun v1 => K3 x0 x1 x2 x3 v1 z
set_option maxHeartbeats 4000000 in
set_option maxRecDepth 100000 in
theorem bX1_liveDoor_53 (hst : zSt B ids) (F : zFx p m c cX1_liveDoor 5 s args RX1 D cy B ids A) (hA : ∀ q : Nat, s.heap.size ≤ q → A q) {r : Option Nat} {z' : St} (E : zEnd p l e rmX1_liveDoor s m args below meth c cX1_liveDoor D cy B ids A Q (some (va_rf (r.map (B 2)))) z' .areturn (∀ i, r = some i → (2, i) ∈ ids)) {N : Nat} {K3 : Nat → Int32 → Int32 → Int32 → Int32 → St → Option (Option Nat × St)} (hK3 : ∀ (x0 : Nat) (x1 : Int32) (x2 : Int32) (x3 : Int32) (x4 : Int32) (hx0 : (1, x0) ∈ ids) {z : St} {H : Heap} {locs : List Loc} {ls : Array Slot} (hr : zRep D cy B ids A s.heap z H locs) (hl : lv_has ls 5 [(0, .ref (B 1 x0)), (1, .int x1), (2, .int x2), (3, .int x3), (4, .int x4)]), K3 x0 x1 x2 x3 x4 z = some (r, z') → W p l e rmX1_liveDoor s m args below meth c H locs 0 0 Q (F0 m 3 ls [])) (x0 : Nat) (x1 : Int32) (x2 : Int32) (x3 : Int32) (x4 : Int32) (hx0 : (1, x0) ∈ ids) {z : St} {H : Heap} {locs : List Loc} {ls : Array Slot} (hr : zRep D cy B ids A s.heap z H locs) (hl : lv_has ls 5 [(0, .ref (B 1 x0)), (1, .int x1), (2, .int x2), (3, .int x3), (4, .int x4)]) (h : fX1_liveDoor_53 N K3 x0 x1 x2 x3 x4 z = some (r, z')) : W p l e rmX1_liveDoor s m args below meth c H locs 0 0 Q (F0 m 53 ls []) := by
  unfold fX1_liveDoor_53 at h
  obtain ⟨v1, ev1⟩ : ∃ y : Int32, y = (x4 + 1) := ⟨_, rfl⟩
  replace h := zl_sub ev1 h
  refine lv_iinc (v := v1) (lv' := [(4, .int v1), (0, .ref (B 1 x0)), (1, .int x1), (2, .int x2), (3, .int x3)]) F.1 F.2.1 dX1_liveDoor_53 hl (k := 4) rfl (by rw [ev1]; rfl) (by decide) rfl (fun ls hl => ?_)
  refine lv_goto (tgt := 3) F.1 F.2.1 dX1_liveDoor_56 (by decide) ?_
  exact hK3 x0 x1 x2 x3 v1 hx0 hr (lv_sub hl [1, 2, 3, 4, 0] rfl) h
def fX1_liveDoor_3b (N : Nat) (K3 : Nat → Int32 → Int32 → Int32 → Int32 → St → Option (Option Nat × St)) (x0 : Nat) (x1 : Int32) (x2 : Int32) (x3 : Int32) (x4 : Int32) (z : St) : Option (Option Nat × St) := if (Int32.ofNat (zlen z 119 x0)) ≤ x4 then (some (none, z)) else (zk x4 (zlen z 119 x0) <| zl (zgQ z 119 x0 (Int32.toNatClampNeg x4)) fun y3 => zd y3 fun a4 => zc (fX2_isFor N a4 x1 x2 x3 z) fun r5 z6 => if r5 = 0 then (fX1_liveDoor_53 N K3 x0 x1 x2 x3 x4 z6) else (zk x4 (zlen z6 119 x0) <| zl (zgQ z6 119 x0 (Int32.toNatClampNeg x4)) fun y11 => zd y11 fun a12 => zl (zgR z6 2 12 a12) fun y13 => zd y13 fun a14 => zc (fX3_isDead N a14 z6) fun r15 z16 => if ¬ r15 = 0 then (fX1_liveDoor_53 N K3 x0 x1 x2 x3 x4 z16) else (zk x4 (zlen z16 119 x0) <| zl (zgQ z16 119 x0 (Int32.toNatClampNeg x4)) fun y21 => some (y21, z16))))
def fX1_liveDoor_3 (N : Nat)  : Nat → Nat → Int32 → Int32 → Int32 → Int32 → St → Option (Option Nat × St)
  | 0 => fun _ _ _ _ _ _ => none
  | n + 1 => fX1_liveDoor_3b N (fX1_liveDoor_3 N  n)
set_option maxHeartbeats 4000000 in
set_option maxRecDepth 100000 in
theorem bX1_liveDoor_3 (hst : zSt B ids) (F : zFx p m c cX1_liveDoor 5 s args RX1 D cy B ids A) (hA : ∀ q : Nat, s.heap.size ≤ q → A q) {r : Option Nat} {z' : St} (E : zEnd p l e rmX1_liveDoor s m args below meth c cX1_liveDoor D cy B ids A Q (some (va_rf (r.map (B 2)))) z' .areturn (∀ i, r = some i → (2, i) ∈ ids)) {N : Nat} {K3 : Nat → Int32 → Int32 → Int32 → Int32 → St → Option (Option Nat × St)} (hK3 : ∀ (x0 : Nat) (x1 : Int32) (x2 : Int32) (x3 : Int32) (x4 : Int32) (hx0 : (1, x0) ∈ ids) {z : St} {H : Heap} {locs : List Loc} {ls : Array Slot} (hr : zRep D cy B ids A s.heap z H locs) (hl : lv_has ls 5 [(0, .ref (B 1 x0)), (1, .int x1), (2, .int x2), (3, .int x3), (4, .int x4)]), K3 x0 x1 x2 x3 x4 z = some (r, z') → W p l e rmX1_liveDoor s m args below meth c H locs 0 0 Q (F0 m 3 ls [])) (x0 : Nat) (x1 : Int32) (x2 : Int32) (x3 : Int32) (x4 : Int32) (hx0 : (1, x0) ∈ ids) {z : St} {H : Heap} {locs : List Loc} {ls : Array Slot} (hr : zRep D cy B ids A s.heap z H locs) (hl : lv_has ls 5 [(0, .ref (B 1 x0)), (1, .int x1), (2, .int x2), (3, .int x3), (4, .int x4)]) (h : fX1_liveDoor_3b N K3 x0 x1 x2 x3 x4 z = some (r, z')) : W p l e rmX1_liveDoor s m args below meth c H locs 0 0 Q (F0 m 3 ls []) := by
  unfold fX1_liveDoor_3b at h
  refine lv_iload F.1 F.2.1 dX1_liveDoor_3 (lv_at hl 4 rfl) ?_
  refine lv_aload_n F.1 F.2.1 dX1_liveDoor_5 rfl (lv_at hl 0 rfl) ?_
  refine gf1_58 F hx0 hr dX1_liveDoor_6 ?_
  refine zr_alen (k := 119) (v := (Int32.ofNat (zlen z 119 x0))) (by decide) rfl rfl (ti := 8) rfl rfl F (zal_a F hx0 (j := 11) rfl) hr dX1_liveDoor_9 ?_
  refine lv_icmp_ge (tgt := 59) F.1 F.2.1 dX1_liveDoor_10 (by decide) (fun c1 => ?_) (fun c1 => ?_)
  · replace h := zi_t c1 h
    refine lv_null F.1 F.2.1 dX1_liveDoor_59 ?_
    obtain ⟨rfl, rfl⟩ := zret h
    exact E _ _ _ _ dX1_liveDoor_60 zal_0 hr
  · replace h := zi_f c1 h
    refine lv_aload_n F.1 F.2.1 dX1_liveDoor_13 rfl (lv_at hl 0 rfl) ?_
    refine gf1_58 F hx0 hr dX1_liveDoor_14 ?_
    refine lv_iload F.1 F.2.1 dX1_liveDoor_17 (lv_at hl 4 rfl) ?_
    replace h := zk_some h
    obtain ⟨c2, h⟩ := h
    refine zr_aaldv (k := 119) (by decide) rfl rfl rfl F (zal_a F hx0 (j := 11) rfl) hr dX1_liveDoor_19 c2 (fun y3 ey3 => ?_)
    replace h := zl_sub ey3 h
    have hy3 := zal_q hr (zal_a F hx0 (j := 11) rfl) rfl ey3
    clear ey3
    refine lv_iload_n F.1 F.2.1 dX1_liveDoor_20 rfl (lv_at hl 1 rfl) ?_
    refine lv_iload_n F.1 F.2.1 dX1_liveDoor_21 rfl (lv_at hl 2 rfl) ?_
    refine lv_iload_n F.1 F.2.1 dX1_liveDoor_22 rfl (lv_at hl 3 rfl) ?_
    replace h := zd_some h
    obtain ⟨a4, rfl, h⟩ := h
    replace h := zc_some h
    obtain ⟨r5, z6, hc7, h⟩ := h
    refine zr_calli (zrun_VN (As := [.int x1, .int x2, .int x3]) (rest := []) zn_1224 zq_1147 zs_X2_isFor zq_1148 zq_12 hdX2_isFor (by decide) (T := TX2) (N := 13) rfl (okX2_isFor l D cy B ids hst N a4 (hy3 _ rfl) x1  x2  x3  hr.2.2 hc7) F hr (hy3 _ rfl) hl.1 rfl (by decide) dX1_liveDoor_23 rfl rfl hroX1_liveDoor_X2_isFor ⟨Nat.zero_le _, Nat.zero_le _⟩) F hA hr (fun H locs hw8 hr => ?_)
    clear hc7
    refine lv_if_eq (tgt := 53) F.1 F.2.1 dX1_liveDoor_26 (by decide) (fun c9 => ?_) (fun c9 => ?_)
    · replace h := zi_t c9 h
      exact bX1_liveDoor_53 hst F hA E hK3 x0 x1 x2 x3 x4 hx0 hr (lv_sub hl [0, 1, 2, 3, 4] rfl) h
    · replace h := zi_f c9 h
      refine lv_aload_n F.1 F.2.1 dX1_liveDoor_29 rfl (lv_at hl 0 rfl) ?_
      refine gf1_58 F hx0 hr dX1_liveDoor_30 ?_
      refine lv_iload F.1 F.2.1 dX1_liveDoor_33 (lv_at hl 4 rfl) ?_
      replace h := zk_some h
      obtain ⟨c10, h⟩ := h
      refine zr_aaldv (k := 119) (by decide) rfl rfl rfl F (zal_a F hx0 (j := 11) rfl) hr dX1_liveDoor_35 c10 (fun y11 ey11 => ?_)
      replace h := zl_sub ey11 h
      have hy11 := zal_q hr (zal_a F hx0 (j := 11) rfl) rfl ey11
      clear ey11
      replace h := zd_some h
      obtain ⟨a12, rfl, h⟩ := h
      refine gf1_140 F (hy11 _ rfl) hr dX1_liveDoor_36 (fun y13 ey13 => ?_)
      replace h := zl_sub ey13 h
      have hy13 := zal_g hr (hy11 _ rfl) (j := 12) rfl ey13
      clear ey13
      replace h := zd_some h
      obtain ⟨a14, rfl, h⟩ := h
      replace h := zc_some h
      obtain ⟨r15, z16, hc17, h⟩ := h
      refine zr_calli (zrun_VN (As := []) (rest := []) zn_1225 zq_1227 zs_X3_isDead zq_1228 zq_13 hdX3_isDead (by decide) (T := TX3) (N := 19) rfl (okX3_isDead l D cy B ids hst N a14 (hy13 _ rfl) hr.2.2 hc17) F hr (hy13 _ rfl) hl.1 rfl (by decide) dX1_liveDoor_39 rfl rfl hroX1_liveDoor_X3_isDead ⟨Nat.zero_le _, Nat.zero_le _⟩) F hA hr (fun H locs hw18 hr => ?_)
      clear hc17
      refine lv_if_ne (tgt := 53) F.1 F.2.1 dX1_liveDoor_42 (by decide) (fun c19 => ?_) (fun c19 => ?_)
      · replace h := zi_t c19 h
        exact bX1_liveDoor_53 hst F hA E hK3 x0 x1 x2 x3 x4 hx0 hr (lv_sub hl [0, 1, 2, 3, 4] rfl) h
      · replace h := zi_f (fun q => q c19) h
        refine lv_aload_n F.1 F.2.1 dX1_liveDoor_45 rfl (lv_at hl 0 rfl) ?_
        refine gf1_58 F hx0 hr dX1_liveDoor_46 ?_
        refine lv_iload F.1 F.2.1 dX1_liveDoor_49 (lv_at hl 4 rfl) ?_
        replace h := zk_some h
        obtain ⟨c20, h⟩ := h
        refine zr_aaldv (k := 119) (by decide) rfl rfl rfl F (zal_a F hx0 (j := 11) rfl) hr dX1_liveDoor_51 c20 (fun y21 ey21 => ?_)
        replace h := zl_sub ey21 h
        have hy21 := zal_q hr (zal_a F hx0 (j := 11) rfl) rfl ey21
        clear ey21
        obtain ⟨rfl, rfl⟩ := zret h
        exact E _ _ _ _ dX1_liveDoor_52 hy21 hr
theorem lX1_liveDoor_3 (hst : zSt B ids) (F : zFx p m c cX1_liveDoor 5 s args RX1 D cy B ids A) (hA : ∀ q : Nat, s.heap.size ≤ q → A q) {r : Option Nat} {z' : St} (E : zEnd p l e rmX1_liveDoor s m args below meth c cX1_liveDoor D cy B ids A Q (some (va_rf (r.map (B 2)))) z' .areturn (∀ i, r = some i → (2, i) ∈ ids)) {N : Nat}  : ∀ (n : Nat) (x0 : Nat) (x1 : Int32) (x2 : Int32) (x3 : Int32) (x4 : Int32) (hx0 : (1, x0) ∈ ids) {z : St} {H : Heap} {locs : List Loc} {ls : Array Slot} (hr : zRep D cy B ids A s.heap z H locs) (hl : lv_has ls 5 [(0, .ref (B 1 x0)), (1, .int x1), (2, .int x2), (3, .int x3), (4, .int x4)]), fX1_liveDoor_3 N  n x0 x1 x2 x3 x4 z = some (r, z') → W p l e rmX1_liveDoor s m args below meth c H locs 0 0 Q (F0 m 3 ls []) := by
  intro n
  induction n with
  | zero => intro x0 x1 x2 x3 x4 hx0 z H locs ls hr hl h; cases h
  | succ n ih => intro x0 x1 x2 x3 x4 hx0 z H locs ls hr hl h; exact bX1_liveDoor_3 hst F hA E ih x0 x1 x2 x3 x4 hx0 hr hl h
def fX1_liveDoor (N : Nat)  (x0 : Nat) (x1 : Int32) (x2 : Int32) (x3 : Int32) (z : St) : Option (Option Nat × St) := fX1_liveDoor_3 N N x0 x1 x2 x3 (0 : Int32) z
set_option maxHeartbeats 4000000 in
set_option maxRecDepth 100000 in
theorem bX1_liveDoor_0 (hst : zSt B ids) (F : zFx p m c cX1_liveDoor 5 s args RX1 D cy B ids A) (hA : ∀ q : Nat, s.heap.size ≤ q → A q) {r : Option Nat} {z' : St} (E : zEnd p l e rmX1_liveDoor s m args below meth c cX1_liveDoor D cy B ids A Q (some (va_rf (r.map (B 2)))) z' .areturn (∀ i, r = some i → (2, i) ∈ ids)) {N : Nat}  (x0 : Nat) (x1 : Int32) (x2 : Int32) (x3 : Int32) (hx0 : (1, x0) ∈ ids) {z : St} {H : Heap} {locs : List Loc} {ls : Array Slot} (hr : zRep D cy B ids A s.heap z H locs) (hl : lv_has ls 5 [(0, .ref (B 1 x0)), (1, .int x1), (2, .int x2), (3, .int x3)]) (h : fX1_liveDoor N x0 x1 x2 x3 z = some (r, z')) : W p l e rmX1_liveDoor s m args below meth c H locs 0 0 Q (F0 m 0 ls []) := by
  unfold fX1_liveDoor at h
  refine lv_iconst (v := (0 : Int32)) F.1 F.2.1 dX1_liveDoor_0 (by decide) ?_
  refine lv_istore (lv' := [(4, .int (0 : Int32)), (0, .ref (B 1 x0)), (1, .int x1), (2, .int x2), (3, .int x3)]) F.1 F.2.1 dX1_liveDoor_1 hl (by decide) rfl (fun ls hl => ?_)
  exact lX1_liveDoor_3 hst F hA E  _ x0 x1 x2 x3 (0 : Int32) hx0 hr (lv_sub hl [1, 2, 3, 4, 0] rfl) h
end SX1_liveDoor
set_option maxRecDepth 100000 in
theorem okX1_liveDoor (l : Launch) (D : va_G) (cy : Nat → ClassId) (B : Nat → Nat → Nat) (ids : List (Nat × Nat)) (hst : zSt B ids) (N : Nat) (x0 : Nat) (hx0 : (1, x0) ∈ ids) (x1 : Int32) (x2 : Int32) (x3 : Int32) {z : St} {r : Option Nat} {z' : St} (hW : zWf ids z) (h : fX1_liveDoor N x0 x1 x2 x3 z = some (r, z')) : zM l yX1_liveDoor (zws yX1_liveDoor cX1_liveDoor 5 (some (.object "WholeInternet$Door"))) rmX1_liveDoor D cy B ids [.ref (B 1 x0), .int x1, .int x2, .int x3] (some (va_rf (r.map (B 2)))) (∀ i, r = some i → (2, i) ∈ ids) z z' :=
  zM_of hst hW (by decide +kernel) (Nat.le_of_ble_eq_true rfl) (fun p e s m args below meth c A ls F hA hret hlocks hr hl => bX1_liveDoor_0 hst F hA (zEnd_r F hret hlocks) x0 x1 x2 x3 hx0 hr hl h)
abbrev rmX1_doorThrough : Room := { frames := 1, cells := 0, slots := 0, locals := 21 }
theorem hdX1_doorThrough : yX1_doorThrough.cls ≠ "java/lang/invoke/MethodHandle" ∧ yX1_doorThrough.cls ≠ "java/lang/invoke/VarHandle" ∧ (parseMethodDescriptor yX1_doorThrough.desc).map (fun d => d.parameters.length) = some 1 := by decide +kernel
theorem hroX1_doorThrough_X1_unusedDoor : rmX1_unusedDoor.frames + 1 ≤ rmX1_doorThrough.frames ∧ 8 + (2 + 11) + rmX1_unusedDoor.locals ≤ rmX1_doorThrough.locals := by decide
section SX1_doorThrough
variable {p : Program} {l : Launch} {e : Env} {s : State} {m : MethodId} {args : Array Value} {below : List Frame} {meth : Method} {c : Code} {Q : State → Prop} {D : va_G} {cy : Nat → ClassId} {B : Nat → Nat → Nat} {ids : List (Nat × Nat)} {A : Nat → Prop}
def fX1_doorThrough_54 (N : Nat) (K4 : Nat → Int32 → Int32 → Int32 → St → Option (Option Nat × St)) (x0 : Nat) (x1 : Int32) (x2 : Int32) (x3 : Int32) (z : St) : Option (Option Nat × St) := zl (x3 + 1) fun v1 => K4 x0 x1 x2 v1 z
set_option maxHeartbeats 4000000 in
set_option maxRecDepth 100000 in
theorem bX1_doorThrough_54 (hst : zSt B ids) (F : zFx p m c cX1_doorThrough 5 s args RX1 D cy B ids A) (hA : ∀ q : Nat, s.heap.size ≤ q → A q) {r : Option Nat} {z' : St} (E : zEnd p l e rmX1_doorThrough s m args below meth c cX1_doorThrough D cy B ids A Q (some (va_rf (r.map (B 2)))) z' .areturn (∀ i, r = some i → (2, i) ∈ ids)) {N : Nat} {K4 : Nat → Int32 → Int32 → Int32 → St → Option (Option Nat × St)} (hK4 : ∀ (x0 : Nat) (x1 : Int32) (x2 : Int32) (x3 : Int32) (hx0 : (1, x0) ∈ ids) {z : St} {H : Heap} {locs : List Loc} {ls : Array Slot} (hr : zRep D cy B ids A s.heap z H locs) (hl : lv_has ls 5 [(0, .ref (B 1 x0)), (1, .int x1), (2, .int x2), (3, .int x3)]), K4 x0 x1 x2 x3 z = some (r, z') → W p l e rmX1_doorThrough s m args below meth c H locs 0 0 Q (F0 m 4 ls [])) (x0 : Nat) (x1 : Int32) (x2 : Int32) (x3 : Int32) (hx0 : (1, x0) ∈ ids) {z : St} {H : Heap} {locs : List Loc} {ls : Array Slot} (hr : zRep D cy B ids A s.heap z H locs) (hl : lv_has ls 5 [(0, .ref (B 1 x0)), (1, .int x1), (2, .int x2), (3, .int x3)]) (h : fX1_doorThrough_54 N K4 x0 x1 x2 x3 z = some (r, z')) : W p l e rmX1_doorThrough s m args below meth c H locs 0 0 Q (F0 m 54 ls []) := by
  unfold fX1_doorThrough_54 at h
  obtain ⟨v1, ev1⟩ : ∃ y : Int32, y = (x3 + 1) := ⟨_, rfl⟩
  replace h := zl_sub ev1 h
  refine lv_iinc (v := v1) (lv' := [(3, .int v1), (0, .ref (B 1 x0)), (1, .int x1), (2, .int x2)]) F.1 F.2.1 dX1_doorThrough_54 hl (k := 3) rfl (by rw [ev1]; rfl) (by decide) rfl (fun ls hl => ?_)
  refine lv_goto (tgt := 4) F.1 F.2.1 dX1_doorThrough_57 (by decide) ?_
  exact hK4 x0 x1 x2 v1 hx0 hr (lv_sub hl [1, 2, 3, 0] rfl) h
def fX1_doorThrough_82 (N : Nat)   (z : St) : Option (Option Nat × St) := some (none, z)
set_option maxHeartbeats 4000000 in
set_option maxRecDepth 100000 in
theorem bX1_doorThrough_82 (hst : zSt B ids) (F : zFx p m c cX1_doorThrough 5 s args RX1 D cy B ids A) (hA : ∀ q : Nat, s.heap.size ≤ q → A q) {r : Option Nat} {z' : St} (E : zEnd p l e rmX1_doorThrough s m args below meth c cX1_doorThrough D cy B ids A Q (some (va_rf (r.map (B 2)))) z' .areturn (∀ i, r = some i → (2, i) ∈ ids)) {N : Nat}    {z : St} {H : Heap} {locs : List Loc} {ls : Array Slot} (hr : zRep D cy B ids A s.heap z H locs) (hl : lv_has ls 5 []) (h : fX1_doorThrough_82 N z = some (r, z')) : W p l e rmX1_doorThrough s m args below meth c H locs 0 0 Q (F0 m 82 ls []) := by
  unfold fX1_doorThrough_82 at h
  refine lv_null F.1 F.2.1 dX1_doorThrough_82 ?_
  refine lv_goto (tgt := 92) F.1 F.2.1 dX1_doorThrough_83 (by decide) ?_
  obtain ⟨rfl, rfl⟩ := zret h
  exact E _ _ _ _ dX1_doorThrough_92 zal_0 hr
def fX1_doorThrough_4b (N : Nat) (K4 : Nat → Int32 → Int32 → Int32 → St → Option (Option Nat × St)) (x0 : Nat) (x1 : Int32) (x2 : Int32) (x3 : Int32) (z : St) : Option (Option Nat × St) := if (Int32.ofNat (zlen z 119 x0)) ≤ x3 then (zc (fX1_unusedDoor N x0 z) fun r2 z3 => if r2 < 0 then (fX1_doorThrough_82 N z3) else (zk x1 (zlen z3 119 x0) <| zl (zgQ z3 119 x0 (Int32.toNatClampNeg x1)) fun y8 => zd y8 fun a9 => if x2 < (zgI z3 2 4 a9) then (zk r2 (zlen z3 119 x0) <| zl (zgQ z3 119 x0 (Int32.toNatClampNeg r2)) fun y12 => some (y12, z3)) else (fX1_doorThrough_82 N z3))) else (zk x3 (zlen z 119 x0) <| zl (zgQ z 119 x0 (Int32.toNatClampNeg x3)) fun y14 => zd y14 fun a15 => if ¬ (zgI z 2 0 a15) = (2 : Int32) then (fX1_doorThrough_54 N K4 x0 x1 x2 x3 z) else (if ¬ (zgI z 2 5 a15) = x1 then (fX1_doorThrough_54 N K4 x0 x1 x2 x3 z) else (zl (zgR z 2 12 a15) fun y18 => zd y18 fun a19 => if ¬ (zgI z 3 0 a19) = (3 : Int32) then (fX1_doorThrough_54 N K4 x0 x1 x2 x3 z) else (zl (x2 + 1) fun v21 => fX1_doorThrough_54 N K4 x0 x1 v21 x3 z))))
def fX1_doorThrough_4 (N : Nat)  : Nat → Nat → Int32 → Int32 → Int32 → St → Option (Option Nat × St)
  | 0 => fun _ _ _ _ _ => none
  | n + 1 => fX1_doorThrough_4b N (fX1_doorThrough_4 N  n)
set_option maxHeartbeats 4000000 in
set_option maxRecDepth 100000 in
theorem bX1_doorThrough_4 (hst : zSt B ids) (F : zFx p m c cX1_doorThrough 5 s args RX1 D cy B ids A) (hA : ∀ q : Nat, s.heap.size ≤ q → A q) {r : Option Nat} {z' : St} (E : zEnd p l e rmX1_doorThrough s m args below meth c cX1_doorThrough D cy B ids A Q (some (va_rf (r.map (B 2)))) z' .areturn (∀ i, r = some i → (2, i) ∈ ids)) {N : Nat} {K4 : Nat → Int32 → Int32 → Int32 → St → Option (Option Nat × St)} (hK4 : ∀ (x0 : Nat) (x1 : Int32) (x2 : Int32) (x3 : Int32) (hx0 : (1, x0) ∈ ids) {z : St} {H : Heap} {locs : List Loc} {ls : Array Slot} (hr : zRep D cy B ids A s.heap z H locs) (hl : lv_has ls 5 [(0, .ref (B 1 x0)), (1, .int x1), (2, .int x2), (3, .int x3)]), K4 x0 x1 x2 x3 z = some (r, z') → W p l e rmX1_doorThrough s m args below meth c H locs 0 0 Q (F0 m 4 ls [])) (x0 : Nat) (x1 : Int32) (x2 : Int32) (x3 : Int32) (hx0 : (1, x0) ∈ ids) {z : St} {H : Heap} {locs : List Loc} {ls : Array Slot} (hr : zRep D cy B ids A s.heap z H locs) (hl : lv_has ls 5 [(0, .ref (B 1 x0)), (1, .int x1), (2, .int x2), (3, .int x3)]) (h : fX1_doorThrough_4b N K4 x0 x1 x2 x3 z = some (r, z')) : W p l e rmX1_doorThrough s m args below meth c H locs 0 0 Q (F0 m 4 ls []) := by
  unfold fX1_doorThrough_4b at h
  refine lv_iload_n F.1 F.2.1 dX1_doorThrough_4 rfl (lv_at hl 3 rfl) ?_
  refine lv_aload_n F.1 F.2.1 dX1_doorThrough_5 rfl (lv_at hl 0 rfl) ?_
  refine gf1_58 F hx0 hr dX1_doorThrough_6 ?_
  refine zr_alen (k := 119) (v := (Int32.ofNat (zlen z 119 x0))) (by decide) rfl rfl (ti := 8) rfl rfl F (zal_a F hx0 (j := 11) rfl) hr dX1_doorThrough_9 ?_
  refine lv_icmp_ge (tgt := 60) F.1 F.2.1 dX1_doorThrough_10 (by decide) (fun c1 => ?_) (fun c1 => ?_)
  · replace h := zi_t c1 h
    refine lv_aload_n F.1 F.2.1 dX1_doorThrough_60 rfl (lv_at hl 0 rfl) ?_
    replace h := zc_some h
    obtain ⟨r2, z3, hc4, h⟩ := h
    refine zr_calli (zrun_V (As := []) (rest := []) zq_1237 zq_1239 zs_X1_unusedDoor zq_1240 zq_9 hdX1_unusedDoor (by decide) (T := TX1) (N := 13) rfl (okX1_unusedDoor l D cy B ids hst N x0 hx0 hr.2.2 hc4) F hr hx0 hl.1 rfl (by decide) dX1_doorThrough_61 rfl rfl hroX1_doorThrough_X1_unusedDoor ⟨Nat.zero_le _, Nat.zero_le _⟩) F hA hr (fun H locs hw5 hr => ?_)
    clear hc4
    refine lv_istore_n (lv' := [(3, .int r2), (0, .ref (B 1 x0)), (1, .int x1), (2, .int x2)]) F.1 F.2.1 dX1_doorThrough_64 rfl hl (by decide) rfl (fun ls hl => ?_)
    refine lv_iload_n F.1 F.2.1 dX1_doorThrough_65 rfl (lv_at hl 0 rfl) ?_
    refine lv_if_lt (tgt := 82) F.1 F.2.1 dX1_doorThrough_66 (by decide) (fun c6 => ?_) (fun c6 => ?_)
    · replace h := zi_t c6 h
      exact bX1_doorThrough_82 hst F hA E   hr (lv_sub hl [] rfl) h
    · replace h := zi_f c6 h
      refine lv_iload_n F.1 F.2.1 dX1_doorThrough_69 rfl (lv_at hl 3 rfl) ?_
      refine lv_aload_n F.1 F.2.1 dX1_doorThrough_70 rfl (lv_at hl 1 rfl) ?_
      refine gf1_58 F hx0 hr dX1_doorThrough_71 ?_
      refine lv_iload_n F.1 F.2.1 dX1_doorThrough_74 rfl (lv_at hl 2 rfl) ?_
      replace h := zk_some h
      obtain ⟨c7, h⟩ := h
      refine zr_aaldv (k := 119) (by decide) rfl rfl rfl F (zal_a F hx0 (j := 11) rfl) hr dX1_doorThrough_75 c7 (fun y8 ey8 => ?_)
      replace h := zl_sub ey8 h
      have hy8 := zal_q hr (zal_a F hx0 (j := 11) rfl) rfl ey8
      clear ey8
      replace h := zd_some h
      obtain ⟨a9, rfl, h⟩ := h
      refine gf1_160 F (hy8 _ rfl) hr dX1_doorThrough_76 ?_
      refine lv_icmp_lt (tgt := 86) F.1 F.2.1 dX1_doorThrough_79 (by decide) (fun c10 => ?_) (fun c10 => ?_)
      · replace h := zi_t c10 h
        refine lv_aload_n F.1 F.2.1 dX1_doorThrough_86 rfl (lv_at hl 1 rfl) ?_
        refine gf1_58 F hx0 hr dX1_doorThrough_87 ?_
        refine lv_iload_n F.1 F.2.1 dX1_doorThrough_90 rfl (lv_at hl 0 rfl) ?_
        replace h := zk_some h
        obtain ⟨c11, h⟩ := h
        refine zr_aaldv (k := 119) (by decide) rfl rfl rfl F (zal_a F hx0 (j := 11) rfl) hr dX1_doorThrough_91 c11 (fun y12 ey12 => ?_)
        replace h := zl_sub ey12 h
        have hy12 := zal_q hr (zal_a F hx0 (j := 11) rfl) rfl ey12
        clear ey12
        obtain ⟨rfl, rfl⟩ := zret h
        exact E _ _ _ _ dX1_doorThrough_92 hy12 hr
      · replace h := zi_f c10 h
        exact bX1_doorThrough_82 hst F hA E   hr (lv_sub hl [] rfl) h
  · replace h := zi_f c1 h
    refine lv_aload_n F.1 F.2.1 dX1_doorThrough_13 rfl (lv_at hl 0 rfl) ?_
    refine gf1_58 F hx0 hr dX1_doorThrough_14 ?_
    refine lv_iload_n F.1 F.2.1 dX1_doorThrough_17 rfl (lv_at hl 3 rfl) ?_
    replace h := zk_some h
    obtain ⟨c13, h⟩ := h
    refine zr_aaldv (k := 119) (by decide) rfl rfl rfl F (zal_a F hx0 (j := 11) rfl) hr dX1_doorThrough_18 c13 (fun y14 ey14 => ?_)
    replace h := zl_sub ey14 h
    have hy14 := zal_q hr (zal_a F hx0 (j := 11) rfl) rfl ey14
    clear ey14
    refine zr_astore (lv' := [(4, va_rf (Option.map (B 2) y14)), (0, .ref (B 1 x0)), (1, .int x1), (2, .int x2), (3, .int x3)]) F.1 F.2.1 dX1_doorThrough_19 hl (by decide) rfl (fun ls hl => ?_)
    refine zr_aload F.1 F.2.1 dX1_doorThrough_21 (lv_at hl 0 rfl) ?_
    replace h := zd_some h
    obtain ⟨a15, rfl, h⟩ := h
    refine gf1_130 F (hy14 _ rfl) hr dX1_doorThrough_23 ?_
    refine lv_iconst (v := (2 : Int32)) F.1 F.2.1 dX1_doorThrough_26 (by decide) ?_
    refine lv_icmp_ne (tgt := 54) F.1 F.2.1 dX1_doorThrough_27 (by decide) (fun c16 => ?_) (fun c16 => ?_)
    · replace h := zi_t c16 h
      exact bX1_doorThrough_54 hst F hA E hK4 x0 x1 x2 x3 hx0 hr (lv_sub hl [1, 2, 3, 4] rfl) h
    · replace h := zi_f (fun q => q c16) h
      refine lv_aload F.1 F.2.1 dX1_doorThrough_30 (lv_at hl 0 rfl) ?_
      refine gf1_150 F (hy14 _ rfl) hr dX1_doorThrough_32 ?_
      refine lv_iload_n F.1 F.2.1 dX1_doorThrough_35 rfl (lv_at hl 2 rfl) ?_
      refine lv_icmp_ne (tgt := 54) F.1 F.2.1 dX1_doorThrough_36 (by decide) (fun c17 => ?_) (fun c17 => ?_)
      · replace h := zi_t c17 h
        exact bX1_doorThrough_54 hst F hA E hK4 x0 x1 x2 x3 hx0 hr (lv_sub hl [1, 2, 3, 4] rfl) h
      · replace h := zi_f (fun q => q c17) h
        refine lv_aload F.1 F.2.1 dX1_doorThrough_39 (lv_at hl 0 rfl) ?_
        refine gf1_140 F (hy14 _ rfl) hr dX1_doorThrough_41 (fun y18 ey18 => ?_)
        replace h := zl_sub ey18 h
        have hy18 := zal_g hr (hy14 _ rfl) (j := 12) rfl ey18
        clear ey18
        replace h := zd_some h
        obtain ⟨a19, rfl, h⟩ := h
        refine gf1_153 F (hy18 _ rfl) hr dX1_doorThrough_44 ?_
        refine lv_iconst (v := (3 : Int32)) F.1 F.2.1 dX1_doorThrough_47 (by decide) ?_
        refine lv_icmp_ne (tgt := 54) F.1 F.2.1 dX1_doorThrough_48 (by decide) (fun c20 => ?_) (fun c20 => ?_)
        · replace h := zi_t c20 h
          exact bX1_doorThrough_54 hst F hA E hK4 x0 x1 x2 x3 hx0 hr (lv_sub hl [1, 2, 3, 4] rfl) h
        · replace h := zi_f (fun q => q c20) h
          obtain ⟨v21, ev21⟩ : ∃ y : Int32, y = (x2 + 1) := ⟨_, rfl⟩
          replace h := zl_sub ev21 h
          refine lv_iinc (v := v21) (lv' := [(2, .int v21), (4, .ref (B 2 a15)), (0, .ref (B 1 x0)), (1, .int x1), (3, .int x3)]) F.1 F.2.1 dX1_doorThrough_51 hl (k := 3) rfl (by rw [ev21]; rfl) (by decide) rfl (fun ls hl => ?_)
          exact bX1_doorThrough_54 hst F hA E hK4 x0 x1 v21 x3 hx0 hr (lv_sub hl [2, 3, 0, 4] rfl) h
theorem lX1_doorThrough_4 (hst : zSt B ids) (F : zFx p m c cX1_doorThrough 5 s args RX1 D cy B ids A) (hA : ∀ q : Nat, s.heap.size ≤ q → A q) {r : Option Nat} {z' : St} (E : zEnd p l e rmX1_doorThrough s m args below meth c cX1_doorThrough D cy B ids A Q (some (va_rf (r.map (B 2)))) z' .areturn (∀ i, r = some i → (2, i) ∈ ids)) {N : Nat}  : ∀ (n : Nat) (x0 : Nat) (x1 : Int32) (x2 : Int32) (x3 : Int32) (hx0 : (1, x0) ∈ ids) {z : St} {H : Heap} {locs : List Loc} {ls : Array Slot} (hr : zRep D cy B ids A s.heap z H locs) (hl : lv_has ls 5 [(0, .ref (B 1 x0)), (1, .int x1), (2, .int x2), (3, .int x3)]), fX1_doorThrough_4 N  n x0 x1 x2 x3 z = some (r, z') → W p l e rmX1_doorThrough s m args below meth c H locs 0 0 Q (F0 m 4 ls []) := by
  intro n
  induction n with
  | zero => intro x0 x1 x2 x3 hx0 z H locs ls hr hl h; cases h
  | succ n ih => intro x0 x1 x2 x3 hx0 z H locs ls hr hl h; exact bX1_doorThrough_4 hst F hA E ih x0 x1 x2 x3 hx0 hr hl h
def fX1_doorThrough (N : Nat)  (x0 : Nat) (x1 : Int32) (z : St) : Option (Option Nat × St) := fX1_doorThrough_4 N N x0 x1 (0 : Int32) (0 : Int32) z
set_option maxHeartbeats 4000000 in
set_option maxRecDepth 100000 in
theorem bX1_doorThrough_0 (hst : zSt B ids) (F : zFx p m c cX1_doorThrough 5 s args RX1 D cy B ids A) (hA : ∀ q : Nat, s.heap.size ≤ q → A q) {r : Option Nat} {z' : St} (E : zEnd p l e rmX1_doorThrough s m args below meth c cX1_doorThrough D cy B ids A Q (some (va_rf (r.map (B 2)))) z' .areturn (∀ i, r = some i → (2, i) ∈ ids)) {N : Nat}  (x0 : Nat) (x1 : Int32) (hx0 : (1, x0) ∈ ids) {z : St} {H : Heap} {locs : List Loc} {ls : Array Slot} (hr : zRep D cy B ids A s.heap z H locs) (hl : lv_has ls 5 [(0, .ref (B 1 x0)), (1, .int x1)]) (h : fX1_doorThrough N x0 x1 z = some (r, z')) : W p l e rmX1_doorThrough s m args below meth c H locs 0 0 Q (F0 m 0 ls []) := by
  unfold fX1_doorThrough at h
  refine lv_iconst (v := (0 : Int32)) F.1 F.2.1 dX1_doorThrough_0 (by decide) ?_
  refine lv_istore_n (lv' := [(2, .int (0 : Int32)), (0, .ref (B 1 x0)), (1, .int x1)]) F.1 F.2.1 dX1_doorThrough_1 rfl hl (by decide) rfl (fun ls hl => ?_)
  refine lv_iconst (v := (0 : Int32)) F.1 F.2.1 dX1_doorThrough_2 (by decide) ?_
  refine lv_istore_n (lv' := [(3, .int (0 : Int32)), (2, .int (0 : Int32)), (0, .ref (B 1 x0)), (1, .int x1)]) F.1 F.2.1 dX1_doorThrough_3 rfl hl (by decide) rfl (fun ls hl => ?_)
  exact lX1_doorThrough_4 hst F hA E  _ x0 x1 (0 : Int32) (0 : Int32) hx0 hr (lv_sub hl [2, 3, 1, 0] rfl) h
end SX1_doorThrough
set_option maxRecDepth 100000 in
theorem okX1_doorThrough (l : Launch) (D : va_G) (cy : Nat → ClassId) (B : Nat → Nat → Nat) (ids : List (Nat × Nat)) (hst : zSt B ids) (N : Nat) (x0 : Nat) (hx0 : (1, x0) ∈ ids) (x1 : Int32) {z : St} {r : Option Nat} {z' : St} (hW : zWf ids z) (h : fX1_doorThrough N x0 x1 z = some (r, z')) : zM l yX1_doorThrough (zws yX1_doorThrough cX1_doorThrough 5 (some (.object "WholeInternet$Door"))) rmX1_doorThrough D cy B ids [.ref (B 1 x0), .int x1] (some (va_rf (r.map (B 2)))) (∀ i, r = some i → (2, i) ∈ ids) z z' :=
  zM_of hst hW (by decide +kernel) (Nat.le_of_ble_eq_true rfl) (fun p e s m args below meth c A ls F hA hret hlocks hr hl => bX1_doorThrough_0 hst F hA (zEnd_r F hret hlocks) x0 x1 hx0 hr hl h)
abbrev rmX2_setUnused : Room := { frames := 0, cells := 0, slots := 0, locals := 0 }
theorem hdX2_setUnused : yX2_setUnused.cls ≠ "java/lang/invoke/MethodHandle" ∧ yX2_setUnused.cls ≠ "java/lang/invoke/VarHandle" ∧ (parseMethodDescriptor yX2_setUnused.desc).map (fun d => d.parameters.length) = some 0 := by decide +kernel
section SX2_setUnused
variable {p : Program} {l : Launch} {e : Env} {s : State} {m : MethodId} {args : Array Value} {below : List Frame} {meth : Method} {c : Code} {Q : State → Prop} {D : va_G} {cy : Nat → ClassId} {B : Nat → Nat → Nat} {ids : List (Nat × Nat)} {A : Nat → Prop}
def fX2_setUnused (N : Nat)  (x0 : Nat) (z : St) : Option (Int32 × St) := zl (zsI z 2 0 x0 (0 : Int32)) fun z1 => zl (zsI z1 2 1 x0 (0 : Int32)) fun z2 => zl (zsI z2 2 2 x0 (0 : Int32)) fun z3 => zl (zsI z3 2 3 x0 (0 : Int32)) fun z4 => zl (zsI z4 2 5 x0 (-1 : Int32)) fun z5 => zl (zsI z5 2 6 x0 (0 : Int32)) fun z6 => some (0, z6)
set_option maxHeartbeats 4000000 in
set_option maxRecDepth 100000 in
theorem bX2_setUnused_0 (hst : zSt B ids) (F : zFx p m c cX2_setUnused 1 s args RX2 D cy B ids A) (hA : ∀ q : Nat, s.heap.size ≤ q → A q) {r : Int32} {z' : St} (E : zEnd p l e rmX2_setUnused s m args below meth c cX2_setUnused D cy B ids A Q none z' .return_ True) {N : Nat}  (x0 : Nat) (hx0 : (2, x0) ∈ ids) {z : St} {H : Heap} {locs : List Loc} {ls : Array Slot} (hr : zRep D cy B ids A s.heap z H locs) (hl : lv_has ls 1 [(0, .ref (B 2 x0))]) (h : fX2_setUnused N x0 z = some (r, z')) : W p l e rmX2_setUnused s m args below meth c H locs 0 0 Q (F0 m 0 ls []) := by
  unfold fX2_setUnused at h
  refine lv_aload_n F.1 F.2.1 dX2_setUnused_0 rfl (lv_at hl 0 rfl) ?_
  refine lv_iconst (v := (0 : Int32)) F.1 F.2.1 dX2_setUnused_1 (by decide) ?_
  refine pf2_25 F hx0 hr dX2_setUnused_2 (0 : Int32) (fun H locs z1 ez1 hr => ?_)
  replace h := zl_sub ez1 h
  clear ez1
  refine lv_aload_n F.1 F.2.1 dX2_setUnused_5 rfl (lv_at hl 0 rfl) ?_
  refine lv_iconst (v := (0 : Int32)) F.1 F.2.1 dX2_setUnused_6 (by decide) ?_
  refine pf2_28 F hx0 hr dX2_setUnused_7 (0 : Int32) (fun H locs z2 ez2 hr => ?_)
  replace h := zl_sub ez2 h
  clear ez2
  refine lv_aload_n F.1 F.2.1 dX2_setUnused_10 rfl (lv_at hl 0 rfl) ?_
  refine lv_iconst (v := (0 : Int32)) F.1 F.2.1 dX2_setUnused_11 (by decide) ?_
  refine pf2_31 F hx0 hr dX2_setUnused_12 (0 : Int32) (fun H locs z3 ez3 hr => ?_)
  replace h := zl_sub ez3 h
  clear ez3
  refine lv_aload_n F.1 F.2.1 dX2_setUnused_15 rfl (lv_at hl 0 rfl) ?_
  refine lv_iconst (v := (0 : Int32)) F.1 F.2.1 dX2_setUnused_16 (by decide) ?_
  refine pf2_34 F hx0 hr dX2_setUnused_17 (0 : Int32) (fun H locs z4 ez4 hr => ?_)
  replace h := zl_sub ez4 h
  clear ez4
  refine lv_aload_n F.1 F.2.1 dX2_setUnused_20 rfl (lv_at hl 0 rfl) ?_
  refine lv_iconst (v := (-1 : Int32)) F.1 F.2.1 dX2_setUnused_21 (by decide) ?_
  refine pf2_9 F hx0 hr dX2_setUnused_22 (-1 : Int32) (fun H locs z5 ez5 hr => ?_)
  replace h := zl_sub ez5 h
  clear ez5
  refine lv_aload_n F.1 F.2.1 dX2_setUnused_25 rfl (lv_at hl 0 rfl) ?_
  refine lv_iconst (v := (0 : Int32)) F.1 F.2.1 dX2_setUnused_26 (by decide) ?_
  refine pf2_37 F hx0 hr dX2_setUnused_27 (0 : Int32) (by decide) (fun H locs z6 ez6 hr => ?_)
  replace h := zl_sub ez6 h
  clear ez6
  obtain ⟨rfl, rfl⟩ := zret h
  exact E _ _ _ _ dX2_setUnused_30 trivial hr
end SX2_setUnused
set_option maxRecDepth 100000 in
theorem okX2_setUnused (l : Launch) (D : va_G) (cy : Nat → ClassId) (B : Nat → Nat → Nat) (ids : List (Nat × Nat)) (hst : zSt B ids) (N : Nat) (x0 : Nat) (hx0 : (2, x0) ∈ ids) {z : St} {r : Int32} {z' : St} (hW : zWf ids z) (h : fX2_setUnused N x0 z = some (r, z')) : zM l yX2_setUnused (zws yX2_setUnused cX2_setUnused 1 none) rmX2_setUnused D cy B ids [.ref (B 2 x0)] none True z z' :=
  zM_of hst hW (by decide +kernel) (Nat.le_of_ble_eq_true rfl) (fun p e s m args below meth c A ls F hA hret hlocks hr hl => bX2_setUnused_0 hst F hA (zEnd_v F hret hlocks) x0 hx0 hr hl h)
abbrev rmX2_startListening : Room := { frames := 0, cells := 0, slots := 0, locals := 0 }
theorem hdX2_startListening : yX2_startListening.cls ≠ "java/lang/invoke/MethodHandle" ∧ yX2_startListening.cls ≠ "java/lang/invoke/VarHandle" ∧ (parseMethodDescriptor yX2_startListening.desc).map (fun d => d.parameters.length) = some 2 := by decide +kernel
section SX2_startListening
variable {p : Program} {l : Launch} {e : Env} {s : State} {m : MethodId} {args : Array Value} {below : List Frame} {meth : Method} {c : Code} {Q : State → Prop} {D : va_G} {cy : Nat → ClassId} {B : Nat → Nat → Nat} {ids : List (Nat × Nat)} {A : Nat → Prop}
def fX2_startListening (N : Nat)  (x0 : Nat) (x1 : Int32) (x2 : Int32) (z : St) : Option (Int32 × St) := zl (zsI z 2 0 x0 (1 : Int32)) fun z1 => zl (zsI z1 2 1 x0 x1) fun z2 => zl (zsI z2 2 4 x0 x2) fun z3 => some (0, z3)
set_option maxHeartbeats 4000000 in
set_option maxRecDepth 100000 in
theorem bX2_startListening_0 (hst : zSt B ids) (F : zFx p m c cX2_startListening 3 s args RX2 D cy B ids A) (hA : ∀ q : Nat, s.heap.size ≤ q → A q) {r : Int32} {z' : St} (E : zEnd p l e rmX2_startListening s m args below meth c cX2_startListening D cy B ids A Q none z' .return_ True) {N : Nat}  (x0 : Nat) (x1 : Int32) (x2 : Int32) (hx0 : (2, x0) ∈ ids) {z : St} {H : Heap} {locs : List Loc} {ls : Array Slot} (hr : zRep D cy B ids A s.heap z H locs) (hl : lv_has ls 3 [(0, .ref (B 2 x0)), (1, .int x1), (2, .int x2)]) (h : fX2_startListening N x0 x1 x2 z = some (r, z')) : W p l e rmX2_startListening s m args below meth c H locs 0 0 Q (F0 m 0 ls []) := by
  unfold fX2_startListening at h
  refine lv_aload_n F.1 F.2.1 dX2_startListening_0 rfl (lv_at hl 0 rfl) ?_
  refine lv_iconst (v := (1 : Int32)) F.1 F.2.1 dX2_startListening_1 (by decide) ?_
  refine pf2_25 F hx0 hr dX2_startListening_2 (1 : Int32) (fun H locs z1 ez1 hr => ?_)
  replace h := zl_sub ez1 h
  clear ez1
  refine lv_aload_n F.1 F.2.1 dX2_startListening_5 rfl (lv_at hl 0 rfl) ?_
  refine lv_iload_n F.1 F.2.1 dX2_startListening_6 rfl (lv_at hl 1 rfl) ?_
  refine pf2_28 F hx0 hr dX2_startListening_7 x1 (fun H locs z2 ez2 hr => ?_)
  replace h := zl_sub ez2 h
  clear ez2
  refine lv_aload_n F.1 F.2.1 dX2_startListening_10 rfl (lv_at hl 0 rfl) ?_
  refine lv_iload_n F.1 F.2.1 dX2_startListening_11 rfl (lv_at hl 2 rfl) ?_
  refine pf2_41 F hx0 hr dX2_startListening_12 x2 (fun H locs z3 ez3 hr => ?_)
  replace h := zl_sub ez3 h
  clear ez3
  obtain ⟨rfl, rfl⟩ := zret h
  exact E _ _ _ _ dX2_startListening_15 trivial hr
end SX2_startListening
set_option maxRecDepth 100000 in
theorem okX2_startListening (l : Launch) (D : va_G) (cy : Nat → ClassId) (B : Nat → Nat → Nat) (ids : List (Nat × Nat)) (hst : zSt B ids) (N : Nat) (x0 : Nat) (hx0 : (2, x0) ∈ ids) (x1 : Int32) (x2 : Int32) {z : St} {r : Int32} {z' : St} (hW : zWf ids z) (h : fX2_startListening N x0 x1 x2 z = some (r, z')) : zM l yX2_startListening (zws yX2_startListening cX2_startListening 3 none) rmX2_startListening D cy B ids [.ref (B 2 x0), .int x1, .int x2] none True z z' :=
  zM_of hst hW (by decide +kernel) (Nat.le_of_ble_eq_true rfl) (fun p e s m args below meth c A ls F hA hret hlocks hr hl => bX2_startListening_0 hst F hA (zEnd_v F hret hlocks) x0 x1 x2 hx0 hr hl h)
abbrev rmX2_giveEnd : Room := { frames := 0, cells := 0, slots := 0, locals := 0 }
theorem hdX2_giveEnd : yX2_giveEnd.cls ≠ "java/lang/invoke/MethodHandle" ∧ yX2_giveEnd.cls ≠ "java/lang/invoke/VarHandle" ∧ (parseMethodDescriptor yX2_giveEnd.desc).map (fun d => d.parameters.length) = some 3 := by decide +kernel
section SX2_giveEnd
variable {p : Program} {l : Launch} {e : Env} {s : State} {m : MethodId} {args : Array Value} {below : List Frame} {meth : Method} {c : Code} {Q : State → Prop} {D : va_G} {cy : Nat → ClassId} {B : Nat → Nat → Nat} {ids : List (Nat × Nat)} {A : Nat → Prop}
def fX2_giveEnd (N : Nat)  (x0 : Nat) (x1 : Int32) (x2 : Int32) (x3 : Int32) (z : St) : Option (Int32 × St) := zl (zsI z 2 0 x0 (2 : Int32)) fun z1 => zl (zsI z1 2 1 x0 x1) fun z2 => zl (zsI z2 2 2 x0 x2) fun z3 => zl (zsI z3 2 3 x0 x3) fun z4 => zl (zsI z4 2 5 x0 (-1 : Int32)) fun z5 => zl (zsI z5 2 6 x0 (0 : Int32)) fun z6 => zl (zsI z6 2 7 x0 (0 : Int32)) fun z7 => zl (zsI z7 2 8 x0 (0 : Int32)) fun z8 => zl (zsI z8 2 9 x0 (1 : Int32)) fun z9 => zl (zsI z9 2 10 x0 (0 : Int32)) fun z10 => zl (zsI z10 2 11 x0 (0 : Int32)) fun z11 => some (0, z11)
set_option maxHeartbeats 4000000 in
set_option maxRecDepth 100000 in
theorem bX2_giveEnd_0 (hst : zSt B ids) (F : zFx p m c cX2_giveEnd 4 s args RX2 D cy B ids A) (hA : ∀ q : Nat, s.heap.size ≤ q → A q) {r : Int32} {z' : St} (E : zEnd p l e rmX2_giveEnd s m args below meth c cX2_giveEnd D cy B ids A Q none z' .return_ True) {N : Nat}  (x0 : Nat) (x1 : Int32) (x2 : Int32) (x3 : Int32) (hx0 : (2, x0) ∈ ids) {z : St} {H : Heap} {locs : List Loc} {ls : Array Slot} (hr : zRep D cy B ids A s.heap z H locs) (hl : lv_has ls 4 [(0, .ref (B 2 x0)), (1, .int x1), (2, .int x2), (3, .int x3)]) (h : fX2_giveEnd N x0 x1 x2 x3 z = some (r, z')) : W p l e rmX2_giveEnd s m args below meth c H locs 0 0 Q (F0 m 0 ls []) := by
  unfold fX2_giveEnd at h
  refine lv_aload_n F.1 F.2.1 dX2_giveEnd_0 rfl (lv_at hl 0 rfl) ?_
  refine lv_iconst (v := (2 : Int32)) F.1 F.2.1 dX2_giveEnd_1 (by decide) ?_
  refine pf2_25 F hx0 hr dX2_giveEnd_2 (2 : Int32) (fun H locs z1 ez1 hr => ?_)
  replace h := zl_sub ez1 h
  clear ez1
  refine lv_aload_n F.1 F.2.1 dX2_giveEnd_5 rfl (lv_at hl 0 rfl) ?_
  refine lv_iload_n F.1 F.2.1 dX2_giveEnd_6 rfl (lv_at hl 1 rfl) ?_
  refine pf2_28 F hx0 hr dX2_giveEnd_7 x1 (fun H locs z2 ez2 hr => ?_)
  replace h := zl_sub ez2 h
  clear ez2
  refine lv_aload_n F.1 F.2.1 dX2_giveEnd_10 rfl (lv_at hl 0 rfl) ?_
  refine lv_iload_n F.1 F.2.1 dX2_giveEnd_11 rfl (lv_at hl 2 rfl) ?_
  refine pf2_31 F hx0 hr dX2_giveEnd_12 x2 (fun H locs z3 ez3 hr => ?_)
  replace h := zl_sub ez3 h
  clear ez3
  refine lv_aload_n F.1 F.2.1 dX2_giveEnd_15 rfl (lv_at hl 0 rfl) ?_
  refine lv_iload_n F.1 F.2.1 dX2_giveEnd_16 rfl (lv_at hl 3 rfl) ?_
  refine pf2_34 F hx0 hr dX2_giveEnd_17 x3 (fun H locs z4 ez4 hr => ?_)
  replace h := zl_sub ez4 h
  clear ez4
  refine lv_aload_n F.1 F.2.1 dX2_giveEnd_20 rfl (lv_at hl 0 rfl) ?_
  refine lv_iconst (v := (-1 : Int32)) F.1 F.2.1 dX2_giveEnd_21 (by decide) ?_
  refine pf2_9 F hx0 hr dX2_giveEnd_22 (-1 : Int32) (fun H locs z5 ez5 hr => ?_)
  replace h := zl_sub ez5 h
  clear ez5
  refine lv_aload_n F.1 F.2.1 dX2_giveEnd_25 rfl (lv_at hl 0 rfl) ?_
  refine lv_iconst (v := (0 : Int32)) F.1 F.2.1 dX2_giveEnd_26 (by decide) ?_
  refine pf2_37 F hx0 hr dX2_giveEnd_27 (0 : Int32) (by decide) (fun H locs z6 ez6 hr => ?_)
  replace h := zl_sub ez6 h
  clear ez6
  refine lv_aload_n F.1 F.2.1 dX2_giveEnd_30 rfl (lv_at hl 0 rfl) ?_
  refine lv_iconst (v := (0 : Int32)) F.1 F.2.1 dX2_giveEnd_31 (by decide) ?_
  refine pf2_44 F hx0 hr dX2_giveEnd_32 (0 : Int32) (by decide) (fun H locs z7 ez7 hr => ?_)
  replace h := zl_sub ez7 h
  clear ez7
  refine lv_aload_n F.1 F.2.1 dX2_giveEnd_35 rfl (lv_at hl 0 rfl) ?_
  refine lv_iconst (v := (0 : Int32)) F.1 F.2.1 dX2_giveEnd_36 (by decide) ?_
  refine pf2_47 F hx0 hr dX2_giveEnd_37 (0 : Int32) (by decide) (fun H locs z8 ez8 hr => ?_)
  replace h := zl_sub ez8 h
  clear ez8
  refine lv_aload_n F.1 F.2.1 dX2_giveEnd_40 rfl (lv_at hl 0 rfl) ?_
  refine lv_iconst (v := (1 : Int32)) F.1 F.2.1 dX2_giveEnd_41 (by decide) ?_
  refine pf2_15 F hx0 hr dX2_giveEnd_42 (1 : Int32) (fun H locs z9 ez9 hr => ?_)
  replace h := zl_sub ez9 h
  clear ez9
  refine lv_aload_n F.1 F.2.1 dX2_giveEnd_45 rfl (lv_at hl 0 rfl) ?_
  refine lv_iconst (v := (0 : Int32)) F.1 F.2.1 dX2_giveEnd_46 (by decide) ?_
  refine pf2_50 F hx0 hr dX2_giveEnd_47 (0 : Int32) (fun H locs z10 ez10 hr => ?_)
  replace h := zl_sub ez10 h
  clear ez10
  refine lv_aload_n F.1 F.2.1 dX2_giveEnd_50 rfl (lv_at hl 0 rfl) ?_
  refine lv_iconst (v := (0 : Int32)) F.1 F.2.1 dX2_giveEnd_51 (by decide) ?_
  refine pf2_53 F hx0 hr dX2_giveEnd_52 (0 : Int32) (fun H locs z11 ez11 hr => ?_)
  replace h := zl_sub ez11 h
  clear ez11
  obtain ⟨rfl, rfl⟩ := zret h
  exact E _ _ _ _ dX2_giveEnd_55 trivial hr
end SX2_giveEnd
set_option maxRecDepth 100000 in
theorem okX2_giveEnd (l : Launch) (D : va_G) (cy : Nat → ClassId) (B : Nat → Nat → Nat) (ids : List (Nat × Nat)) (hst : zSt B ids) (N : Nat) (x0 : Nat) (hx0 : (2, x0) ∈ ids) (x1 : Int32) (x2 : Int32) (x3 : Int32) {z : St} {r : Int32} {z' : St} (hW : zWf ids z) (h : fX2_giveEnd N x0 x1 x2 x3 z = some (r, z')) : zM l yX2_giveEnd (zws yX2_giveEnd cX2_giveEnd 4 none) rmX2_giveEnd D cy B ids [.ref (B 2 x0), .int x1, .int x2, .int x3] none True z z' :=
  zM_of hst hW (by decide +kernel) (Nat.le_of_ble_eq_true rfl) (fun p e s m args below meth c A ls F hA hret hlocks hr hl => bX2_giveEnd_0 hst F hA (zEnd_v F hret hlocks) x0 x1 x2 x3 hx0 hr hl h)
abbrev rmX2_takesBytes : Room := { frames := 1, cells := 0, slots := 0, locals := 20 }
theorem hdX2_takesBytes : yX2_takesBytes.cls ≠ "java/lang/invoke/MethodHandle" ∧ yX2_takesBytes.cls ≠ "java/lang/invoke/VarHandle" ∧ (parseMethodDescriptor yX2_takesBytes.desc).map (fun d => d.parameters.length) = some 0 := by decide +kernel
theorem hroX2_takesBytes_X3_isDead : rmX3_isDead.frames + 1 ≤ rmX2_takesBytes.frames ∧ 8 + (1 + 11) + rmX3_isDead.locals ≤ rmX2_takesBytes.locals := by decide
section SX2_takesBytes
variable {p : Program} {l : Launch} {e : Env} {s : State} {m : MethodId} {args : Array Value} {below : List Frame} {meth : Method} {c : Code} {Q : State → Prop} {D : va_G} {cy : Nat → ClassId} {B : Nat → Nat → Nat} {ids : List (Nat × Nat)} {A : Nat → Prop}
def fX2_takesBytes (N : Nat)  (x0 : Nat) (z : St) : Option (Int32 × St) := if ¬ (zgI z 2 0 x0) = (2 : Int32) then (some ((0 : Int32), z)) else (zl (zgR z 2 12 x0) fun y2 => zd y2 fun a3 => zl (zgR z 3 16 a3) fun y4 => zd y4 fun a5 => if ¬ (zgI z 6 8 a5) = 0 then (some ((0 : Int32), z)) else (zl (zgR z 2 12 x0) fun y7 => zd y7 fun a8 => if (zgI z 3 0 a8) = (1 : Int32) then (some ((0 : Int32), z)) else (zl (zgR z 2 12 x0) fun y10 => zd y10 fun a11 => zc (fX3_isDead N a11 z) fun r12 z13 => if ¬ r12 = 0 then (some ((0 : Int32), z13)) else (some ((1 : Int32), z13)))))
set_option maxHeartbeats 4000000 in
set_option maxRecDepth 100000 in
theorem bX2_takesBytes_0 (hst : zSt B ids) (F : zFx p m c cX2_takesBytes 1 s args RX2 D cy B ids A) (hA : ∀ q : Nat, s.heap.size ≤ q → A q) {r : Int32} {z' : St} (E : zEnd p l e rmX2_takesBytes s m args below meth c cX2_takesBytes D cy B ids A Q (some (.int r)) z' .ireturn (r = 0 ∨ r = 1)) {N : Nat}  (x0 : Nat) (hx0 : (2, x0) ∈ ids) {z : St} {H : Heap} {locs : List Loc} {ls : Array Slot} (hr : zRep D cy B ids A s.heap z H locs) (hl : lv_has ls 1 [(0, .ref (B 2 x0))]) (h : fX2_takesBytes N x0 z = some (r, z')) : W p l e rmX2_takesBytes s m args below meth c H locs 0 0 Q (F0 m 0 ls []) := by
  unfold fX2_takesBytes at h
  refine lv_aload_n F.1 F.2.1 dX2_takesBytes_0 rfl (lv_at hl 0 rfl) ?_
  refine gf2_25 F hx0 hr dX2_takesBytes_1 ?_
  refine lv_iconst (v := (2 : Int32)) F.1 F.2.1 dX2_takesBytes_4 (by decide) ?_
  refine lv_icmp_ne (tgt := 46) F.1 F.2.1 dX2_takesBytes_5 (by decide) (fun c1 => ?_) (fun c1 => ?_)
  · replace h := zi_t c1 h
    refine lv_iconst (v := (0 : Int32)) F.1 F.2.1 dX2_takesBytes_46 (by decide) ?_
    obtain ⟨rfl, rfl⟩ := zret h
    exact E _ _ _ _ dX2_takesBytes_47 (by decide) hr
  · replace h := zi_f (fun q => q c1) h
    refine lv_aload_n F.1 F.2.1 dX2_takesBytes_8 rfl (lv_at hl 0 rfl) ?_
    refine gf2_21 F hx0 hr dX2_takesBytes_9 (fun y2 ey2 => ?_)
    replace h := zl_sub ey2 h
    have hy2 := zal_g hr hx0 (j := 12) rfl ey2
    clear ey2
    replace h := zd_some h
    obtain ⟨a3, rfl, h⟩ := h
    refine gf2_56 F (hy2 _ rfl) hr dX2_takesBytes_12 (fun y4 ey4 => ?_)
    replace h := zl_sub ey4 h
    have hy4 := zal_g hr (hy2 _ rfl) (j := 16) rfl ey4
    clear ey4
    replace h := zd_some h
    obtain ⟨a5, rfl, h⟩ := h
    refine gf2_60 F (hy4 _ rfl) hr dX2_takesBytes_15 ?_
    refine lv_if_ne (tgt := 46) F.1 F.2.1 dX2_takesBytes_18 (by decide) (fun c6 => ?_) (fun c6 => ?_)
    · replace h := zi_t c6 h
      refine lv_iconst (v := (0 : Int32)) F.1 F.2.1 dX2_takesBytes_46 (by decide) ?_
      obtain ⟨rfl, rfl⟩ := zret h
      exact E _ _ _ _ dX2_takesBytes_47 (by decide) hr
    · replace h := zi_f (fun q => q c6) h
      refine lv_aload_n F.1 F.2.1 dX2_takesBytes_21 rfl (lv_at hl 0 rfl) ?_
      refine gf2_21 F hx0 hr dX2_takesBytes_22 (fun y7 ey7 => ?_)
      replace h := zl_sub ey7 h
      have hy7 := zal_g hr hx0 (j := 12) rfl ey7
      clear ey7
      replace h := zd_some h
      obtain ⟨a8, rfl, h⟩ := h
      refine gf2_65 F (hy7 _ rfl) hr dX2_takesBytes_25 ?_
      refine lv_iconst (v := (1 : Int32)) F.1 F.2.1 dX2_takesBytes_28 (by decide) ?_
      refine lv_icmp_eq (tgt := 46) F.1 F.2.1 dX2_takesBytes_29 (by decide) (fun c9 => ?_) (fun c9 => ?_)
      · replace h := zi_t c9 h
        refine lv_iconst (v := (0 : Int32)) F.1 F.2.1 dX2_takesBytes_46 (by decide) ?_
        obtain ⟨rfl, rfl⟩ := zret h
        exact E _ _ _ _ dX2_takesBytes_47 (by decide) hr
      · replace h := zi_f c9 h
        refine lv_aload_n F.1 F.2.1 dX2_takesBytes_32 rfl (lv_at hl 0 rfl) ?_
        refine gf2_21 F hx0 hr dX2_takesBytes_33 (fun y10 ey10 => ?_)
        replace h := zl_sub ey10 h
        have hy10 := zal_g hr hx0 (j := 12) rfl ey10
        clear ey10
        replace h := zd_some h
        obtain ⟨a11, rfl, h⟩ := h
        replace h := zc_some h
        obtain ⟨r12, z13, hc14, h⟩ := h
        refine zr_calli (zrun_VN (As := []) (rest := []) zn_1739 zq_1227 zs_X3_isDead zq_1228 zq_13 hdX3_isDead (by decide) (T := TX3) (N := 19) rfl (okX3_isDead l D cy B ids hst N a11 (hy10 _ rfl) hr.2.2 hc14) F hr (hy10 _ rfl) hl.1 rfl (by decide) dX2_takesBytes_36 rfl rfl hroX2_takesBytes_X3_isDead ⟨Nat.zero_le _, Nat.zero_le _⟩) F hA hr (fun H locs hw15 hr => ?_)
        clear hc14
        refine lv_if_ne (tgt := 46) F.1 F.2.1 dX2_takesBytes_39 (by decide) (fun c16 => ?_) (fun c16 => ?_)
        · replace h := zi_t c16 h
          refine lv_iconst (v := (0 : Int32)) F.1 F.2.1 dX2_takesBytes_46 (by decide) ?_
          obtain ⟨rfl, rfl⟩ := zret h
          exact E _ _ _ _ dX2_takesBytes_47 (by decide) hr
        · replace h := zi_f (fun q => q c16) h
          refine lv_iconst (v := (1 : Int32)) F.1 F.2.1 dX2_takesBytes_42 (by decide) ?_
          refine lv_goto (tgt := 47) F.1 F.2.1 dX2_takesBytes_43 (by decide) ?_
          obtain ⟨rfl, rfl⟩ := zret h
          exact E _ _ _ _ dX2_takesBytes_47 (by decide) hr
end SX2_takesBytes
set_option maxRecDepth 100000 in
theorem okX2_takesBytes (l : Launch) (D : va_G) (cy : Nat → ClassId) (B : Nat → Nat → Nat) (ids : List (Nat × Nat)) (hst : zSt B ids) (N : Nat) (x0 : Nat) (hx0 : (2, x0) ∈ ids) {z : St} {r : Int32} {z' : St} (hW : zWf ids z) (h : fX2_takesBytes N x0 z = some (r, z')) : zM l yX2_takesBytes (zws yX2_takesBytes cX2_takesBytes 1 (some .boolean)) rmX2_takesBytes D cy B ids [.ref (B 2 x0)] (some (.int r)) (r = 0 ∨ r = 1) z z' :=
  zM_of hst hW (by decide +kernel) (Nat.le_of_ble_eq_true rfl) (fun p e s m args below meth c A ls F hA hret hlocks hr hl => bX2_takesBytes_0 hst F hA (zEnd_z F hret hlocks) x0 hx0 hr hl h)
abbrev rmX10_begin : Room := { frames := 0, cells := 0, slots := 0, locals := 0 }
theorem hdX10_begin : yX10_begin.cls ≠ "java/lang/invoke/MethodHandle" ∧ yX10_begin.cls ≠ "java/lang/invoke/VarHandle" ∧ (parseMethodDescriptor yX10_begin.desc).map (fun d => d.parameters.length) = some 0 := by decide +kernel
section SX10_begin
variable {p : Program} {l : Launch} {e : Env} {s : State} {m : MethodId} {args : Array Value} {below : List Frame} {meth : Method} {c : Code} {Q : State → Prop} {D : va_G} {cy : Nat → ClassId} {B : Nat → Nat → Nat} {ids : List (Nat × Nat)} {A : Nat → Prop}
def fX10_begin (N : Nat)  (x0 : Nat) (z : St) : Option (Int32 × St) := zl (zsI z 10 0 x0 (0 : Int32)) fun z1 => zl (zsI z1 10 1 x0 (0 : Int32)) fun z2 => zl (zsI z2 10 2 x0 (60 : Int32)) fun z3 => zl (zsI z3 10 3 x0 (0 : Int32)) fun z4 => zl (zsI z4 10 4 x0 (0 : Int32)) fun z5 => zl (zsI z5 10 5 x0 (0 : Int32)) fun z6 => zl (zsI z6 10 6 x0 (0 : Int32)) fun z7 => some (0, z7)
set_option maxHeartbeats 4000000 in
set_option maxRecDepth 100000 in
theorem bX10_begin_0 (hst : zSt B ids) (F : zFx p m c cX10_begin 1 s args RX10 D cy B ids A) (hA : ∀ q : Nat, s.heap.size ≤ q → A q) {r : Int32} {z' : St} (E : zEnd p l e rmX10_begin s m args below meth c cX10_begin D cy B ids A Q none z' .return_ True) {N : Nat}  (x0 : Nat) (hx0 : (10, x0) ∈ ids) {z : St} {H : Heap} {locs : List Loc} {ls : Array Slot} (hr : zRep D cy B ids A s.heap z H locs) (hl : lv_has ls 1 [(0, .ref (B 10 x0))]) (h : fX10_begin N x0 z = some (r, z')) : W p l e rmX10_begin s m args below meth c H locs 0 0 Q (F0 m 0 ls []) := by
  unfold fX10_begin at h
  refine lv_aload_n F.1 F.2.1 dX10_begin_0 rfl (lv_at hl 0 rfl) ?_
  refine lv_iconst (v := (0 : Int32)) F.1 F.2.1 dX10_begin_1 (by decide) ?_
  refine pf10_7 F hx0 hr dX10_begin_2 (0 : Int32) (fun H locs z1 ez1 hr => ?_)
  replace h := zl_sub ez1 h
  clear ez1
  refine lv_aload_n F.1 F.2.1 dX10_begin_5 rfl (lv_at hl 0 rfl) ?_
  refine lv_iconst (v := (0 : Int32)) F.1 F.2.1 dX10_begin_6 (by decide) ?_
  refine pf10_13 F hx0 hr dX10_begin_7 (0 : Int32) (fun H locs z2 ez2 hr => ?_)
  replace h := zl_sub ez2 h
  clear ez2
  refine lv_aload_n F.1 F.2.1 dX10_begin_10 rfl (lv_at hl 0 rfl) ?_
  refine lv_bipush (v := (60 : Int32)) F.1 F.2.1 dX10_begin_11 (by decide) ?_
  refine pf10_16 F hx0 hr dX10_begin_13 (60 : Int32) (fun H locs z3 ez3 hr => ?_)
  replace h := zl_sub ez3 h
  clear ez3
  refine lv_aload_n F.1 F.2.1 dX10_begin_16 rfl (lv_at hl 0 rfl) ?_
  refine lv_iconst (v := (0 : Int32)) F.1 F.2.1 dX10_begin_17 (by decide) ?_
  refine pf10_19 F hx0 hr dX10_begin_18 (0 : Int32) (fun H locs z4 ez4 hr => ?_)
  replace h := zl_sub ez4 h
  clear ez4
  refine lv_aload_n F.1 F.2.1 dX10_begin_21 rfl (lv_at hl 0 rfl) ?_
  refine lv_iconst (v := (0 : Int32)) F.1 F.2.1 dX10_begin_22 (by decide) ?_
  refine pf10_22 F hx0 hr dX10_begin_23 (0 : Int32) (fun H locs z5 ez5 hr => ?_)
  replace h := zl_sub ez5 h
  clear ez5
  refine lv_aload_n F.1 F.2.1 dX10_begin_26 rfl (lv_at hl 0 rfl) ?_
  refine lv_iconst (v := (0 : Int32)) F.1 F.2.1 dX10_begin_27 (by decide) ?_
  refine pf10_25 F hx0 hr dX10_begin_28 (0 : Int32) (by decide) (fun H locs z6 ez6 hr => ?_)
  replace h := zl_sub ez6 h
  clear ez6
  refine lv_aload_n F.1 F.2.1 dX10_begin_31 rfl (lv_at hl 0 rfl) ?_
  refine lv_iconst (v := (0 : Int32)) F.1 F.2.1 dX10_begin_32 (by decide) ?_
  refine pf10_29 F hx0 hr dX10_begin_33 (0 : Int32) (by decide) (fun H locs z7 ez7 hr => ?_)
  replace h := zl_sub ez7 h
  clear ez7
  obtain ⟨rfl, rfl⟩ := zret h
  exact E _ _ _ _ dX10_begin_36 trivial hr
end SX10_begin
set_option maxRecDepth 100000 in
theorem okX10_begin (l : Launch) (D : va_G) (cy : Nat → ClassId) (B : Nat → Nat → Nat) (ids : List (Nat × Nat)) (hst : zSt B ids) (N : Nat) (x0 : Nat) (hx0 : (10, x0) ∈ ids) {z : St} {r : Int32} {z' : St} (hW : zWf ids z) (h : fX10_begin N x0 z = some (r, z')) : zM l yX10_begin (zws yX10_begin cX10_begin 1 none) rmX10_begin D cy B ids [.ref (B 10 x0)] none True z z' :=
  zM_of hst hW (by decide +kernel) (Nat.le_of_ble_eq_true rfl) (fun p e s m args below meth c A ls F hA hret hlocks hr hl => bX10_begin_0 hst F hA (zEnd_v F hret hlocks) x0 hx0 hr hl h)
abbrev rmX4_begin : Room := { frames := 0, cells := 0, slots := 0, locals := 0 }
theorem hdX4_begin : yX4_begin.cls ≠ "java/lang/invoke/MethodHandle" ∧ yX4_begin.cls ≠ "java/lang/invoke/VarHandle" ∧ (parseMethodDescriptor yX4_begin.desc).map (fun d => d.parameters.length) = some 0 := by decide +kernel
section SX4_begin
variable {p : Program} {l : Launch} {e : Env} {s : State} {m : MethodId} {args : Array Value} {below : List Frame} {meth : Method} {c : Code} {Q : State → Prop} {D : va_G} {cy : Nat → ClassId} {B : Nat → Nat → Nat} {ids : List (Nat × Nat)} {A : Nat → Prop}
def fX4_begin_32b (N : Nat) (K32 : Nat → Int32 → St → Option (Int32 × St)) (x0 : Nat) (x1 : Int32) (z : St) : Option (Int32 × St) := if (2048 : Int32) ≤ x1 then (some (0, z)) else (zk x1 2048 <| zl (zsA z 121 x0 (Int32.toNatClampNeg x1) (vp_nar .boolean (0 : Int32))) fun z3 => zl (x1 + 1) fun v4 => K32 x0 v4 z3)
def fX4_begin_32 (N : Nat)  : Nat → Nat → Int32 → St → Option (Int32 × St)
  | 0 => fun _ _ _ => none
  | n + 1 => fX4_begin_32b N (fX4_begin_32 N  n)
set_option maxHeartbeats 4000000 in
set_option maxRecDepth 100000 in
theorem bX4_begin_32 (hst : zSt B ids) (F : zFx p m c cX4_begin 2 s args RX4 D cy B ids A) (hA : ∀ q : Nat, s.heap.size ≤ q → A q) {r : Int32} {z' : St} (E : zEnd p l e rmX4_begin s m args below meth c cX4_begin D cy B ids A Q none z' .return_ True) {N : Nat} {K32 : Nat → Int32 → St → Option (Int32 × St)} (hK32 : ∀ (x0 : Nat) (x1 : Int32) (hx0 : (4, x0) ∈ ids) {z : St} {H : Heap} {locs : List Loc} {ls : Array Slot} (hr : zRep D cy B ids A s.heap z H locs) (hl : lv_has ls 2 [(0, .ref (B 4 x0)), (1, .int x1)]), K32 x0 x1 z = some (r, z') → W p l e rmX4_begin s m args below meth c H locs 0 0 Q (F0 m 32 ls [])) (x0 : Nat) (x1 : Int32) (hx0 : (4, x0) ∈ ids) {z : St} {H : Heap} {locs : List Loc} {ls : Array Slot} (hr : zRep D cy B ids A s.heap z H locs) (hl : lv_has ls 2 [(0, .ref (B 4 x0)), (1, .int x1)]) (h : fX4_begin_32b N K32 x0 x1 z = some (r, z')) : W p l e rmX4_begin s m args below meth c H locs 0 0 Q (F0 m 32 ls []) := by
  unfold fX4_begin_32b at h
  refine lv_iload_n F.1 F.2.1 dX4_begin_32 rfl (lv_at hl 1 rfl) ?_
  refine lv_sipush (v := (2048 : Int32)) F.1 F.2.1 dX4_begin_33 (by decide) ?_
  refine lv_icmp_ge (tgt := 52) F.1 F.2.1 dX4_begin_36 (by decide) (fun c1 => ?_) (fun c1 => ?_)
  · replace h := zi_t c1 h
    obtain ⟨rfl, rfl⟩ := zret h
    exact E _ _ _ _ dX4_begin_52 trivial hr
  · replace h := zi_f c1 h
    refine lv_aload_n F.1 F.2.1 dX4_begin_39 rfl (lv_at hl 0 rfl) ?_
    refine gf4_15 F hx0 hr dX4_begin_40 ?_
    refine lv_iload_n F.1 F.2.1 dX4_begin_43 rfl (lv_at hl 1 rfl) ?_
    refine lv_iconst (v := (0 : Int32)) F.1 F.2.1 dX4_begin_44 (by decide) ?_
    replace h := zk_some h
    obtain ⟨c2, h⟩ := h
    refine zr_zast (k := 121) (by decide) rfl (by decide) F (zal_a F hx0 (j := 1) rfl) hr dX4_begin_45 c2 (fun H locs z3 ez3 hr => ?_)
    replace h := zl_sub ez3 h
    clear ez3
    obtain ⟨v4, ev4⟩ : ∃ y : Int32, y = (x1 + 1) := ⟨_, rfl⟩
    replace h := zl_sub ev4 h
    refine lv_iinc (v := v4) (lv' := [(1, .int v4), (0, .ref (B 4 x0))]) F.1 F.2.1 dX4_begin_46 hl (k := 1) rfl (by rw [ev4]; rfl) (by decide) rfl (fun ls hl => ?_)
    refine lv_goto (tgt := 32) F.1 F.2.1 dX4_begin_49 (by decide) ?_
    exact hK32 x0 v4 hx0 hr (lv_sub hl [1, 0] rfl) h
theorem lX4_begin_32 (hst : zSt B ids) (F : zFx p m c cX4_begin 2 s args RX4 D cy B ids A) (hA : ∀ q : Nat, s.heap.size ≤ q → A q) {r : Int32} {z' : St} (E : zEnd p l e rmX4_begin s m args below meth c cX4_begin D cy B ids A Q none z' .return_ True) {N : Nat}  : ∀ (n : Nat) (x0 : Nat) (x1 : Int32) (hx0 : (4, x0) ∈ ids) {z : St} {H : Heap} {locs : List Loc} {ls : Array Slot} (hr : zRep D cy B ids A s.heap z H locs) (hl : lv_has ls 2 [(0, .ref (B 4 x0)), (1, .int x1)]), fX4_begin_32 N  n x0 x1 z = some (r, z') → W p l e rmX4_begin s m args below meth c H locs 0 0 Q (F0 m 32 ls []) := by
  intro n
  induction n with
  | zero => intro x0 x1 hx0 z H locs ls hr hl h; cases h
  | succ n ih => intro x0 x1 hx0 z H locs ls hr hl h; exact bX4_begin_32 hst F hA E ih x0 x1 hx0 hr hl h
def fX4_begin (N : Nat)  (x0 : Nat) (z : St) : Option (Int32 × St) := zl (zsI z 4 2 x0 (0 : Int32)) fun z1 => zl (zsI z1 4 3 x0 (0 : Int32)) fun z2 => zl (zsI z2 4 4 x0 (0 : Int32)) fun z3 => zl (zsI z3 4 5 x0 (0 : Int32)) fun z4 => zl (zsI z4 4 6 x0 (0 : Int32)) fun z5 => zl (zsI z5 4 7 x0 (0 : Int32)) fun z6 => fX4_begin_32 N N x0 (0 : Int32) z6
set_option maxHeartbeats 4000000 in
set_option maxRecDepth 100000 in
theorem bX4_begin_0 (hst : zSt B ids) (F : zFx p m c cX4_begin 2 s args RX4 D cy B ids A) (hA : ∀ q : Nat, s.heap.size ≤ q → A q) {r : Int32} {z' : St} (E : zEnd p l e rmX4_begin s m args below meth c cX4_begin D cy B ids A Q none z' .return_ True) {N : Nat}  (x0 : Nat) (hx0 : (4, x0) ∈ ids) {z : St} {H : Heap} {locs : List Loc} {ls : Array Slot} (hr : zRep D cy B ids A s.heap z H locs) (hl : lv_has ls 2 [(0, .ref (B 4 x0))]) (h : fX4_begin N x0 z = some (r, z')) : W p l e rmX4_begin s m args below meth c H locs 0 0 Q (F0 m 0 ls []) := by
  unfold fX4_begin at h
  refine lv_aload_n F.1 F.2.1 dX4_begin_0 rfl (lv_at hl 0 rfl) ?_
  refine lv_iconst (v := (0 : Int32)) F.1 F.2.1 dX4_begin_1 (by decide) ?_
  refine pf4_19 F hx0 hr dX4_begin_2 (0 : Int32) (fun H locs z1 ez1 hr => ?_)
  replace h := zl_sub ez1 h
  clear ez1
  refine lv_aload_n F.1 F.2.1 dX4_begin_5 rfl (lv_at hl 0 rfl) ?_
  refine lv_iconst (v := (0 : Int32)) F.1 F.2.1 dX4_begin_6 (by decide) ?_
  refine pf4_23 F hx0 hr dX4_begin_7 (0 : Int32) (fun H locs z2 ez2 hr => ?_)
  replace h := zl_sub ez2 h
  clear ez2
  refine lv_aload_n F.1 F.2.1 dX4_begin_10 rfl (lv_at hl 0 rfl) ?_
  refine lv_iconst (v := (0 : Int32)) F.1 F.2.1 dX4_begin_11 (by decide) ?_
  refine pf4_26 F hx0 hr dX4_begin_12 (0 : Int32) (fun H locs z3 ez3 hr => ?_)
  replace h := zl_sub ez3 h
  clear ez3
  refine lv_aload_n F.1 F.2.1 dX4_begin_15 rfl (lv_at hl 0 rfl) ?_
  refine lv_iconst (v := (0 : Int32)) F.1 F.2.1 dX4_begin_16 (by decide) ?_
  refine pf4_29 F hx0 hr dX4_begin_17 (0 : Int32) (by decide) (fun H locs z4 ez4 hr => ?_)
  replace h := zl_sub ez4 h
  clear ez4
  refine lv_aload_n F.1 F.2.1 dX4_begin_20 rfl (lv_at hl 0 rfl) ?_
  refine lv_iconst (v := (0 : Int32)) F.1 F.2.1 dX4_begin_21 (by decide) ?_
  refine pf4_33 F hx0 hr dX4_begin_22 (0 : Int32) (fun H locs z5 ez5 hr => ?_)
  replace h := zl_sub ez5 h
  clear ez5
  refine lv_aload_n F.1 F.2.1 dX4_begin_25 rfl (lv_at hl 0 rfl) ?_
  refine lv_iconst (v := (0 : Int32)) F.1 F.2.1 dX4_begin_26 (by decide) ?_
  refine pf4_36 F hx0 hr dX4_begin_27 (0 : Int32) (by decide) (fun H locs z6 ez6 hr => ?_)
  replace h := zl_sub ez6 h
  clear ez6
  refine lv_iconst (v := (0 : Int32)) F.1 F.2.1 dX4_begin_30 (by decide) ?_
  refine lv_istore_n (lv' := [(1, .int (0 : Int32)), (0, .ref (B 4 x0))]) F.1 F.2.1 dX4_begin_31 rfl hl (by decide) rfl (fun ls hl => ?_)
  exact lX4_begin_32 hst F hA E  _ x0 (0 : Int32) hx0 hr (lv_sub hl [1, 0] rfl) h
end SX4_begin
set_option maxRecDepth 100000 in
theorem okX4_begin (l : Launch) (D : va_G) (cy : Nat → ClassId) (B : Nat → Nat → Nat) (ids : List (Nat × Nat)) (hst : zSt B ids) (N : Nat) (x0 : Nat) (hx0 : (4, x0) ∈ ids) {z : St} {r : Int32} {z' : St} (hW : zWf ids z) (h : fX4_begin N x0 z = some (r, z')) : zM l yX4_begin (zws yX4_begin cX4_begin 2 none) rmX4_begin D cy B ids [.ref (B 4 x0)] none True z z' :=
  zM_of hst hW (by decide +kernel) (Nat.le_of_ble_eq_true rfl) (fun p e s m args below meth c A ls F hA hret hlocks hr hl => bX4_begin_0 hst F hA (zEnd_v F hret hlocks) x0 hx0 hr hl h)
abbrev rmX6_begin : Room := { frames := 0, cells := 0, slots := 0, locals := 0 }
theorem hdX6_begin : yX6_begin.cls ≠ "java/lang/invoke/MethodHandle" ∧ yX6_begin.cls ≠ "java/lang/invoke/VarHandle" ∧ (parseMethodDescriptor yX6_begin.desc).map (fun d => d.parameters.length) = some 1 := by decide +kernel
section SX6_begin
variable {p : Program} {l : Launch} {e : Env} {s : State} {m : MethodId} {args : Array Value} {below : List Frame} {meth : Method} {c : Code} {Q : State → Prop} {D : va_G} {cy : Nat → ClassId} {B : Nat → Nat → Nat} {ids : List (Nat × Nat)} {A : Nat → Prop}
def fX6_begin (N : Nat)  (x0 : Nat) (x1 : Int32) (z : St) : Option (Int32 × St) := zl (zsI z 6 1 x0 (0 : Int32)) fun z1 => zl (zsI z1 6 2 x0 (0 : Int32)) fun z2 => zl (zsI z2 6 3 x0 (0 : Int32)) fun z3 => zl (zsI z3 6 4 x0 x1) fun z4 => zl (zsI z4 6 5 x0 x1) fun z5 => zl (zsI z5 6 6 x0 x1) fun z6 => zl (zsI z6 6 7 x0 (0 : Int32)) fun z7 => zl (zsI z7 6 8 x0 (0 : Int32)) fun z8 => zl (zsI z8 6 9 x0 (0 : Int32)) fun z9 => zl (zsI z9 6 10 x0 (0 : Int32)) fun z10 => zl (zsI z10 6 11 x0 (0 : Int32)) fun z11 => zl (zsI z11 6 12 x0 (0 : Int32)) fun z12 => zl (zsI z12 6 13 x0 (0 : Int32)) fun z13 => some (0, z13)
set_option maxHeartbeats 4000000 in
set_option maxRecDepth 100000 in
theorem bX6_begin_0 (hst : zSt B ids) (F : zFx p m c cX6_begin 2 s args RX6 D cy B ids A) (hA : ∀ q : Nat, s.heap.size ≤ q → A q) {r : Int32} {z' : St} (E : zEnd p l e rmX6_begin s m args below meth c cX6_begin D cy B ids A Q none z' .return_ True) {N : Nat}  (x0 : Nat) (x1 : Int32) (hx0 : (6, x0) ∈ ids) {z : St} {H : Heap} {locs : List Loc} {ls : Array Slot} (hr : zRep D cy B ids A s.heap z H locs) (hl : lv_has ls 2 [(0, .ref (B 6 x0)), (1, .int x1)]) (h : fX6_begin N x0 x1 z = some (r, z')) : W p l e rmX6_begin s m args below meth c H locs 0 0 Q (F0 m 0 ls []) := by
  unfold fX6_begin at h
  refine lv_aload_n F.1 F.2.1 dX6_begin_0 rfl (lv_at hl 0 rfl) ?_
  refine lv_iconst (v := (0 : Int32)) F.1 F.2.1 dX6_begin_1 (by decide) ?_
  refine pf6_15 F hx0 hr dX6_begin_2 (0 : Int32) (fun H locs z1 ez1 hr => ?_)
  replace h := zl_sub ez1 h
  clear ez1
  refine lv_aload_n F.1 F.2.1 dX6_begin_5 rfl (lv_at hl 0 rfl) ?_
  refine lv_iconst (v := (0 : Int32)) F.1 F.2.1 dX6_begin_6 (by decide) ?_
  refine pf6_19 F hx0 hr dX6_begin_7 (0 : Int32) (fun H locs z2 ez2 hr => ?_)
  replace h := zl_sub ez2 h
  clear ez2
  refine lv_aload_n F.1 F.2.1 dX6_begin_10 rfl (lv_at hl 0 rfl) ?_
  refine lv_iconst (v := (0 : Int32)) F.1 F.2.1 dX6_begin_11 (by decide) ?_
  refine pf6_22 F hx0 hr dX6_begin_12 (0 : Int32) (fun H locs z3 ez3 hr => ?_)
  replace h := zl_sub ez3 h
  clear ez3
  refine lv_aload_n F.1 F.2.1 dX6_begin_15 rfl (lv_at hl 0 rfl) ?_
  refine lv_iload_n F.1 F.2.1 dX6_begin_16 rfl (lv_at hl 1 rfl) ?_
  refine pf6_25 F hx0 hr dX6_begin_17 x1 (fun H locs z4 ez4 hr => ?_)
  replace h := zl_sub ez4 h
  clear ez4
  refine lv_aload_n F.1 F.2.1 dX6_begin_20 rfl (lv_at hl 0 rfl) ?_
  refine lv_iload_n F.1 F.2.1 dX6_begin_21 rfl (lv_at hl 1 rfl) ?_
  refine pf6_28 F hx0 hr dX6_begin_22 x1 (fun H locs z5 ez5 hr => ?_)
  replace h := zl_sub ez5 h
  clear ez5
  refine lv_aload_n F.1 F.2.1 dX6_begin_25 rfl (lv_at hl 0 rfl) ?_
  refine lv_iload_n F.1 F.2.1 dX6_begin_26 rfl (lv_at hl 1 rfl) ?_
  refine pf6_31 F hx0 hr dX6_begin_27 x1 (fun H locs z6 ez6 hr => ?_)
  replace h := zl_sub ez6 h
  clear ez6
  refine lv_aload_n F.1 F.2.1 dX6_begin_30 rfl (lv_at hl 0 rfl) ?_
  refine lv_iconst (v := (0 : Int32)) F.1 F.2.1 dX6_begin_31 (by decide) ?_
  refine pf6_34 F hx0 hr dX6_begin_32 (0 : Int32) (by decide) (fun H locs z7 ez7 hr => ?_)
  replace h := zl_sub ez7 h
  clear ez7
  refine lv_aload_n F.1 F.2.1 dX6_begin_35 rfl (lv_at hl 0 rfl) ?_
  refine lv_iconst (v := (0 : Int32)) F.1 F.2.1 dX6_begin_36 (by decide) ?_
  refine pf6_38 F hx0 hr dX6_begin_37 (0 : Int32) (by decide) (fun H locs z8 ez8 hr => ?_)
  replace h := zl_sub ez8 h
  clear ez8
  refine lv_aload_n F.1 F.2.1 dX6_begin_40 rfl (lv_at hl 0 rfl) ?_
  refine lv_iconst (v := (0 : Int32)) F.1 F.2.1 dX6_begin_41 (by decide) ?_
  refine pf6_41 F hx0 hr dX6_begin_42 (0 : Int32) (by decide) (fun H locs z9 ez9 hr => ?_)
  replace h := zl_sub ez9 h
  clear ez9
  refine lv_aload_n F.1 F.2.1 dX6_begin_45 rfl (lv_at hl 0 rfl) ?_
  refine lv_iconst (v := (0 : Int32)) F.1 F.2.1 dX6_begin_46 (by decide) ?_
  refine pf6_44 F hx0 hr dX6_begin_47 (0 : Int32) (by decide) (fun H locs z10 ez10 hr => ?_)
  replace h := zl_sub ez10 h
  clear ez10
  refine lv_aload_n F.1 F.2.1 dX6_begin_50 rfl (lv_at hl 0 rfl) ?_
  refine lv_iconst (v := (0 : Int32)) F.1 F.2.1 dX6_begin_51 (by decide) ?_
  refine pf6_47 F hx0 hr dX6_begin_52 (0 : Int32) (fun H locs z11 ez11 hr => ?_)
  replace h := zl_sub ez11 h
  clear ez11
  refine lv_aload_n F.1 F.2.1 dX6_begin_55 rfl (lv_at hl 0 rfl) ?_
  refine lv_iconst (v := (0 : Int32)) F.1 F.2.1 dX6_begin_56 (by decide) ?_
  refine pf6_50 F hx0 hr dX6_begin_57 (0 : Int32) (fun H locs z12 ez12 hr => ?_)
  replace h := zl_sub ez12 h
  clear ez12
  refine lv_aload_n F.1 F.2.1 dX6_begin_60 rfl (lv_at hl 0 rfl) ?_
  refine lv_iconst (v := (0 : Int32)) F.1 F.2.1 dX6_begin_61 (by decide) ?_
  refine pf6_53 F hx0 hr dX6_begin_62 (0 : Int32) (fun H locs z13 ez13 hr => ?_)
  replace h := zl_sub ez13 h
  clear ez13
  obtain ⟨rfl, rfl⟩ := zret h
  exact E _ _ _ _ dX6_begin_65 trivial hr
end SX6_begin
set_option maxRecDepth 100000 in
theorem okX6_begin (l : Launch) (D : va_G) (cy : Nat → ClassId) (B : Nat → Nat → Nat) (ids : List (Nat × Nat)) (hst : zSt B ids) (N : Nat) (x0 : Nat) (hx0 : (6, x0) ∈ ids) (x1 : Int32) {z : St} {r : Int32} {z' : St} (hW : zWf ids z) (h : fX6_begin N x0 x1 z = some (r, z')) : zM l yX6_begin (zws yX6_begin cX6_begin 2 none) rmX6_begin D cy B ids [.ref (B 6 x0), .int x1] none True z z' :=
  zM_of hst hW (by decide +kernel) (Nat.le_of_ble_eq_true rfl) (fun p e s m args below meth c A ls F hA hret hlocks hr hl => bX6_begin_0 hst F hA (zEnd_v F hret hlocks) x0 x1 hx0 hr hl h)
abbrev rmX3_beginAgain : Room := { frames := 1, cells := 0, slots := 0, locals := 21 }
theorem hdX3_beginAgain : yX3_beginAgain.cls ≠ "java/lang/invoke/MethodHandle" ∧ yX3_beginAgain.cls ≠ "java/lang/invoke/VarHandle" ∧ (parseMethodDescriptor yX3_beginAgain.desc).map (fun d => d.parameters.length) = some 1 := by decide +kernel
theorem hroX3_beginAgain_X10_begin : rmX10_begin.frames + 1 ≤ rmX3_beginAgain.frames ∧ 8 + (1 + 11) + rmX10_begin.locals ≤ rmX3_beginAgain.locals := by decide
theorem hroX3_beginAgain_X4_begin : rmX4_begin.frames + 1 ≤ rmX3_beginAgain.frames ∧ 8 + (2 + 11) + rmX4_begin.locals ≤ rmX3_beginAgain.locals := by decide
theorem hroX3_beginAgain_X6_begin : rmX6_begin.frames + 1 ≤ rmX3_beginAgain.frames ∧ 8 + (2 + 11) + rmX6_begin.locals ≤ rmX3_beginAgain.locals := by decide
section SX3_beginAgain
variable {p : Program} {l : Launch} {e : Env} {s : State} {m : MethodId} {args : Array Value} {below : List Frame} {meth : Method} {c : Code} {Q : State → Prop} {D : va_G} {cy : Nat → ClassId} {B : Nat → Nat → Nat} {ids : List (Nat × Nat)} {A : Nat → Prop}
def fX3_beginAgain (N : Nat)  (x0 : Nat) (x1 : Int32) (z : St) : Option (Int32 × St) := zl (zsI z 3 0 x0 (1 : Int32)) fun z1 => zl (zsI z1 3 2 x0 (zgI z1 3 1 x0)) fun z2 => zl (zsI z2 3 4 x0 (0 : Int32)) fun z3 => zl (zsI z3 3 9 x0 (0 : Int32)) fun z4 => zl (zsI z4 3 10 x0 (0 : Int32)) fun z5 => zl (zsI z5 3 11 x0 (0 : Int32)) fun z6 => zl (zsI z6 3 12 x0 (0 : Int32)) fun z7 => zl (zsI z7 3 13 x0 (0 : Int32)) fun z8 => zl (zsI z8 3 15 x0 (0 : Int32)) fun z9 => zl (zgR z9 3 16 x0) fun y10 => zd y10 fun a11 => zc (fX6_begin N a11 x1 z9) fun _ z13 => zl (zgR z13 3 17 x0) fun y16 => zd y16 fun a17 => zc (fX4_begin N a17 z13) fun _ z19 => zl (zgR z19 3 18 x0) fun y22 => zd y22 fun a23 => zc (fX10_begin N a23 z19) fun _ z25 => some (0, z25)
set_option maxHeartbeats 4000000 in
set_option maxRecDepth 100000 in
theorem bX3_beginAgain_0 (hst : zSt B ids) (F : zFx p m c cX3_beginAgain 2 s args RX3 D cy B ids A) (hA : ∀ q : Nat, s.heap.size ≤ q → A q) {r : Int32} {z' : St} (E : zEnd p l e rmX3_beginAgain s m args below meth c cX3_beginAgain D cy B ids A Q none z' .return_ True) {N : Nat}  (x0 : Nat) (x1 : Int32) (hx0 : (3, x0) ∈ ids) {z : St} {H : Heap} {locs : List Loc} {ls : Array Slot} (hr : zRep D cy B ids A s.heap z H locs) (hl : lv_has ls 2 [(0, .ref (B 3 x0)), (1, .int x1)]) (h : fX3_beginAgain N x0 x1 z = some (r, z')) : W p l e rmX3_beginAgain s m args below meth c H locs 0 0 Q (F0 m 0 ls []) := by
  unfold fX3_beginAgain at h
  refine lv_aload_n F.1 F.2.1 dX3_beginAgain_0 rfl (lv_at hl 0 rfl) ?_
  refine lv_iconst (v := (1 : Int32)) F.1 F.2.1 dX3_beginAgain_1 (by decide) ?_
  refine pf3_32 F hx0 hr dX3_beginAgain_2 (1 : Int32) (fun H locs z1 ez1 hr => ?_)
  replace h := zl_sub ez1 h
  clear ez1
  refine lv_aload_n F.1 F.2.1 dX3_beginAgain_5 rfl (lv_at hl 0 rfl) ?_
  refine lv_aload_n F.1 F.2.1 dX3_beginAgain_6 rfl (lv_at hl 0 rfl) ?_
  refine gf3_36 F hx0 hr dX3_beginAgain_7 ?_
  refine pf3_53 F hx0 hr dX3_beginAgain_10 (zgI z1 3 1 x0) (fun H locs z2 ez2 hr => ?_)
  replace h := zl_sub ez2 h
  clear ez2
  refine lv_aload_n F.1 F.2.1 dX3_beginAgain_13 rfl (lv_at hl 0 rfl) ?_
  refine lv_iconst (v := (0 : Int32)) F.1 F.2.1 dX3_beginAgain_14 (by decide) ?_
  refine pf3_56 F hx0 hr dX3_beginAgain_15 (0 : Int32) (fun H locs z3 ez3 hr => ?_)
  replace h := zl_sub ez3 h
  clear ez3
  refine lv_aload_n F.1 F.2.1 dX3_beginAgain_18 rfl (lv_at hl 0 rfl) ?_
  refine lv_iconst (v := (0 : Int32)) F.1 F.2.1 dX3_beginAgain_19 (by decide) ?_
  refine pf3_59 F hx0 hr dX3_beginAgain_20 (0 : Int32) (by decide) (fun H locs z4 ez4 hr => ?_)
  replace h := zl_sub ez4 h
  clear ez4
  refine lv_aload_n F.1 F.2.1 dX3_beginAgain_23 rfl (lv_at hl 0 rfl) ?_
  refine lv_iconst (v := (0 : Int32)) F.1 F.2.1 dX3_beginAgain_24 (by decide) ?_
  refine pf3_62 F hx0 hr dX3_beginAgain_25 (0 : Int32) (by decide) (fun H locs z5 ez5 hr => ?_)
  replace h := zl_sub ez5 h
  clear ez5
  refine lv_aload_n F.1 F.2.1 dX3_beginAgain_28 rfl (lv_at hl 0 rfl) ?_
  refine lv_iconst (v := (0 : Int32)) F.1 F.2.1 dX3_beginAgain_29 (by decide) ?_
  refine pf3_65 F hx0 hr dX3_beginAgain_30 (0 : Int32) (by decide) (fun H locs z6 ez6 hr => ?_)
  replace h := zl_sub ez6 h
  clear ez6
  refine lv_aload_n F.1 F.2.1 dX3_beginAgain_33 rfl (lv_at hl 0 rfl) ?_
  refine lv_iconst (v := (0 : Int32)) F.1 F.2.1 dX3_beginAgain_34 (by decide) ?_
  refine pf3_68 F hx0 hr dX3_beginAgain_35 (0 : Int32) (by decide) (fun H locs z7 ez7 hr => ?_)
  replace h := zl_sub ez7 h
  clear ez7
  refine lv_aload_n F.1 F.2.1 dX3_beginAgain_38 rfl (lv_at hl 0 rfl) ?_
  refine lv_iconst (v := (0 : Int32)) F.1 F.2.1 dX3_beginAgain_39 (by decide) ?_
  refine pf3_71 F hx0 hr dX3_beginAgain_40 (0 : Int32) (by decide) (fun H locs z8 ez8 hr => ?_)
  replace h := zl_sub ez8 h
  clear ez8
  refine lv_aload_n F.1 F.2.1 dX3_beginAgain_43 rfl (lv_at hl 0 rfl) ?_
  refine lv_iconst (v := (0 : Int32)) F.1 F.2.1 dX3_beginAgain_44 (by decide) ?_
  refine pf3_74 F hx0 hr dX3_beginAgain_45 (0 : Int32) (fun H locs z9 ez9 hr => ?_)
  replace h := zl_sub ez9 h
  clear ez9
  refine lv_aload_n F.1 F.2.1 dX3_beginAgain_48 rfl (lv_at hl 0 rfl) ?_
  refine gf3_12 F hx0 hr dX3_beginAgain_49 (fun y10 ey10 => ?_)
  replace h := zl_sub ey10 h
  have hy10 := zal_g hr hx0 (j := 16) rfl ey10
  clear ey10
  refine lv_iload_n F.1 F.2.1 dX3_beginAgain_52 rfl (lv_at hl 1 rfl) ?_
  replace h := zd_some h
  obtain ⟨a11, rfl, h⟩ := h
  replace h := zc_some h
  obtain ⟨r12, z13, hc14, h⟩ := h
  refine zr_callv (zrun_VN (As := [.int x1]) (rest := []) zn_1258 zq_1260 zs_X6_begin zq_1261 zq_14 hdX6_begin (by decide) (T := TX6) (N := 14) rfl (okX6_begin l D cy B ids hst N a11 (hy10 _ rfl) x1  hr.2.2 hc14) F hr (hy10 _ rfl) hl.1 rfl (by decide) dX3_beginAgain_53 rfl rfl hroX3_beginAgain_X6_begin ⟨Nat.zero_le _, Nat.zero_le _⟩) F hA hr (fun H locs hw15 hr => ?_)
  clear hc14
  refine lv_aload_n F.1 F.2.1 dX3_beginAgain_56 rfl (lv_at hl 0 rfl) ?_
  refine gf3_21 F hx0 hr dX3_beginAgain_57 (fun y16 ey16 => ?_)
  replace h := zl_sub ey16 h
  have hy16 := zal_g hr hx0 (j := 17) rfl ey16
  clear ey16
  replace h := zd_some h
  obtain ⟨a17, rfl, h⟩ := h
  replace h := zc_some h
  obtain ⟨r18, z19, hc20, h⟩ := h
  refine zr_callv (zrun_VN (As := []) (rest := []) zn_1262 zq_1264 zs_X4_begin zq_1265 zq_15 hdX4_begin (by decide) (T := TX4) (N := 8) rfl (okX4_begin l D cy B ids hst N a17 (hy16 _ rfl) hr.2.2 hc20) F hr (hy16 _ rfl) hl.1 rfl (by decide) dX3_beginAgain_60 rfl rfl hroX3_beginAgain_X4_begin ⟨Nat.zero_le _, Nat.zero_le _⟩) F hA hr (fun H locs hw21 hr => ?_)
  clear hc20
  refine lv_aload_n F.1 F.2.1 dX3_beginAgain_63 rfl (lv_at hl 0 rfl) ?_
  refine gf3_28 F hx0 hr dX3_beginAgain_64 (fun y22 ey22 => ?_)
  replace h := zl_sub ey22 h
  have hy22 := zal_g hr hx0 (j := 18) rfl ey22
  clear ey22
  replace h := zd_some h
  obtain ⟨a23, rfl, h⟩ := h
  replace h := zc_some h
  obtain ⟨r24, z25, hc26, h⟩ := h
  refine zr_callv (zrun_VN (As := []) (rest := []) zn_1266 zq_1268 zs_X10_begin zq_1269 zq_16 hdX10_begin (by decide) (T := TX10) (N := 9) rfl (okX10_begin l D cy B ids hst N a23 (hy22 _ rfl) hr.2.2 hc26) F hr (hy22 _ rfl) hl.1 rfl (by decide) dX3_beginAgain_67 rfl rfl hroX3_beginAgain_X10_begin ⟨Nat.zero_le _, Nat.zero_le _⟩) F hA hr (fun H locs hw27 hr => ?_)
  clear hc26
  obtain ⟨rfl, rfl⟩ := zret h
  exact E _ _ _ _ dX3_beginAgain_70 trivial hr
end SX3_beginAgain
set_option maxRecDepth 100000 in
theorem okX3_beginAgain (l : Launch) (D : va_G) (cy : Nat → ClassId) (B : Nat → Nat → Nat) (ids : List (Nat × Nat)) (hst : zSt B ids) (N : Nat) (x0 : Nat) (hx0 : (3, x0) ∈ ids) (x1 : Int32) {z : St} {r : Int32} {z' : St} (hW : zWf ids z) (h : fX3_beginAgain N x0 x1 z = some (r, z')) : zM l yX3_beginAgain (zws yX3_beginAgain cX3_beginAgain 2 none) rmX3_beginAgain D cy B ids [.ref (B 3 x0), .int x1] none True z z' :=
  zM_of hst hW (by decide +kernel) (Nat.le_of_ble_eq_true rfl) (fun p e s m args below meth c A ls F hA hret hlocks hr hl => bX3_beginAgain_0 hst F hA (zEnd_v F hret hlocks) x0 x1 hx0 hr hl h)
