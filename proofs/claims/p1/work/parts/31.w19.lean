abbrev rmX14_become : Room := { frames := 0, cells := 0, slots := 0, locals := 0 }
theorem hdX14_become : yX14_become.cls ≠ "java/lang/invoke/MethodHandle" ∧ yX14_become.cls ≠ "java/lang/invoke/VarHandle" ∧ (parseMethodDescriptor yX14_become.desc).map (fun d => d.parameters.length) = some 2 := by decide +kernel
section SX14_become
variable {p : Program} {l : Launch} {e : Env} {s : State} {m : MethodId} {args : Array Value} {below : List Frame} {meth : Method} {c : Code} {Q : State → Prop} {D : va_G} {cy : Nat → ClassId} {B : Nat → Nat → Nat} {ids : List (Nat × Nat)} {A : Nat → Prop}
def fX14_become_63 (N : Nat)  (x0 : Nat) (x1 : Int32) (x2 : Int32) (z : St) : Option (Int32 × St) := if ¬ x1 = (10 : Int32) then (some (0, z)) else (zl (zsI z 14 43 x0 (x2 + (2000 : Int32))) fun z2 => some (0, z2))
set_option maxHeartbeats 4000000 in
set_option maxRecDepth 100000 in
theorem bX14_become_63 (hst : zSt B ids) (F : zFx p m c cX14_become 3 s args RX14 D cy B ids A) (hA : ∀ q : Nat, s.heap.size ≤ q → A q) {r : Int32} {z' : St} (E : zEnd p l e rmX14_become s m args below meth c cX14_become D cy B ids A Q none z' .return_ True) {N : Nat}  (x0 : Nat) (x1 : Int32) (x2 : Int32) (hx0 : (14, x0) ∈ ids) {z : St} {H : Heap} {locs : List Loc} {ls : Array Slot} (hr : zRep D cy B ids A s.heap z H locs) (hl : lv_has ls 3 [(0, .ref (B 14 x0)), (1, .int x1), (2, .int x2)]) (h : fX14_become_63 N x0 x1 x2 z = some (r, z')) : W p l e rmX14_become s m args below meth c H locs 0 0 Q (F0 m 63 ls []) := by
  unfold fX14_become_63 at h
  refine lv_iload_n F.1 F.2.1 dX14_become_63 rfl (lv_at hl 1 rfl) ?_
  refine lv_bipush (v := (10 : Int32)) F.1 F.2.1 dX14_become_64 (by decide) ?_
  refine lv_icmp_ne (tgt := 78) F.1 F.2.1 dX14_become_66 (by decide) (fun c1 => ?_) (fun c1 => ?_)
  · replace h := zi_t c1 h
    obtain ⟨rfl, rfl⟩ := zret h
    exact E _ _ _ _ dX14_become_78 trivial hr
  · replace h := zi_f (fun q => q c1) h
    refine lv_aload_n F.1 F.2.1 dX14_become_69 rfl (lv_at hl 0 rfl) ?_
    refine lv_iload_n F.1 F.2.1 dX14_become_70 rfl (lv_at hl 2 rfl) ?_
    refine lv_sipush (v := (2000 : Int32)) F.1 F.2.1 dX14_become_71 (by decide) ?_
    refine lv_iadd F.1 F.2.1 dX14_become_74 ?_
    refine pf14_138 F hx0 hr dX14_become_75 (x2 + (2000 : Int32)) (fun H locs z2 ez2 hr => ?_)
    replace h := zl_sub ez2 h
    clear ez2
    obtain ⟨rfl, rfl⟩ := zret h
    exact E _ _ _ _ dX14_become_78 trivial hr
def fX14_become_55 (N : Nat)  (x0 : Nat) (x1 : Int32) (x2 : Int32) (s0 : Nat) (s1 : Int32) (z : St) : Option (Int32 × St) := zq (s1 = 0 ∨ s1 = 1) <| zl (zsI z 14 32 s0 s1) fun z1 => zl (zsI z1 14 33 x0 (0 : Int32)) fun z3 => fX14_become_63 N x0 x1 x2 z3
set_option maxHeartbeats 4000000 in
set_option maxRecDepth 100000 in
theorem bX14_become_55 (hst : zSt B ids) (F : zFx p m c cX14_become 3 s args RX14 D cy B ids A) (hA : ∀ q : Nat, s.heap.size ≤ q → A q) {r : Int32} {z' : St} (E : zEnd p l e rmX14_become s m args below meth c cX14_become D cy B ids A Q none z' .return_ True) {N : Nat}  (x0 : Nat) (x1 : Int32) (x2 : Int32) (s0 : Nat) (s1 : Int32) (hx0 : (14, x0) ∈ ids) (hs0 : (14, s0) ∈ ids) {z : St} {H : Heap} {locs : List Loc} {ls : Array Slot} (hr : zRep D cy B ids A s.heap z H locs) (hl : lv_has ls 3 [(0, .ref (B 14 x0)), (1, .int x1), (2, .int x2)]) (h : fX14_become_55 N x0 x1 x2 s0 s1 z = some (r, z')) : W p l e rmX14_become s m args below meth c H locs 0 0 Q (F0 m 55 ls [.int s1, .ref (B 14 s0)]) := by
  unfold fX14_become_55 at h
  replace h := zq_some h
  obtain ⟨c2, h⟩ := h
  refine pf14_96 F hs0 hr dX14_become_55 s1 c2 (fun H locs z1 ez1 hr => ?_)
  replace h := zl_sub ez1 h
  clear ez1
  refine lv_aload_n F.1 F.2.1 dX14_become_58 rfl (lv_at hl 0 rfl) ?_
  refine lv_iconst (v := (0 : Int32)) F.1 F.2.1 dX14_become_59 (by decide) ?_
  refine pf14_99 F hx0 hr dX14_become_60 (0 : Int32) (by decide) (fun H locs z3 ez3 hr => ?_)
  replace h := zl_sub ez3 h
  clear ez3
  exact bX14_become_63 hst F hA E  x0 x1 x2 hx0 hr (lv_sub hl [0, 1, 2] rfl) h
def fX14_become_54 (N : Nat)  (x0 : Nat) (x1 : Int32) (x2 : Int32) (s0 : Nat) (z : St) : Option (Int32 × St) := fX14_become_55 N x0 x1 x2 s0 (0 : Int32) z
set_option maxHeartbeats 4000000 in
set_option maxRecDepth 100000 in
theorem bX14_become_54 (hst : zSt B ids) (F : zFx p m c cX14_become 3 s args RX14 D cy B ids A) (hA : ∀ q : Nat, s.heap.size ≤ q → A q) {r : Int32} {z' : St} (E : zEnd p l e rmX14_become s m args below meth c cX14_become D cy B ids A Q none z' .return_ True) {N : Nat}  (x0 : Nat) (x1 : Int32) (x2 : Int32) (s0 : Nat) (hx0 : (14, x0) ∈ ids) (hs0 : (14, s0) ∈ ids) {z : St} {H : Heap} {locs : List Loc} {ls : Array Slot} (hr : zRep D cy B ids A s.heap z H locs) (hl : lv_has ls 3 [(0, .ref (B 14 x0)), (1, .int x1), (2, .int x2)]) (h : fX14_become_54 N x0 x1 x2 s0 z = some (r, z')) : W p l e rmX14_become s m args below meth c H locs 0 0 Q (F0 m 54 ls [.ref (B 14 s0)]) := by
  unfold fX14_become_54 at h
  refine lv_iconst (v := (0 : Int32)) F.1 F.2.1 dX14_become_54 (by decide) ?_
  exact bX14_become_55 hst F hA E  x0 x1 x2 s0 (0 : Int32) hx0 hs0 hr (lv_sub hl [0, 1, 2] rfl) h
def fX14_become_21 (N : Nat)  (x0 : Nat) (x1 : Int32) (x2 : Int32) (z : St) : Option (Int32 × St) := zl (zsI z 14 28 x0 (0 : Int32)) fun z1 => zl (zsI z1 14 30 x0 (0 : Int32)) fun z2 => zl (zsI z2 14 31 x0 (0 : Int32)) fun z3 => if (zgI z3 14 32 x0) = 0 then (fX14_become_54 N x0 x1 x2 x0 z3) else (if ¬ x1 = (10 : Int32) then (fX14_become_54 N x0 x1 x2 x0 z3) else (fX14_become_55 N x0 x1 x2 x0 (1 : Int32) z3))
set_option maxHeartbeats 4000000 in
set_option maxRecDepth 100000 in
theorem bX14_become_21 (hst : zSt B ids) (F : zFx p m c cX14_become 3 s args RX14 D cy B ids A) (hA : ∀ q : Nat, s.heap.size ≤ q → A q) {r : Int32} {z' : St} (E : zEnd p l e rmX14_become s m args below meth c cX14_become D cy B ids A Q none z' .return_ True) {N : Nat}  (x0 : Nat) (x1 : Int32) (x2 : Int32) (hx0 : (14, x0) ∈ ids) {z : St} {H : Heap} {locs : List Loc} {ls : Array Slot} (hr : zRep D cy B ids A s.heap z H locs) (hl : lv_has ls 3 [(0, .ref (B 14 x0)), (1, .int x1), (2, .int x2)]) (h : fX14_become_21 N x0 x1 x2 z = some (r, z')) : W p l e rmX14_become s m args below meth c H locs 0 0 Q (F0 m 21 ls []) := by
  unfold fX14_become_21 at h
  refine lv_aload_n F.1 F.2.1 dX14_become_21 rfl (lv_at hl 0 rfl) ?_
  refine lv_iconst (v := (0 : Int32)) F.1 F.2.1 dX14_become_22 (by decide) ?_
  refine pf14_84 F hx0 hr dX14_become_23 (0 : Int32) (by decide) (fun H locs z1 ez1 hr => ?_)
  replace h := zl_sub ez1 h
  clear ez1
  refine lv_aload_n F.1 F.2.1 dX14_become_26 rfl (lv_at hl 0 rfl) ?_
  refine lv_iconst (v := (0 : Int32)) F.1 F.2.1 dX14_become_27 (by decide) ?_
  refine pf14_90 F hx0 hr dX14_become_28 (0 : Int32) (by decide) (fun H locs z2 ez2 hr => ?_)
  replace h := zl_sub ez2 h
  clear ez2
  refine lv_aload_n F.1 F.2.1 dX14_become_31 rfl (lv_at hl 0 rfl) ?_
  refine lv_iconst (v := (0 : Int32)) F.1 F.2.1 dX14_become_32 (by decide) ?_
  refine pf14_93 F hx0 hr dX14_become_33 (0 : Int32) (by decide) (fun H locs z3 ez3 hr => ?_)
  replace h := zl_sub ez3 h
  clear ez3
  refine lv_aload_n F.1 F.2.1 dX14_become_36 rfl (lv_at hl 0 rfl) ?_
  refine lv_aload_n F.1 F.2.1 dX14_become_37 rfl (lv_at hl 0 rfl) ?_
  refine gf14_96 F hx0 hr dX14_become_38 ?_
  refine lv_if_eq (tgt := 54) F.1 F.2.1 dX14_become_41 (by decide) (fun c4 => ?_) (fun c4 => ?_)
  · replace h := zi_t c4 h
    exact bX14_become_54 hst F hA E  x0 x1 x2 x0 hx0 hx0 hr (lv_sub hl [0, 1, 2] rfl) h
  · replace h := zi_f c4 h
    refine lv_iload_n F.1 F.2.1 dX14_become_44 rfl (lv_at hl 1 rfl) ?_
    refine lv_bipush (v := (10 : Int32)) F.1 F.2.1 dX14_become_45 (by decide) ?_
    refine lv_icmp_ne (tgt := 54) F.1 F.2.1 dX14_become_47 (by decide) (fun c5 => ?_) (fun c5 => ?_)
    · replace h := zi_t c5 h
      exact bX14_become_54 hst F hA E  x0 x1 x2 x0 hx0 hx0 hr (lv_sub hl [0, 1, 2] rfl) h
    · replace h := zi_f (fun q => q c5) h
      refine lv_iconst (v := (1 : Int32)) F.1 F.2.1 dX14_become_50 (by decide) ?_
      refine lv_goto (tgt := 55) F.1 F.2.1 dX14_become_51 (by decide) ?_
      exact bX14_become_55 hst F hA E  x0 x1 x2 x0 (1 : Int32) hx0 hx0 hr (lv_sub hl [0, 1, 2] rfl) h
def fX14_become (N : Nat)  (x0 : Nat) (x1 : Int32) (x2 : Int32) (z : St) : Option (Int32 × St) := zl (zsI z 14 0 x0 x1) fun z1 => if x1 = 0 then (fX14_become_21 N x0 x1 x2 z1) else (if x1 = (11 : Int32) then (fX14_become_21 N x0 x1 x2 z1) else (if ¬ x1 = (10 : Int32) then (fX14_become_63 N x0 x1 x2 z1) else (fX14_become_21 N x0 x1 x2 z1)))
set_option maxHeartbeats 4000000 in
set_option maxRecDepth 100000 in
theorem bX14_become_0 (hst : zSt B ids) (F : zFx p m c cX14_become 3 s args RX14 D cy B ids A) (hA : ∀ q : Nat, s.heap.size ≤ q → A q) {r : Int32} {z' : St} (E : zEnd p l e rmX14_become s m args below meth c cX14_become D cy B ids A Q none z' .return_ True) {N : Nat}  (x0 : Nat) (x1 : Int32) (x2 : Int32) (hx0 : (14, x0) ∈ ids) {z : St} {H : Heap} {locs : List Loc} {ls : Array Slot} (hr : zRep D cy B ids A s.heap z H locs) (hl : lv_has ls 3 [(0, .ref (B 14 x0)), (1, .int x1), (2, .int x2)]) (h : fX14_become N x0 x1 x2 z = some (r, z')) : W p l e rmX14_become s m args below meth c H locs 0 0 Q (F0 m 0 ls []) := by
  unfold fX14_become at h
  refine lv_aload_n F.1 F.2.1 dX14_become_0 rfl (lv_at hl 0 rfl) ?_
  refine lv_iload_n F.1 F.2.1 dX14_become_1 rfl (lv_at hl 1 rfl) ?_
  refine pf14_29 F hx0 hr dX14_become_2 x1 (fun H locs z1 ez1 hr => ?_)
  replace h := zl_sub ez1 h
  clear ez1
  refine lv_iload_n F.1 F.2.1 dX14_become_5 rfl (lv_at hl 1 rfl) ?_
  refine lv_if_eq (tgt := 21) F.1 F.2.1 dX14_become_6 (by decide) (fun c2 => ?_) (fun c2 => ?_)
  · replace h := zi_t c2 h
    exact bX14_become_21 hst F hA E  x0 x1 x2 hx0 hr (lv_sub hl [0, 1, 2] rfl) h
  · replace h := zi_f c2 h
    refine lv_iload_n F.1 F.2.1 dX14_become_9 rfl (lv_at hl 1 rfl) ?_
    refine lv_bipush (v := (11 : Int32)) F.1 F.2.1 dX14_become_10 (by decide) ?_
    refine lv_icmp_eq (tgt := 21) F.1 F.2.1 dX14_become_12 (by decide) (fun c3 => ?_) (fun c3 => ?_)
    · replace h := zi_t c3 h
      exact bX14_become_21 hst F hA E  x0 x1 x2 hx0 hr (lv_sub hl [0, 1, 2] rfl) h
    · replace h := zi_f c3 h
      refine lv_iload_n F.1 F.2.1 dX14_become_15 rfl (lv_at hl 1 rfl) ?_
      refine lv_bipush (v := (10 : Int32)) F.1 F.2.1 dX14_become_16 (by decide) ?_
      refine lv_icmp_ne (tgt := 63) F.1 F.2.1 dX14_become_18 (by decide) (fun c4 => ?_) (fun c4 => ?_)
      · replace h := zi_t c4 h
        exact bX14_become_63 hst F hA E  x0 x1 x2 hx0 hr (lv_sub hl [0, 1, 2] rfl) h
      · replace h := zi_f (fun q => q c4) h
        exact bX14_become_21 hst F hA E  x0 x1 x2 hx0 hr (lv_sub hl [0, 1, 2] rfl) h
end SX14_become
set_option maxRecDepth 100000 in
theorem okX14_become (l : Launch) (D : va_G) (cy : Nat → ClassId) (B : Nat → Nat → Nat) (ids : List (Nat × Nat)) (hst : zSt B ids) (N : Nat) (x0 : Nat) (hx0 : (14, x0) ∈ ids) (x1 : Int32) (x2 : Int32) {z : St} {r : Int32} {z' : St} (hW : zWf ids z) (h : fX14_become N x0 x1 x2 z = some (r, z')) : zM l yX14_become (zws yX14_become cX14_become 3 none) rmX14_become D cy B ids [.ref (B 14 x0), .int x1, .int x2] none True z z' :=
  zM_of hst hW (by decide +kernel) (Nat.le_of_ble_eq_true rfl) (fun p e s m args below meth c A ls F hA hret hlocks hr hl => bX14_become_0 hst F hA (zEnd_v F hret hlocks) x0 x1 x2 hx0 hr hl h)
abbrev rmX14_setAlarm : Room := { frames := 0, cells := 0, slots := 0, locals := 0 }
theorem hdX14_setAlarm : yX14_setAlarm.cls ≠ "java/lang/invoke/MethodHandle" ∧ yX14_setAlarm.cls ≠ "java/lang/invoke/VarHandle" ∧ (parseMethodDescriptor yX14_setAlarm.desc).map (fun d => d.parameters.length) = some 1 := by decide +kernel
section SX14_setAlarm
variable {p : Program} {l : Launch} {e : Env} {s : State} {m : MethodId} {args : Array Value} {below : List Frame} {meth : Method} {c : Code} {Q : State → Prop} {D : va_G} {cy : Nat → ClassId} {B : Nat → Nat → Nat} {ids : List (Nat × Nat)} {A : Nat → Prop}
def fX14_setAlarm (N : Nat)  (x0 : Nat) (x1 : Int32) (z : St) : Option (Int32 × St) := zl (zsI z 14 33 x0 (1 : Int32)) fun z1 => zl (zsI z1 14 34 x0 (x1 + (zgI z1 14 35 x0))) fun z2 => some (0, z2)
set_option maxHeartbeats 4000000 in
set_option maxRecDepth 100000 in
theorem bX14_setAlarm_0 (hst : zSt B ids) (F : zFx p m c cX14_setAlarm 2 s args RX14 D cy B ids A) (hA : ∀ q : Nat, s.heap.size ≤ q → A q) {r : Int32} {z' : St} (E : zEnd p l e rmX14_setAlarm s m args below meth c cX14_setAlarm D cy B ids A Q none z' .return_ True) {N : Nat}  (x0 : Nat) (x1 : Int32) (hx0 : (14, x0) ∈ ids) {z : St} {H : Heap} {locs : List Loc} {ls : Array Slot} (hr : zRep D cy B ids A s.heap z H locs) (hl : lv_has ls 2 [(0, .ref (B 14 x0)), (1, .int x1)]) (h : fX14_setAlarm N x0 x1 z = some (r, z')) : W p l e rmX14_setAlarm s m args below meth c H locs 0 0 Q (F0 m 0 ls []) := by
  unfold fX14_setAlarm at h
  refine lv_aload_n F.1 F.2.1 dX14_setAlarm_0 rfl (lv_at hl 0 rfl) ?_
  refine lv_iconst (v := (1 : Int32)) F.1 F.2.1 dX14_setAlarm_1 (by decide) ?_
  refine pf14_99 F hx0 hr dX14_setAlarm_2 (1 : Int32) (by decide) (fun H locs z1 ez1 hr => ?_)
  replace h := zl_sub ez1 h
  clear ez1
  refine lv_aload_n F.1 F.2.1 dX14_setAlarm_5 rfl (lv_at hl 0 rfl) ?_
  refine lv_iload_n F.1 F.2.1 dX14_setAlarm_6 rfl (lv_at hl 1 rfl) ?_
  refine lv_aload_n F.1 F.2.1 dX14_setAlarm_7 rfl (lv_at hl 0 rfl) ?_
  refine gf14_102 F hx0 hr dX14_setAlarm_8 ?_
  refine lv_iadd F.1 F.2.1 dX14_setAlarm_11 ?_
  refine pf14_141 F hx0 hr dX14_setAlarm_12 (x1 + (zgI z1 14 35 x0)) (fun H locs z2 ez2 hr => ?_)
  replace h := zl_sub ez2 h
  clear ez2
  obtain ⟨rfl, rfl⟩ := zret h
  exact E _ _ _ _ dX14_setAlarm_15 trivial hr
end SX14_setAlarm
set_option maxRecDepth 100000 in
theorem okX14_setAlarm (l : Launch) (D : va_G) (cy : Nat → ClassId) (B : Nat → Nat → Nat) (ids : List (Nat × Nat)) (hst : zSt B ids) (N : Nat) (x0 : Nat) (hx0 : (14, x0) ∈ ids) (x1 : Int32) {z : St} {r : Int32} {z' : St} (hW : zWf ids z) (h : fX14_setAlarm N x0 x1 z = some (r, z')) : zM l yX14_setAlarm (zws yX14_setAlarm cX14_setAlarm 2 none) rmX14_setAlarm D cy B ids [.ref (B 14 x0), .int x1] none True z z' :=
  zM_of hst hW (by decide +kernel) (Nat.le_of_ble_eq_true rfl) (fun p e s m args below meth c A ls F hA hret hlocks hr hl => bX14_setAlarm_0 hst F hA (zEnd_v F hret hlocks) x0 x1 hx0 hr hl h)
abbrev rmX14_resetWith : Room := { frames := 0, cells := 0, slots := 0, locals := 0 }
theorem hdX14_resetWith : yX14_resetWith.cls ≠ "java/lang/invoke/MethodHandle" ∧ yX14_resetWith.cls ≠ "java/lang/invoke/VarHandle" ∧ (parseMethodDescriptor yX14_resetWith.desc).map (fun d => d.parameters.length) = some 3 := by decide +kernel
section SX14_resetWith
variable {p : Program} {l : Launch} {e : Env} {s : State} {m : MethodId} {args : Array Value} {below : List Frame} {meth : Method} {c : Code} {Q : State → Prop} {D : va_G} {cy : Nat → ClassId} {B : Nat → Nat → Nat} {ids : List (Nat × Nat)} {A : Nat → Prop}
def fX14_resetWith (N : Nat)  (x0 : Nat) (x1 : Int32) (x2 : Int32) (x3 : Int32) (z : St) : Option (Int32 × St) := zl (zsI z 14 24 x0 (1 : Int32)) fun z1 => zl (zsI z1 14 25 x0 x1) fun z2 => zl (zsI z2 14 26 x0 x2) fun z3 => zl (zsI z3 14 27 x0 x3) fun z4 => some (0, z4)
set_option maxHeartbeats 4000000 in
set_option maxRecDepth 100000 in
theorem bX14_resetWith_0 (hst : zSt B ids) (F : zFx p m c cX14_resetWith 4 s args RX14 D cy B ids A) (hA : ∀ q : Nat, s.heap.size ≤ q → A q) {r : Int32} {z' : St} (E : zEnd p l e rmX14_resetWith s m args below meth c cX14_resetWith D cy B ids A Q none z' .return_ True) {N : Nat}  (x0 : Nat) (x1 : Int32) (x2 : Int32) (x3 : Int32) (hx0 : (14, x0) ∈ ids) {z : St} {H : Heap} {locs : List Loc} {ls : Array Slot} (hr : zRep D cy B ids A s.heap z H locs) (hl : lv_has ls 4 [(0, .ref (B 14 x0)), (1, .int x1), (2, .int x2), (3, .int x3)]) (h : fX14_resetWith N x0 x1 x2 x3 z = some (r, z')) : W p l e rmX14_resetWith s m args below meth c H locs 0 0 Q (F0 m 0 ls []) := by
  unfold fX14_resetWith at h
  refine lv_aload_n F.1 F.2.1 dX14_resetWith_0 rfl (lv_at hl 0 rfl) ?_
  refine lv_iconst (v := (1 : Int32)) F.1 F.2.1 dX14_resetWith_1 (by decide) ?_
  refine pf14_144 F hx0 hr dX14_resetWith_2 (1 : Int32) (by decide) (fun H locs z1 ez1 hr => ?_)
  replace h := zl_sub ez1 h
  clear ez1
  refine lv_aload_n F.1 F.2.1 dX14_resetWith_5 rfl (lv_at hl 0 rfl) ?_
  refine lv_iload_n F.1 F.2.1 dX14_resetWith_6 rfl (lv_at hl 1 rfl) ?_
  refine pf14_147 F hx0 hr dX14_resetWith_7 x1 (fun H locs z2 ez2 hr => ?_)
  replace h := zl_sub ez2 h
  clear ez2
  refine lv_aload_n F.1 F.2.1 dX14_resetWith_10 rfl (lv_at hl 0 rfl) ?_
  refine lv_iload_n F.1 F.2.1 dX14_resetWith_11 rfl (lv_at hl 2 rfl) ?_
  refine pf14_150 F hx0 hr dX14_resetWith_12 x2 (fun H locs z3 ez3 hr => ?_)
  replace h := zl_sub ez3 h
  clear ez3
  refine lv_aload_n F.1 F.2.1 dX14_resetWith_15 rfl (lv_at hl 0 rfl) ?_
  refine lv_iload_n F.1 F.2.1 dX14_resetWith_16 rfl (lv_at hl 3 rfl) ?_
  refine pf14_153 F hx0 hr dX14_resetWith_17 x3 (fun H locs z4 ez4 hr => ?_)
  replace h := zl_sub ez4 h
  clear ez4
  obtain ⟨rfl, rfl⟩ := zret h
  exact E _ _ _ _ dX14_resetWith_20 trivial hr
end SX14_resetWith
set_option maxRecDepth 100000 in
theorem okX14_resetWith (l : Launch) (D : va_G) (cy : Nat → ClassId) (B : Nat → Nat → Nat) (ids : List (Nat × Nat)) (hst : zSt B ids) (N : Nat) (x0 : Nat) (hx0 : (14, x0) ∈ ids) (x1 : Int32) (x2 : Int32) (x3 : Int32) {z : St} {r : Int32} {z' : St} (hW : zWf ids z) (h : fX14_resetWith N x0 x1 x2 x3 z = some (r, z')) : zM l yX14_resetWith (zws yX14_resetWith cX14_resetWith 4 none) rmX14_resetWith D cy B ids [.ref (B 14 x0), .int x1, .int x2, .int x3] none True z z' :=
  zM_of hst hW (by decide +kernel) (Nat.le_of_ble_eq_true rfl) (fun p e s m args below meth c A ls F hA hret hlocks hr hl => bX14_resetWith_0 hst F hA (zEnd_v F hret hlocks) x0 x1 x2 x3 hx0 hr hl h)
abbrev rmX14_time : Room := { frames := 0, cells := 0, slots := 0, locals := 0 }
theorem hdX14_time : yX14_time.cls ≠ "java/lang/invoke/MethodHandle" ∧ yX14_time.cls ≠ "java/lang/invoke/VarHandle" ∧ (parseMethodDescriptor yX14_time.desc).map (fun d => d.parameters.length) = some 1 := by decide +kernel
section SX14_time
variable {p : Program} {l : Launch} {e : Env} {s : State} {m : MethodId} {args : Array Value} {below : List Frame} {meth : Method} {c : Code} {Q : State → Prop} {D : va_G} {cy : Nat → ClassId} {B : Nat → Nat → Nat} {ids : List (Nat × Nat)} {A : Nat → Prop}
def fX14_time_99 (N : Nat)  (x0 : Nat) (s0 : Int32) (s1 : Int32) (z : St) : Option (Int32 × St) := zl (s0 + s1) fun v1 => if (20 : Int32) ≤ v1 then (if v1 ≤ (1200 : Int32) then (zl (zsI z 14 35 x0 v1) fun z4 => some (0, z4)) else (zl (zsI z 14 35 x0 (1200 : Int32)) fun z5 => some (0, z5))) else (zl (zsI z 14 35 x0 (20 : Int32)) fun z6 => some (0, z6))
set_option maxHeartbeats 4000000 in
set_option maxRecDepth 100000 in
theorem bX14_time_99 (hst : zSt B ids) (F : zFx p m c cX14_time 3 s args RX14 D cy B ids A) (hA : ∀ q : Nat, s.heap.size ≤ q → A q) {r : Int32} {z' : St} (E : zEnd p l e rmX14_time s m args below meth c cX14_time D cy B ids A Q none z' .return_ True) {N : Nat}  (x0 : Nat) (s0 : Int32) (s1 : Int32) (hx0 : (14, x0) ∈ ids) {z : St} {H : Heap} {locs : List Loc} {ls : Array Slot} (hr : zRep D cy B ids A s.heap z H locs) (hl : lv_has ls 3 [(0, .ref (B 14 x0))]) (h : fX14_time_99 N x0 s0 s1 z = some (r, z')) : W p l e rmX14_time s m args below meth c H locs 0 0 Q (F0 m 99 ls [.int s1, .int s0]) := by
  unfold fX14_time_99 at h
  refine lv_iadd F.1 F.2.1 dX14_time_99 ?_
  refine lv_topi (fun v1 ev1 => ?_)
  replace h := zl_sub ev1 h
  refine lv_istore_n (lv' := [(2, .int v1), (0, .ref (B 14 x0))]) F.1 F.2.1 dX14_time_100 rfl hl (by decide) rfl (fun ls hl => ?_)
  refine lv_aload_n F.1 F.2.1 dX14_time_101 rfl (lv_at hl 1 rfl) ?_
  refine lv_iload_n F.1 F.2.1 dX14_time_102 rfl (lv_at hl 0 rfl) ?_
  refine lv_bipush (v := (20 : Int32)) F.1 F.2.1 dX14_time_103 (by decide) ?_
  refine lv_icmp_ge (tgt := 113) F.1 F.2.1 dX14_time_105 (by decide) (fun c2 => ?_) (fun c2 => ?_)
  · replace h := zi_t c2 h
    refine lv_iload_n F.1 F.2.1 dX14_time_113 rfl (lv_at hl 0 rfl) ?_
    refine lv_sipush (v := (1200 : Int32)) F.1 F.2.1 dX14_time_114 (by decide) ?_
    refine lv_icmp_le (tgt := 126) F.1 F.2.1 dX14_time_117 (by decide) (fun c3 => ?_) (fun c3 => ?_)
    · replace h := zi_t c3 h
      refine lv_iload_n F.1 F.2.1 dX14_time_126 rfl (lv_at hl 0 rfl) ?_
      refine pf14_102 F hx0 hr dX14_time_127 v1 (fun H locs z4 ez4 hr => ?_)
      replace h := zl_sub ez4 h
      clear ez4
      obtain ⟨rfl, rfl⟩ := zret h
      exact E _ _ _ _ dX14_time_130 trivial hr
    · replace h := zi_f c3 h
      refine lv_sipush (v := (1200 : Int32)) F.1 F.2.1 dX14_time_120 (by decide) ?_
      refine lv_goto (tgt := 127) F.1 F.2.1 dX14_time_123 (by decide) ?_
      refine pf14_102 F hx0 hr dX14_time_127 (1200 : Int32) (fun H locs z5 ez5 hr => ?_)
      replace h := zl_sub ez5 h
      clear ez5
      obtain ⟨rfl, rfl⟩ := zret h
      exact E _ _ _ _ dX14_time_130 trivial hr
  · replace h := zi_f c2 h
    refine lv_bipush (v := (20 : Int32)) F.1 F.2.1 dX14_time_108 (by decide) ?_
    refine lv_goto (tgt := 127) F.1 F.2.1 dX14_time_110 (by decide) ?_
    refine pf14_102 F hx0 hr dX14_time_127 (20 : Int32) (fun H locs z6 ez6 hr => ?_)
    replace h := zl_sub ez6 h
    clear ez6
    obtain ⟨rfl, rfl⟩ := zret h
    exact E _ _ _ _ dX14_time_130 trivial hr
def fX14_time_76 (N : Nat)  (x0 : Nat) (z : St) : Option (Int32 × St) := if (zgI z 14 42 x0) ≤ (1 : Int32) then (fX14_time_99 N x0 ((zgI z 14 41 x0) / (8 : Int32)) (1 : Int32) z) else (fX14_time_99 N x0 ((zgI z 14 41 x0) / (8 : Int32)) (zgI z 14 42 x0) z)
set_option maxHeartbeats 4000000 in
set_option maxRecDepth 100000 in
theorem bX14_time_76 (hst : zSt B ids) (F : zFx p m c cX14_time 3 s args RX14 D cy B ids A) (hA : ∀ q : Nat, s.heap.size ≤ q → A q) {r : Int32} {z' : St} (E : zEnd p l e rmX14_time s m args below meth c cX14_time D cy B ids A Q none z' .return_ True) {N : Nat}  (x0 : Nat) (hx0 : (14, x0) ∈ ids) {z : St} {H : Heap} {locs : List Loc} {ls : Array Slot} (hr : zRep D cy B ids A s.heap z H locs) (hl : lv_has ls 3 [(0, .ref (B 14 x0))]) (h : fX14_time_76 N x0 z = some (r, z')) : W p l e rmX14_time s m args below meth c H locs 0 0 Q (F0 m 76 ls []) := by
  unfold fX14_time_76 at h
  refine lv_aload_n F.1 F.2.1 dX14_time_76 rfl (lv_at hl 0 rfl) ?_
  refine gf14_114 F hx0 hr dX14_time_77 ?_
  refine lv_bipush (v := (8 : Int32)) F.1 F.2.1 dX14_time_80 (by decide) ?_
  refine lv_idiv F.1 F.2.1 dX14_time_82 (by decide) ?_
  refine lv_aload_n F.1 F.2.1 dX14_time_83 rfl (lv_at hl 0 rfl) ?_
  refine gf14_117 F hx0 hr dX14_time_84 ?_
  refine lv_iconst (v := (1 : Int32)) F.1 F.2.1 dX14_time_87 (by decide) ?_
  refine lv_icmp_le (tgt := 98) F.1 F.2.1 dX14_time_88 (by decide) (fun c1 => ?_) (fun c1 => ?_)
  · replace h := zi_t c1 h
    refine lv_iconst (v := (1 : Int32)) F.1 F.2.1 dX14_time_98 (by decide) ?_
    exact bX14_time_99 hst F hA E  x0 ((zgI z 14 41 x0) / (8 : Int32)) (1 : Int32) hx0 hr (lv_sub hl [0] rfl) h
  · replace h := zi_f c1 h
    refine lv_aload_n F.1 F.2.1 dX14_time_91 rfl (lv_at hl 0 rfl) ?_
    refine gf14_117 F hx0 hr dX14_time_92 ?_
    refine lv_goto (tgt := 99) F.1 F.2.1 dX14_time_95 (by decide) ?_
    exact bX14_time_99 hst F hA E  x0 ((zgI z 14 41 x0) / (8 : Int32)) (zgI z 14 42 x0) hx0 hr (lv_sub hl [0] rfl) h
def fX14_time_42 (N : Nat)  (x0 : Nat) (s0 : Nat) (s1 : Int32) (s2 : Int32) (z : St) : Option (Int32 × St) := zl (zsI z 14 42 s0 (s1 + (s2 - ((zgI z 14 42 x0) / (4 : Int32))))) fun z1 => fX14_time_76 N x0 z1
set_option maxHeartbeats 4000000 in
set_option maxRecDepth 100000 in
theorem bX14_time_42 (hst : zSt B ids) (F : zFx p m c cX14_time 3 s args RX14 D cy B ids A) (hA : ∀ q : Nat, s.heap.size ≤ q → A q) {r : Int32} {z' : St} (E : zEnd p l e rmX14_time s m args below meth c cX14_time D cy B ids A Q none z' .return_ True) {N : Nat}  (x0 : Nat) (s0 : Nat) (s1 : Int32) (s2 : Int32) (hx0 : (14, x0) ∈ ids) (hs0 : (14, s0) ∈ ids) {z : St} {H : Heap} {locs : List Loc} {ls : Array Slot} (hr : zRep D cy B ids A s.heap z H locs) (hl : lv_has ls 3 [(0, .ref (B 14 x0))]) (h : fX14_time_42 N x0 s0 s1 s2 z = some (r, z')) : W p l e rmX14_time s m args below meth c H locs 0 0 Q (F0 m 42 ls [.int s2, .int s1, .ref (B 14 s0)]) := by
  unfold fX14_time_42 at h
  refine lv_aload_n F.1 F.2.1 dX14_time_42 rfl (lv_at hl 0 rfl) ?_
  refine gf14_117 F hx0 hr dX14_time_43 ?_
  refine lv_iconst (v := (4 : Int32)) F.1 F.2.1 dX14_time_46 (by decide) ?_
  refine lv_idiv F.1 F.2.1 dX14_time_47 (by decide) ?_
  refine lv_isub F.1 F.2.1 dX14_time_48 ?_
  refine lv_iadd F.1 F.2.1 dX14_time_49 ?_
  refine pf14_117 F hs0 hr dX14_time_50 (s1 + (s2 - ((zgI z 14 42 x0) / (4 : Int32)))) (fun H locs z1 ez1 hr => ?_)
  replace h := zl_sub ez1 h
  clear ez1
  refine lv_goto (tgt := 76) F.1 F.2.1 dX14_time_53 (by decide) ?_
  exact bX14_time_76 hst F hA E  x0 hx0 hr (lv_sub hl [0] rfl) h
def fX14_time (N : Nat)  (x0 : Nat) (x1 : Int32) (z : St) : Option (Int32 × St) := if (zgI z 14 40 x0) = 0 then (zl (zsI z 14 40 x0 (1 : Int32)) fun z2 => zl (zsI z2 14 41 x0 ((8 : Int32) * x1)) fun z3 => zl (zsI z3 14 42 x0 ((2 : Int32) * x1)) fun z4 => fX14_time_76 N x0 z4) else (zl (x1 - ((zgI z 14 41 x0) / (8 : Int32))) fun v5 => zl (zsI z 14 41 x0 ((zgI z 14 41 x0) + v5)) fun z6 => if 0 ≤ v5 then (fX14_time_42 N x0 x0 (zgI z6 14 42 x0) v5 z6) else (fX14_time_42 N x0 x0 (zgI z6 14 42 x0) (-v5) z6))
set_option maxHeartbeats 4000000 in
set_option maxRecDepth 100000 in
theorem bX14_time_0 (hst : zSt B ids) (F : zFx p m c cX14_time 3 s args RX14 D cy B ids A) (hA : ∀ q : Nat, s.heap.size ≤ q → A q) {r : Int32} {z' : St} (E : zEnd p l e rmX14_time s m args below meth c cX14_time D cy B ids A Q none z' .return_ True) {N : Nat}  (x0 : Nat) (x1 : Int32) (hx0 : (14, x0) ∈ ids) {z : St} {H : Heap} {locs : List Loc} {ls : Array Slot} (hr : zRep D cy B ids A s.heap z H locs) (hl : lv_has ls 3 [(0, .ref (B 14 x0)), (1, .int x1)]) (h : fX14_time N x0 x1 z = some (r, z')) : W p l e rmX14_time s m args below meth c H locs 0 0 Q (F0 m 0 ls []) := by
  unfold fX14_time at h
  refine lv_aload_n F.1 F.2.1 dX14_time_0 rfl (lv_at hl 0 rfl) ?_
  refine gf14_111 F hx0 hr dX14_time_1 ?_
  refine lv_if_eq (tgt := 56) F.1 F.2.1 dX14_time_4 (by decide) (fun c1 => ?_) (fun c1 => ?_)
  · replace h := zi_t c1 h
    refine lv_aload_n F.1 F.2.1 dX14_time_56 rfl (lv_at hl 0 rfl) ?_
    refine lv_iconst (v := (1 : Int32)) F.1 F.2.1 dX14_time_57 (by decide) ?_
    refine pf14_111 F hx0 hr dX14_time_58 (1 : Int32) (by decide) (fun H locs z2 ez2 hr => ?_)
    replace h := zl_sub ez2 h
    clear ez2
    refine lv_aload_n F.1 F.2.1 dX14_time_61 rfl (lv_at hl 0 rfl) ?_
    refine lv_bipush (v := (8 : Int32)) F.1 F.2.1 dX14_time_62 (by decide) ?_
    refine lv_iload_n F.1 F.2.1 dX14_time_64 rfl (lv_at hl 1 rfl) ?_
    refine lv_imul F.1 F.2.1 dX14_time_65 ?_
    refine pf14_114 F hx0 hr dX14_time_66 ((8 : Int32) * x1) (fun H locs z3 ez3 hr => ?_)
    replace h := zl_sub ez3 h
    clear ez3
    refine lv_aload_n F.1 F.2.1 dX14_time_69 rfl (lv_at hl 0 rfl) ?_
    refine lv_iconst (v := (2 : Int32)) F.1 F.2.1 dX14_time_70 (by decide) ?_
    refine lv_iload_n F.1 F.2.1 dX14_time_71 rfl (lv_at hl 1 rfl) ?_
    refine lv_imul F.1 F.2.1 dX14_time_72 ?_
    refine pf14_117 F hx0 hr dX14_time_73 ((2 : Int32) * x1) (fun H locs z4 ez4 hr => ?_)
    replace h := zl_sub ez4 h
    clear ez4
    exact bX14_time_76 hst F hA E  x0 hx0 hr (lv_sub hl [0] rfl) h
  · replace h := zi_f c1 h
    refine lv_iload_n F.1 F.2.1 dX14_time_7 rfl (lv_at hl 1 rfl) ?_
    refine lv_aload_n F.1 F.2.1 dX14_time_8 rfl (lv_at hl 0 rfl) ?_
    refine gf14_114 F hx0 hr dX14_time_9 ?_
    refine lv_bipush (v := (8 : Int32)) F.1 F.2.1 dX14_time_12 (by decide) ?_
    refine lv_idiv F.1 F.2.1 dX14_time_14 (by decide) ?_
    refine lv_isub F.1 F.2.1 dX14_time_15 ?_
    refine lv_topi (fun v5 ev5 => ?_)
    replace h := zl_sub ev5 h
    refine lv_istore_n (lv' := [(2, .int v5), (0, .ref (B 14 x0)), (1, .int x1)]) F.1 F.2.1 dX14_time_16 rfl hl (by decide) rfl (fun ls hl => ?_)
    refine lv_aload_n F.1 F.2.1 dX14_time_17 rfl (lv_at hl 1 rfl) ?_
    refine lv_dup F.1 F.2.1 dX14_time_18 rfl ?_
    refine gf14_114 F hx0 hr dX14_time_19 ?_
    refine lv_iload_n F.1 F.2.1 dX14_time_22 rfl (lv_at hl 0 rfl) ?_
    refine lv_iadd F.1 F.2.1 dX14_time_23 ?_
    refine pf14_114 F hx0 hr dX14_time_24 ((zgI z 14 41 x0) + v5) (fun H locs z6 ez6 hr => ?_)
    replace h := zl_sub ez6 h
    clear ez6
    refine lv_aload_n F.1 F.2.1 dX14_time_27 rfl (lv_at hl 1 rfl) ?_
    refine lv_dup F.1 F.2.1 dX14_time_28 rfl ?_
    refine gf14_117 F hx0 hr dX14_time_29 ?_
    refine lv_iload_n F.1 F.2.1 dX14_time_32 rfl (lv_at hl 0 rfl) ?_
    refine lv_if_ge (tgt := 41) F.1 F.2.1 dX14_time_33 (by decide) (fun c7 => ?_) (fun c7 => ?_)
    · replace h := zi_t c7 h
      refine lv_iload_n F.1 F.2.1 dX14_time_41 rfl (lv_at hl 0 rfl) ?_
      exact bX14_time_42 hst F hA E  x0 x0 (zgI z6 14 42 x0) v5 hx0 hx0 hr (lv_sub hl [1] rfl) h
    · replace h := zi_f c7 h
      refine lv_iload_n F.1 F.2.1 dX14_time_36 rfl (lv_at hl 0 rfl) ?_
      refine lv_ineg F.1 F.2.1 dX14_time_37 ?_
      refine lv_goto (tgt := 42) F.1 F.2.1 dX14_time_38 (by decide) ?_
      exact bX14_time_42 hst F hA E  x0 x0 (zgI z6 14 42 x0) (-v5) hx0 hx0 hr (lv_sub hl [1] rfl) h
end SX14_time
set_option maxRecDepth 100000 in
theorem okX14_time (l : Launch) (D : va_G) (cy : Nat → ClassId) (B : Nat → Nat → Nat) (ids : List (Nat × Nat)) (hst : zSt B ids) (N : Nat) (x0 : Nat) (hx0 : (14, x0) ∈ ids) (x1 : Int32) {z : St} {r : Int32} {z' : St} (hW : zWf ids z) (h : fX14_time N x0 x1 z = some (r, z')) : zM l yX14_time (zws yX14_time cX14_time 3 none) rmX14_time D cy B ids [.ref (B 14 x0), .int x1] none True z z' :=
  zM_of hst hW (by decide +kernel) (Nat.le_of_ble_eq_true rfl) (fun p e s m args below meth c A ls F hA hret hlocks hr hl => bX14_time_0 hst F hA (zEnd_v F hret hlocks) x0 x1 hx0 hr hl h)
abbrev rmX14_thankedFor : Room := { frames := 1, cells := 0, slots := 0, locals := 22 }
theorem hdX14_thankedFor : yX14_thankedFor.cls ≠ "java/lang/invoke/MethodHandle" ∧ yX14_thankedFor.cls ≠ "java/lang/invoke/VarHandle" ∧ (parseMethodDescriptor yX14_thankedFor.desc).map (fun d => d.parameters.length) = some 2 := by decide +kernel
theorem hroX14_thankedFor_X14_setAlarm : rmX14_setAlarm.frames + 1 ≤ rmX14_thankedFor.frames ∧ 8 + (2 + 11) + rmX14_setAlarm.locals ≤ rmX14_thankedFor.locals := by decide
theorem hroX14_thankedFor_X14_time : rmX14_time.frames + 1 ≤ rmX14_thankedFor.frames ∧ 8 + (3 + 11) + rmX14_time.locals ≤ rmX14_thankedFor.locals := by decide
theorem hroX14_thankedFor_X19_isBefore : rmX19_isBefore.frames + 1 ≤ rmX14_thankedFor.frames ∧ 8 + (2 + 11) + rmX19_isBefore.locals ≤ rmX14_thankedFor.locals := by decide
section SX14_thankedFor
variable {p : Program} {l : Launch} {e : Env} {s : State} {m : MethodId} {args : Array Value} {below : List Frame} {meth : Method} {c : Code} {Q : State → Prop} {D : va_G} {cy : Nat → ClassId} {B : Nat → Nat → Nat} {ids : List (Nat × Nat)} {A : Nat → Prop}
def fX14_thankedFor_38 (N : Nat)  (x0 : Nat) (x2 : Int32) (z : St) : Option (Int32 × St) := zl (zsI z 14 36 x0 (0 : Int32)) fun z1 => zl (zsI z1 14 30 x0 (0 : Int32)) fun z2 => if (zgI z2 14 6 x0) = (zgI z2 14 7 x0) then (zl (zsI z2 14 33 x0 (0 : Int32)) fun z4 => some (0, z4)) else (zc (fX14_setAlarm N x0 x2 z2) fun _ z6 => some (0, z6))
set_option maxHeartbeats 4000000 in
set_option maxRecDepth 100000 in
theorem bX14_thankedFor_38 (hst : zSt B ids) (F : zFx p m c cX14_thankedFor 3 s args RX14 D cy B ids A) (hA : ∀ q : Nat, s.heap.size ≤ q → A q) {r : Int32} {z' : St} (E : zEnd p l e rmX14_thankedFor s m args below meth c cX14_thankedFor D cy B ids A Q none z' .return_ True) {N : Nat}  (x0 : Nat) (x2 : Int32) (hx0 : (14, x0) ∈ ids) {z : St} {H : Heap} {locs : List Loc} {ls : Array Slot} (hr : zRep D cy B ids A s.heap z H locs) (hl : lv_has ls 3 [(0, .ref (B 14 x0)), (2, .int x2)]) (h : fX14_thankedFor_38 N x0 x2 z = some (r, z')) : W p l e rmX14_thankedFor s m args below meth c H locs 0 0 Q (F0 m 38 ls []) := by
  unfold fX14_thankedFor_38 at h
  refine lv_aload_n F.1 F.2.1 dX14_thankedFor_38 rfl (lv_at hl 0 rfl) ?_
  refine lv_iconst (v := (0 : Int32)) F.1 F.2.1 dX14_thankedFor_39 (by decide) ?_
  refine pf14_105 F hx0 hr dX14_thankedFor_40 (0 : Int32) (fun H locs z1 ez1 hr => ?_)
  replace h := zl_sub ez1 h
  clear ez1
  refine lv_aload_n F.1 F.2.1 dX14_thankedFor_43 rfl (lv_at hl 0 rfl) ?_
  refine lv_iconst (v := (0 : Int32)) F.1 F.2.1 dX14_thankedFor_44 (by decide) ?_
  refine pf14_90 F hx0 hr dX14_thankedFor_45 (0 : Int32) (by decide) (fun H locs z2 ez2 hr => ?_)
  replace h := zl_sub ez2 h
  clear ez2
  refine lv_aload_n F.1 F.2.1 dX14_thankedFor_48 rfl (lv_at hl 0 rfl) ?_
  refine gf14_45 F hx0 hr dX14_thankedFor_49 ?_
  refine lv_aload_n F.1 F.2.1 dX14_thankedFor_52 rfl (lv_at hl 0 rfl) ?_
  refine gf14_48 F hx0 hr dX14_thankedFor_53 ?_
  refine lv_icmp_eq (tgt := 67) F.1 F.2.1 dX14_thankedFor_56 (by decide) (fun c3 => ?_) (fun c3 => ?_)
  · replace h := zi_t c3 h
    refine lv_aload_n F.1 F.2.1 dX14_thankedFor_67 rfl (lv_at hl 0 rfl) ?_
    refine lv_iconst (v := (0 : Int32)) F.1 F.2.1 dX14_thankedFor_68 (by decide) ?_
    refine pf14_99 F hx0 hr dX14_thankedFor_69 (0 : Int32) (by decide) (fun H locs z4 ez4 hr => ?_)
    replace h := zl_sub ez4 h
    clear ez4
    obtain ⟨rfl, rfl⟩ := zret h
    exact E _ _ _ _ dX14_thankedFor_72 trivial hr
  · replace h := zi_f c3 h
    refine lv_aload_n F.1 F.2.1 dX14_thankedFor_59 rfl (lv_at hl 0 rfl) ?_
    refine lv_iload_n F.1 F.2.1 dX14_thankedFor_60 rfl (lv_at hl 1 rfl) ?_
    replace h := zc_some h
    obtain ⟨r5, z6, hc7, h⟩ := h
    refine zr_callv (zrun_V (As := [.int x2]) (rest := []) zq_2698 zq_2700 zs_X14_setAlarm zq_2701 zq_21 hdX14_setAlarm (by decide) (T := TX14) (N := 47) rfl (okX14_setAlarm l D cy B ids hst N x0 hx0 x2  hr.2.2 hc7) F hr hx0 hl.1 rfl (by decide) dX14_thankedFor_61 rfl rfl hroX14_thankedFor_X14_setAlarm ⟨Nat.zero_le _, Nat.zero_le _⟩) F hA hr (fun H locs hw8 hr => ?_)
    clear hc7
    refine lv_goto (tgt := 72) F.1 F.2.1 dX14_thankedFor_64 (by decide) ?_
    obtain ⟨rfl, rfl⟩ := zret h
    exact E _ _ _ _ dX14_thankedFor_72 trivial hr
def fX14_thankedFor (N : Nat)  (x0 : Nat) (x1 : Int32) (x2 : Int32) (z : St) : Option (Int32 × St) := zl (zsI z 14 6 x0 x1) fun z1 => if (zgI z1 14 37 x0) = 0 then (fX14_thankedFor_38 N x0 x2 z1) else (zc (fX19_isBefore N x1 (zgI z1 14 38 x0) z1) fun r3 z4 => if ¬ r3 = 0 then (fX14_thankedFor_38 N x0 x2 z4) else (zl (zsI z4 14 37 x0 (0 : Int32)) fun z8 => zc (fX14_time N x0 (x2 - (zgI z8 14 39 x0)) z8) fun _ z10 => fX14_thankedFor_38 N x0 x2 z10))
set_option maxHeartbeats 4000000 in
set_option maxRecDepth 100000 in
theorem bX14_thankedFor_0 (hst : zSt B ids) (F : zFx p m c cX14_thankedFor 3 s args RX14 D cy B ids A) (hA : ∀ q : Nat, s.heap.size ≤ q → A q) {r : Int32} {z' : St} (E : zEnd p l e rmX14_thankedFor s m args below meth c cX14_thankedFor D cy B ids A Q none z' .return_ True) {N : Nat}  (x0 : Nat) (x1 : Int32) (x2 : Int32) (hx0 : (14, x0) ∈ ids) {z : St} {H : Heap} {locs : List Loc} {ls : Array Slot} (hr : zRep D cy B ids A s.heap z H locs) (hl : lv_has ls 3 [(0, .ref (B 14 x0)), (1, .int x1), (2, .int x2)]) (h : fX14_thankedFor N x0 x1 x2 z = some (r, z')) : W p l e rmX14_thankedFor s m args below meth c H locs 0 0 Q (F0 m 0 ls []) := by
  unfold fX14_thankedFor at h
  refine lv_aload_n F.1 F.2.1 dX14_thankedFor_0 rfl (lv_at hl 0 rfl) ?_
  refine lv_iload_n F.1 F.2.1 dX14_thankedFor_1 rfl (lv_at hl 1 rfl) ?_
  refine pf14_45 F hx0 hr dX14_thankedFor_2 x1 (fun H locs z1 ez1 hr => ?_)
  replace h := zl_sub ez1 h
  clear ez1
  refine lv_aload_n F.1 F.2.1 dX14_thankedFor_5 rfl (lv_at hl 0 rfl) ?_
  refine gf14_108 F hx0 hr dX14_thankedFor_6 ?_
  refine lv_if_eq (tgt := 38) F.1 F.2.1 dX14_thankedFor_9 (by decide) (fun c2 => ?_) (fun c2 => ?_)
  · replace h := zi_t c2 h
    exact bX14_thankedFor_38 hst F hA E  x0 x2 hx0 hr (lv_sub hl [0, 2] rfl) h
  · replace h := zi_f c2 h
    refine lv_iload_n F.1 F.2.1 dX14_thankedFor_12 rfl (lv_at hl 1 rfl) ?_
    refine lv_aload_n F.1 F.2.1 dX14_thankedFor_13 rfl (lv_at hl 0 rfl) ?_
    refine gf14_156 F hx0 hr dX14_thankedFor_14 ?_
    replace h := zc_some h
    obtain ⟨r3, z4, hc5, h⟩ := h
    refine zr_calli (zrun_SN (As := [.int x1, .int (zgI z1 14 38 x0)]) (rest := []) zn_2691 zq_2692 zq_2693 zq_4 hdX19_isBefore (okX19_isBefore l D cy B ids hst N x1  (zgI z1 14 38 x0)  hr.2.2 hc5) F hr hl.1 rfl (by decide) dX14_thankedFor_17 rfl rfl hroX14_thankedFor_X19_isBefore ⟨Nat.zero_le _, Nat.zero_le _⟩) F hA hr (fun H locs hw6 hr => ?_)
    clear hc5
    refine lv_if_ne (tgt := 38) F.1 F.2.1 dX14_thankedFor_20 (by decide) (fun c7 => ?_) (fun c7 => ?_)
    · replace h := zi_t c7 h
      exact bX14_thankedFor_38 hst F hA E  x0 x2 hx0 hr (lv_sub hl [0, 2] rfl) h
    · replace h := zi_f (fun q => q c7) h
      refine lv_aload_n F.1 F.2.1 dX14_thankedFor_23 rfl (lv_at hl 0 rfl) ?_
      refine lv_iconst (v := (0 : Int32)) F.1 F.2.1 dX14_thankedFor_24 (by decide) ?_
      refine pf14_108 F hx0 hr dX14_thankedFor_25 (0 : Int32) (by decide) (fun H locs z8 ez8 hr => ?_)
      replace h := zl_sub ez8 h
      clear ez8
      refine lv_aload_n F.1 F.2.1 dX14_thankedFor_28 rfl (lv_at hl 0 rfl) ?_
      refine lv_iload_n F.1 F.2.1 dX14_thankedFor_29 rfl (lv_at hl 2 rfl) ?_
      refine lv_aload_n F.1 F.2.1 dX14_thankedFor_30 rfl (lv_at hl 0 rfl) ?_
      refine gf14_159 F hx0 hr dX14_thankedFor_31 ?_
      refine lv_isub F.1 F.2.1 dX14_thankedFor_34 ?_
      replace h := zc_some h
      obtain ⟨r9, z10, hc11, h⟩ := h
      refine zr_callv (zrun_V (As := [.int (x2 - (zgI z8 14 39 x0))]) (rest := []) zq_2694 zq_2696 zs_X14_time zq_2697 zq_21 hdX14_time (by decide) (T := TX14) (N := 47) rfl (okX14_time l D cy B ids hst N x0 hx0 (x2 - (zgI z8 14 39 x0))  hr.2.2 hc11) F hr hx0 hl.1 rfl (by decide) dX14_thankedFor_35 rfl rfl hroX14_thankedFor_X14_time ⟨Nat.zero_le _, Nat.zero_le _⟩) F hA hr (fun H locs hw12 hr => ?_)
      clear hc11
      exact bX14_thankedFor_38 hst F hA E  x0 x2 hx0 hr (lv_sub hl [0, 2] rfl) h
end SX14_thankedFor
set_option maxRecDepth 100000 in
theorem okX14_thankedFor (l : Launch) (D : va_G) (cy : Nat → ClassId) (B : Nat → Nat → Nat) (ids : List (Nat × Nat)) (hst : zSt B ids) (N : Nat) (x0 : Nat) (hx0 : (14, x0) ∈ ids) (x1 : Int32) (x2 : Int32) {z : St} {r : Int32} {z' : St} (hW : zWf ids z) (h : fX14_thankedFor N x0 x1 x2 z = some (r, z')) : zM l yX14_thankedFor (zws yX14_thankedFor cX14_thankedFor 3 none) rmX14_thankedFor D cy B ids [.ref (B 14 x0), .int x1, .int x2] none True z z' :=
  zM_of hst hW (by decide +kernel) (Nat.le_of_ble_eq_true rfl) (fun p e s m args below meth c A ls F hA hret hlocks hr hl => bX14_thankedFor_0 hst F hA (zEnd_v F hret hlocks) x0 x1 x2 hx0 hr hl h)
abbrev rmX14_fits : Room := { frames := 2, cells := 0, slots := 0, locals := 40 }
theorem hdX14_fits : yX14_fits.cls ≠ "java/lang/invoke/MethodHandle" ∧ yX14_fits.cls ≠ "java/lang/invoke/VarHandle" ∧ (parseMethodDescriptor yX14_fits.desc).map (fun d => d.parameters.length) = some 2 := by decide +kernel
theorem hroX14_fits_X14_room : rmX14_room.frames + 1 ≤ rmX14_fits.frames ∧ 8 + (1 + 11) + rmX14_room.locals ≤ rmX14_fits.locals := by decide
section SX14_fits
variable {p : Program} {l : Launch} {e : Env} {s : State} {m : MethodId} {args : Array Value} {below : List Frame} {meth : Method} {c : Code} {Q : State → Prop} {D : va_G} {cy : Nat → ClassId} {B : Nat → Nat → Nat} {ids : List (Nat × Nat)} {A : Nat → Prop}
def fX14_fits_27 (N : Nat)   (z : St) : Option (Int32 × St) := some ((1 : Int32), z)
set_option maxHeartbeats 4000000 in
set_option maxRecDepth 100000 in
theorem bX14_fits_27 (hst : zSt B ids) (F : zFx p m c cX14_fits 4 s args RX14 D cy B ids A) (hA : ∀ q : Nat, s.heap.size ≤ q → A q) {r : Int32} {z' : St} (E : zEnd p l e rmX14_fits s m args below meth c cX14_fits D cy B ids A Q (some (.int r)) z' .ireturn (r = 0 ∨ r = 1)) {N : Nat}    {z : St} {H : Heap} {locs : List Loc} {ls : Array Slot} (hr : zRep D cy B ids A s.heap z H locs) (hl : lv_has ls 4 []) (h : fX14_fits_27 N z = some (r, z')) : W p l e rmX14_fits s m args below meth c H locs 0 0 Q (F0 m 27 ls []) := by
  unfold fX14_fits_27 at h
  refine lv_iconst (v := (1 : Int32)) F.1 F.2.1 dX14_fits_27 (by decide) ?_
  refine lv_goto (tgt := 32) F.1 F.2.1 dX14_fits_28 (by decide) ?_
  obtain ⟨rfl, rfl⟩ := zret h
  exact E _ _ _ _ dX14_fits_32 (by decide) hr
def fX14_fits (N : Nat)  (x0 : Nat) (x1 : Int32) (x2 : Int32) (z : St) : Option (Int32 × St) := zl (x1 - (zgI z 14 16 x0)) fun v1 => if ¬ x2 = 0 then (zc (fX14_room N x0 z) fun r3 z4 => if r3 ≤ v1 then (some ((0 : Int32), z4)) else (if (v1 + x2) ≤ 0 then (some ((0 : Int32), z4)) else (zc (fX14_room N x0 z4) fun r9 z10 => if r9 ≤ 0 then (some ((0 : Int32), z10)) else (some ((1 : Int32), z10))))) else (if v1 = 0 then (fX14_fits_27 N z) else (if v1 ≤ 0 then (some ((0 : Int32), z)) else (zc (fX14_room N x0 z) fun r16 z17 => if r16 ≤ v1 then (some ((0 : Int32), z17)) else (fX14_fits_27 N z17))))
set_option maxHeartbeats 4000000 in
set_option maxRecDepth 100000 in
theorem bX14_fits_0 (hst : zSt B ids) (F : zFx p m c cX14_fits 4 s args RX14 D cy B ids A) (hA : ∀ q : Nat, s.heap.size ≤ q → A q) {r : Int32} {z' : St} (E : zEnd p l e rmX14_fits s m args below meth c cX14_fits D cy B ids A Q (some (.int r)) z' .ireturn (r = 0 ∨ r = 1)) {N : Nat}  (x0 : Nat) (x1 : Int32) (x2 : Int32) (hx0 : (14, x0) ∈ ids) {z : St} {H : Heap} {locs : List Loc} {ls : Array Slot} (hr : zRep D cy B ids A s.heap z H locs) (hl : lv_has ls 4 [(0, .ref (B 14 x0)), (1, .int x1), (2, .int x2)]) (h : fX14_fits N x0 x1 x2 z = some (r, z')) : W p l e rmX14_fits s m args below meth c H locs 0 0 Q (F0 m 0 ls []) := by
  unfold fX14_fits at h
  refine lv_iload_n F.1 F.2.1 dX14_fits_0 rfl (lv_at hl 1 rfl) ?_
  refine lv_aload_n F.1 F.2.1 dX14_fits_1 rfl (lv_at hl 0 rfl) ?_
  refine gf14_66 F hx0 hr dX14_fits_2 ?_
  refine lv_isub F.1 F.2.1 dX14_fits_5 ?_
  refine lv_topi (fun v1 ev1 => ?_)
  replace h := zl_sub ev1 h
  refine lv_istore_n (lv' := [(3, .int v1), (0, .ref (B 14 x0)), (1, .int x1), (2, .int x2)]) F.1 F.2.1 dX14_fits_6 rfl hl (by decide) rfl (fun ls hl => ?_)
  refine lv_iload_n F.1 F.2.1 dX14_fits_7 rfl (lv_at hl 3 rfl) ?_
  refine lv_if_ne (tgt := 33) F.1 F.2.1 dX14_fits_8 (by decide) (fun c2 => ?_) (fun c2 => ?_)
  · replace h := zi_t c2 h
    refine lv_iload_n F.1 F.2.1 dX14_fits_33 rfl (lv_at hl 0 rfl) ?_
    refine lv_aload_n F.1 F.2.1 dX14_fits_34 rfl (lv_at hl 1 rfl) ?_
    replace h := zc_some h
    obtain ⟨r3, z4, hc5, h⟩ := h
    refine zr_calli (zrun_V (As := []) (rest := [.int v1]) zq_2706 zq_2708 zs_X14_room zq_2709 zq_21 hdX14_room (by decide) (T := TX14) (N := 47) rfl (okX14_room l D cy B ids hst N x0 hx0 hr.2.2 hc5) F hr hx0 hl.1 rfl (Nat.le_of_ble_eq_true rfl) dX14_fits_35 rfl rfl hroX14_fits_X14_room ⟨Nat.zero_le _, Nat.zero_le _⟩) F hA hr (fun H locs hw6 hr => ?_)
    clear hc5
    refine lv_icmp_ge (tgt := 58) F.1 F.2.1 dX14_fits_38 (by decide) (fun c7 => ?_) (fun c7 => ?_)
    · replace h := zi_t c7 h
      refine lv_iconst (v := (0 : Int32)) F.1 F.2.1 dX14_fits_58 (by decide) ?_
      obtain ⟨rfl, rfl⟩ := zret h
      exact E _ _ _ _ dX14_fits_59 (by decide) hr
    · replace h := zi_f c7 h
      refine lv_iload_n F.1 F.2.1 dX14_fits_41 rfl (lv_at hl 0 rfl) ?_
      refine lv_iload_n F.1 F.2.1 dX14_fits_42 rfl (lv_at hl 3 rfl) ?_
      refine lv_iadd F.1 F.2.1 dX14_fits_43 ?_
      refine lv_if_le (tgt := 58) F.1 F.2.1 dX14_fits_44 (by decide) (fun c8 => ?_) (fun c8 => ?_)
      · replace h := zi_t c8 h
        refine lv_iconst (v := (0 : Int32)) F.1 F.2.1 dX14_fits_58 (by decide) ?_
        obtain ⟨rfl, rfl⟩ := zret h
        exact E _ _ _ _ dX14_fits_59 (by decide) hr
      · replace h := zi_f c8 h
        refine lv_aload_n F.1 F.2.1 dX14_fits_47 rfl (lv_at hl 1 rfl) ?_
        replace h := zc_some h
        obtain ⟨r9, z10, hc11, h⟩ := h
        refine zr_calli (zrun_V (As := []) (rest := []) zq_2706 zq_2708 zs_X14_room zq_2709 zq_21 hdX14_room (by decide) (T := TX14) (N := 47) rfl (okX14_room l D cy B ids hst N x0 hx0 hr.2.2 hc11) F hr hx0 hl.1 rfl (by decide) dX14_fits_48 rfl rfl hroX14_fits_X14_room ⟨Nat.zero_le _, Nat.zero_le _⟩) F hA hr (fun H locs hw12 hr => ?_)
        clear hc11
        refine lv_if_le (tgt := 58) F.1 F.2.1 dX14_fits_51 (by decide) (fun c13 => ?_) (fun c13 => ?_)
        · replace h := zi_t c13 h
          refine lv_iconst (v := (0 : Int32)) F.1 F.2.1 dX14_fits_58 (by decide) ?_
          obtain ⟨rfl, rfl⟩ := zret h
          exact E _ _ _ _ dX14_fits_59 (by decide) hr
        · replace h := zi_f c13 h
          refine lv_iconst (v := (1 : Int32)) F.1 F.2.1 dX14_fits_54 (by decide) ?_
          refine lv_goto (tgt := 59) F.1 F.2.1 dX14_fits_55 (by decide) ?_
          obtain ⟨rfl, rfl⟩ := zret h
          exact E _ _ _ _ dX14_fits_59 (by decide) hr
  · replace h := zi_f (fun q => q c2) h
    refine lv_iload_n F.1 F.2.1 dX14_fits_11 rfl (lv_at hl 0 rfl) ?_
    refine lv_if_eq (tgt := 27) F.1 F.2.1 dX14_fits_12 (by decide) (fun c14 => ?_) (fun c14 => ?_)
    · replace h := zi_t c14 h
      exact bX14_fits_27 hst F hA E   hr (lv_sub hl [] rfl) h
    · replace h := zi_f c14 h
      refine lv_iload_n F.1 F.2.1 dX14_fits_15 rfl (lv_at hl 0 rfl) ?_
      refine lv_if_le (tgt := 31) F.1 F.2.1 dX14_fits_16 (by decide) (fun c15 => ?_) (fun c15 => ?_)
      · replace h := zi_t c15 h
        refine lv_iconst (v := (0 : Int32)) F.1 F.2.1 dX14_fits_31 (by decide) ?_
        obtain ⟨rfl, rfl⟩ := zret h
        exact E _ _ _ _ dX14_fits_32 (by decide) hr
      · replace h := zi_f c15 h
        refine lv_iload_n F.1 F.2.1 dX14_fits_19 rfl (lv_at hl 0 rfl) ?_
        refine lv_aload_n F.1 F.2.1 dX14_fits_20 rfl (lv_at hl 1 rfl) ?_
        replace h := zc_some h
        obtain ⟨r16, z17, hc18, h⟩ := h
        refine zr_calli (zrun_V (As := []) (rest := [.int v1]) zq_2706 zq_2708 zs_X14_room zq_2709 zq_21 hdX14_room (by decide) (T := TX14) (N := 47) rfl (okX14_room l D cy B ids hst N x0 hx0 hr.2.2 hc18) F hr hx0 hl.1 rfl (Nat.le_of_ble_eq_true rfl) dX14_fits_21 rfl rfl hroX14_fits_X14_room ⟨Nat.zero_le _, Nat.zero_le _⟩) F hA hr (fun H locs hw19 hr => ?_)
        clear hc18
        refine lv_icmp_ge (tgt := 31) F.1 F.2.1 dX14_fits_24 (by decide) (fun c20 => ?_) (fun c20 => ?_)
        · replace h := zi_t c20 h
          refine lv_iconst (v := (0 : Int32)) F.1 F.2.1 dX14_fits_31 (by decide) ?_
          obtain ⟨rfl, rfl⟩ := zret h
          exact E _ _ _ _ dX14_fits_32 (by decide) hr
        · replace h := zi_f c20 h
          exact bX14_fits_27 hst F hA E   hr (lv_sub hl [] rfl) h
end SX14_fits
set_option maxRecDepth 100000 in
theorem okX14_fits (l : Launch) (D : va_G) (cy : Nat → ClassId) (B : Nat → Nat → Nat) (ids : List (Nat × Nat)) (hst : zSt B ids) (N : Nat) (x0 : Nat) (hx0 : (14, x0) ∈ ids) (x1 : Int32) (x2 : Int32) {z : St} {r : Int32} {z' : St} (hW : zWf ids z) (h : fX14_fits N x0 x1 x2 z = some (r, z')) : zM l yX14_fits (zws yX14_fits cX14_fits 4 (some .boolean)) rmX14_fits D cy B ids [.ref (B 14 x0), .int x1, .int x2] (some (.int r)) (r = 0 ∨ r = 1) z z' :=
  zM_of hst hW (by decide +kernel) (Nat.le_of_ble_eq_true rfl) (fun p e s m args below meth c A ls F hA hret hlocks hr hl => bX14_fits_0 hst F hA (zEnd_z F hret hlocks) x0 x1 x2 hx0 hr hl h)
abbrev rmX14_isNew : Room := { frames := 1, cells := 0, slots := 0, locals := 21 }
theorem hdX14_isNew : yX14_isNew.cls ≠ "java/lang/invoke/MethodHandle" ∧ yX14_isNew.cls ≠ "java/lang/invoke/VarHandle" ∧ (parseMethodDescriptor yX14_isNew.desc).map (fun d => d.parameters.length) = some 1 := by decide +kernel
theorem hroX14_isNew_X14_setAlarm : rmX14_setAlarm.frames + 1 ≤ rmX14_isNew.frames ∧ 8 + (2 + 11) + rmX14_setAlarm.locals ≤ rmX14_isNew.locals := by decide
section SX14_isNew
variable {p : Program} {l : Launch} {e : Env} {s : State} {m : MethodId} {args : Array Value} {below : List Frame} {meth : Method} {c : Code} {Q : State → Prop} {D : va_G} {cy : Nat → ClassId} {B : Nat → Nat → Nat} {ids : List (Nat × Nat)} {A : Nat → Prop}
def fX14_isNew_12 (N : Nat)  (x0 : Nat) (x1 : Int32) (z : St) : Option (Int32 × St) := if ¬ (zgI z 14 37 x0) = 0 then (some (0, z)) else (zl (zsI z 14 37 x0 (1 : Int32)) fun z2 => zl (zsI z2 14 38 x0 (zgI z2 14 7 x0)) fun z3 => zl (zsI z3 14 39 x0 x1) fun z4 => some (0, z4))
set_option maxHeartbeats 4000000 in
set_option maxRecDepth 100000 in
theorem bX14_isNew_12 (hst : zSt B ids) (F : zFx p m c cX14_isNew 2 s args RX14 D cy B ids A) (hA : ∀ q : Nat, s.heap.size ≤ q → A q) {r : Int32} {z' : St} (E : zEnd p l e rmX14_isNew s m args below meth c cX14_isNew D cy B ids A Q none z' .return_ True) {N : Nat}  (x0 : Nat) (x1 : Int32) (hx0 : (14, x0) ∈ ids) {z : St} {H : Heap} {locs : List Loc} {ls : Array Slot} (hr : zRep D cy B ids A s.heap z H locs) (hl : lv_has ls 2 [(0, .ref (B 14 x0)), (1, .int x1)]) (h : fX14_isNew_12 N x0 x1 z = some (r, z')) : W p l e rmX14_isNew s m args below meth c H locs 0 0 Q (F0 m 12 ls []) := by
  unfold fX14_isNew_12 at h
  refine lv_aload_n F.1 F.2.1 dX14_isNew_12 rfl (lv_at hl 0 rfl) ?_
  refine gf14_108 F hx0 hr dX14_isNew_13 ?_
  refine lv_if_ne (tgt := 37) F.1 F.2.1 dX14_isNew_16 (by decide) (fun c1 => ?_) (fun c1 => ?_)
  · replace h := zi_t c1 h
    obtain ⟨rfl, rfl⟩ := zret h
    exact E _ _ _ _ dX14_isNew_37 trivial hr
  · replace h := zi_f (fun q => q c1) h
    refine lv_aload_n F.1 F.2.1 dX14_isNew_19 rfl (lv_at hl 0 rfl) ?_
    refine lv_iconst (v := (1 : Int32)) F.1 F.2.1 dX14_isNew_20 (by decide) ?_
    refine pf14_108 F hx0 hr dX14_isNew_21 (1 : Int32) (by decide) (fun H locs z2 ez2 hr => ?_)
    replace h := zl_sub ez2 h
    clear ez2
    refine lv_aload_n F.1 F.2.1 dX14_isNew_24 rfl (lv_at hl 0 rfl) ?_
    refine lv_aload_n F.1 F.2.1 dX14_isNew_25 rfl (lv_at hl 0 rfl) ?_
    refine gf14_48 F hx0 hr dX14_isNew_26 ?_
    refine pf14_156 F hx0 hr dX14_isNew_29 (zgI z2 14 7 x0) (fun H locs z3 ez3 hr => ?_)
    replace h := zl_sub ez3 h
    clear ez3
    refine lv_aload_n F.1 F.2.1 dX14_isNew_32 rfl (lv_at hl 0 rfl) ?_
    refine lv_iload_n F.1 F.2.1 dX14_isNew_33 rfl (lv_at hl 1 rfl) ?_
    refine pf14_159 F hx0 hr dX14_isNew_34 x1 (fun H locs z4 ez4 hr => ?_)
    replace h := zl_sub ez4 h
    clear ez4
    obtain ⟨rfl, rfl⟩ := zret h
    exact E _ _ _ _ dX14_isNew_37 trivial hr
def fX14_isNew (N : Nat)  (x0 : Nat) (x1 : Int32) (z : St) : Option (Int32 × St) := if ¬ (zgI z 14 33 x0) = 0 then (fX14_isNew_12 N x0 x1 z) else (zc (fX14_setAlarm N x0 x1 z) fun _ z3 => fX14_isNew_12 N x0 x1 z3)
set_option maxHeartbeats 4000000 in
set_option maxRecDepth 100000 in
theorem bX14_isNew_0 (hst : zSt B ids) (F : zFx p m c cX14_isNew 2 s args RX14 D cy B ids A) (hA : ∀ q : Nat, s.heap.size ≤ q → A q) {r : Int32} {z' : St} (E : zEnd p l e rmX14_isNew s m args below meth c cX14_isNew D cy B ids A Q none z' .return_ True) {N : Nat}  (x0 : Nat) (x1 : Int32) (hx0 : (14, x0) ∈ ids) {z : St} {H : Heap} {locs : List Loc} {ls : Array Slot} (hr : zRep D cy B ids A s.heap z H locs) (hl : lv_has ls 2 [(0, .ref (B 14 x0)), (1, .int x1)]) (h : fX14_isNew N x0 x1 z = some (r, z')) : W p l e rmX14_isNew s m args below meth c H locs 0 0 Q (F0 m 0 ls []) := by
  unfold fX14_isNew at h
  refine lv_aload_n F.1 F.2.1 dX14_isNew_0 rfl (lv_at hl 0 rfl) ?_
  refine gf14_99 F hx0 hr dX14_isNew_1 ?_
  refine lv_if_ne (tgt := 12) F.1 F.2.1 dX14_isNew_4 (by decide) (fun c1 => ?_) (fun c1 => ?_)
  · replace h := zi_t c1 h
    exact bX14_isNew_12 hst F hA E  x0 x1 hx0 hr (lv_sub hl [0, 1] rfl) h
  · replace h := zi_f (fun q => q c1) h
    refine lv_aload_n F.1 F.2.1 dX14_isNew_7 rfl (lv_at hl 0 rfl) ?_
    refine lv_iload_n F.1 F.2.1 dX14_isNew_8 rfl (lv_at hl 1 rfl) ?_
    replace h := zc_some h
    obtain ⟨r2, z3, hc4, h⟩ := h
    refine zr_callv (zrun_V (As := [.int x1]) (rest := []) zq_2698 zq_2700 zs_X14_setAlarm zq_2701 zq_21 hdX14_setAlarm (by decide) (T := TX14) (N := 47) rfl (okX14_setAlarm l D cy B ids hst N x0 hx0 x1  hr.2.2 hc4) F hr hx0 hl.1 rfl (by decide) dX14_isNew_9 rfl rfl hroX14_isNew_X14_setAlarm ⟨Nat.zero_le _, Nat.zero_le _⟩) F hA hr (fun H locs hw5 hr => ?_)
    clear hc4
    exact bX14_isNew_12 hst F hA E  x0 x1 hx0 hr (lv_sub hl [0, 1] rfl) h
end SX14_isNew
set_option maxRecDepth 100000 in
theorem okX14_isNew (l : Launch) (D : va_G) (cy : Nat → ClassId) (B : Nat → Nat → Nat) (ids : List (Nat × Nat)) (hst : zSt B ids) (N : Nat) (x0 : Nat) (hx0 : (14, x0) ∈ ids) (x1 : Int32) {z : St} {r : Int32} {z' : St} (hW : zWf ids z) (h : fX14_isNew N x0 x1 z = some (r, z')) : zM l yX14_isNew (zws yX14_isNew cX14_isNew 2 none) rmX14_isNew D cy B ids [.ref (B 14 x0), .int x1] none True z z' :=
  zM_of hst hW (by decide +kernel) (Nat.le_of_ble_eq_true rfl) (fun p e s m args below meth c A ls F hA hret hlocks hr hl => bX14_isNew_0 hst F hA (zEnd_v F hret hlocks) x0 x1 hx0 hr hl h)
abbrev rmX14_ring : Room := { frames := 1, cells := 0, slots := 0, locals := 22 }
theorem hdX14_ring : yX14_ring.cls ≠ "java/lang/invoke/MethodHandle" ∧ yX14_ring.cls ≠ "java/lang/invoke/VarHandle" ∧ (parseMethodDescriptor yX14_ring.desc).map (fun d => d.parameters.length) = some 1 := by decide +kernel
theorem hroX14_ring_X14_become : rmX14_become.frames + 1 ≤ rmX14_ring.frames ∧ 8 + (3 + 11) + rmX14_become.locals ≤ rmX14_ring.locals := by decide
theorem hroX14_ring_X14_setAlarm : rmX14_setAlarm.frames + 1 ≤ rmX14_ring.frames ∧ 8 + (2 + 11) + rmX14_setAlarm.locals ≤ rmX14_ring.locals := by decide
section SX14_ring
variable {p : Program} {l : Launch} {e : Env} {s : State} {m : MethodId} {args : Array Value} {below : List Frame} {meth : Method} {c : Code} {Q : State → Prop} {D : va_G} {cy : Nat → ClassId} {B : Nat → Nat → Nat} {ids : List (Nat × Nat)} {A : Nat → Prop}
def fX14_ring_105 (N : Nat)  (x0 : Nat) (x1 : Int32) (s0 : Nat) (s1 : Int32) (z : St) : Option (Int32 × St) := zl (zsI z 14 35 s0 s1) fun z1 => zc (fX14_setAlarm N x0 x1 z1) fun _ z3 => some (0, z3)
set_option maxHeartbeats 4000000 in
set_option maxRecDepth 100000 in
theorem bX14_ring_105 (hst : zSt B ids) (F : zFx p m c cX14_ring 2 s args RX14 D cy B ids A) (hA : ∀ q : Nat, s.heap.size ≤ q → A q) {r : Int32} {z' : St} (E : zEnd p l e rmX14_ring s m args below meth c cX14_ring D cy B ids A Q none z' .return_ True) {N : Nat}  (x0 : Nat) (x1 : Int32) (s0 : Nat) (s1 : Int32) (hx0 : (14, x0) ∈ ids) (hs0 : (14, s0) ∈ ids) {z : St} {H : Heap} {locs : List Loc} {ls : Array Slot} (hr : zRep D cy B ids A s.heap z H locs) (hl : lv_has ls 2 [(0, .ref (B 14 x0)), (1, .int x1)]) (h : fX14_ring_105 N x0 x1 s0 s1 z = some (r, z')) : W p l e rmX14_ring s m args below meth c H locs 0 0 Q (F0 m 105 ls [.int s1, .ref (B 14 s0)]) := by
  unfold fX14_ring_105 at h
  refine pf14_102 F hs0 hr dX14_ring_105 s1 (fun H locs z1 ez1 hr => ?_)
  replace h := zl_sub ez1 h
  clear ez1
  refine lv_aload_n F.1 F.2.1 dX14_ring_108 rfl (lv_at hl 0 rfl) ?_
  refine lv_iload_n F.1 F.2.1 dX14_ring_109 rfl (lv_at hl 1 rfl) ?_
  replace h := zc_some h
  obtain ⟨r2, z3, hc4, h⟩ := h
  refine zr_callv (zrun_V (As := [.int x1]) (rest := []) zq_2698 zq_2700 zs_X14_setAlarm zq_2701 zq_21 hdX14_setAlarm (by decide) (T := TX14) (N := 47) rfl (okX14_setAlarm l D cy B ids hst N x0 hx0 x1  hr.2.2 hc4) F hr hx0 hl.1 rfl (by decide) dX14_ring_110 rfl rfl hroX14_ring_X14_setAlarm ⟨Nat.zero_le _, Nat.zero_le _⟩) F hA hr (fun H locs hw5 hr => ?_)
  clear hc4
  obtain ⟨rfl, rfl⟩ := zret h
  exact E _ _ _ _ dX14_ring_113 trivial hr
def fX14_ring_80 (N : Nat)  (x0 : Nat) (x1 : Int32) (z : St) : Option (Int32 × St) := if ((2 : Int32) * (zgI z 14 35 x0)) ≤ (1200 : Int32) then (fX14_ring_105 N x0 x1 x0 ((2 : Int32) * (zgI z 14 35 x0)) z) else (fX14_ring_105 N x0 x1 x0 (1200 : Int32) z)
set_option maxHeartbeats 4000000 in
set_option maxRecDepth 100000 in
theorem bX14_ring_80 (hst : zSt B ids) (F : zFx p m c cX14_ring 2 s args RX14 D cy B ids A) (hA : ∀ q : Nat, s.heap.size ≤ q → A q) {r : Int32} {z' : St} (E : zEnd p l e rmX14_ring s m args below meth c cX14_ring D cy B ids A Q none z' .return_ True) {N : Nat}  (x0 : Nat) (x1 : Int32) (hx0 : (14, x0) ∈ ids) {z : St} {H : Heap} {locs : List Loc} {ls : Array Slot} (hr : zRep D cy B ids A s.heap z H locs) (hl : lv_has ls 2 [(0, .ref (B 14 x0)), (1, .int x1)]) (h : fX14_ring_80 N x0 x1 z = some (r, z')) : W p l e rmX14_ring s m args below meth c H locs 0 0 Q (F0 m 80 ls []) := by
  unfold fX14_ring_80 at h
  refine lv_aload_n F.1 F.2.1 dX14_ring_80 rfl (lv_at hl 0 rfl) ?_
  refine lv_iconst (v := (2 : Int32)) F.1 F.2.1 dX14_ring_81 (by decide) ?_
  refine lv_aload_n F.1 F.2.1 dX14_ring_82 rfl (lv_at hl 0 rfl) ?_
  refine gf14_102 F hx0 hr dX14_ring_83 ?_
  refine lv_imul F.1 F.2.1 dX14_ring_86 ?_
  refine lv_sipush (v := (1200 : Int32)) F.1 F.2.1 dX14_ring_87 (by decide) ?_
  refine lv_icmp_le (tgt := 99) F.1 F.2.1 dX14_ring_90 (by decide) (fun c1 => ?_) (fun c1 => ?_)
  · replace h := zi_t c1 h
    refine lv_iconst (v := (2 : Int32)) F.1 F.2.1 dX14_ring_99 (by decide) ?_
    refine lv_aload_n F.1 F.2.1 dX14_ring_100 rfl (lv_at hl 0 rfl) ?_
    refine gf14_102 F hx0 hr dX14_ring_101 ?_
    refine lv_imul F.1 F.2.1 dX14_ring_104 ?_
    exact bX14_ring_105 hst F hA E  x0 x1 x0 ((2 : Int32) * (zgI z 14 35 x0)) hx0 hx0 hr (lv_sub hl [0, 1] rfl) h
  · replace h := zi_f c1 h
    refine lv_sipush (v := (1200 : Int32)) F.1 F.2.1 dX14_ring_93 (by decide) ?_
    refine lv_goto (tgt := 105) F.1 F.2.1 dX14_ring_96 (by decide) ?_
    exact bX14_ring_105 hst F hA E  x0 x1 x0 (1200 : Int32) hx0 hx0 hr (lv_sub hl [0, 1] rfl) h
def fX14_ring_67 (N : Nat)  (x0 : Nat) (x1 : Int32) (z : St) : Option (Int32 × St) := zl (zsI z 14 28 x0 (1 : Int32)) fun z1 => fX14_ring_80 N x0 x1 z1
set_option maxHeartbeats 4000000 in
set_option maxRecDepth 100000 in
theorem bX14_ring_67 (hst : zSt B ids) (F : zFx p m c cX14_ring 2 s args RX14 D cy B ids A) (hA : ∀ q : Nat, s.heap.size ≤ q → A q) {r : Int32} {z' : St} (E : zEnd p l e rmX14_ring s m args below meth c cX14_ring D cy B ids A Q none z' .return_ True) {N : Nat}  (x0 : Nat) (x1 : Int32) (hx0 : (14, x0) ∈ ids) {z : St} {H : Heap} {locs : List Loc} {ls : Array Slot} (hr : zRep D cy B ids A s.heap z H locs) (hl : lv_has ls 2 [(0, .ref (B 14 x0)), (1, .int x1)]) (h : fX14_ring_67 N x0 x1 z = some (r, z')) : W p l e rmX14_ring s m args below meth c H locs 0 0 Q (F0 m 67 ls []) := by
  unfold fX14_ring_67 at h
  refine lv_aload_n F.1 F.2.1 dX14_ring_67 rfl (lv_at hl 0 rfl) ?_
  refine lv_iconst (v := (1 : Int32)) F.1 F.2.1 dX14_ring_68 (by decide) ?_
  refine pf14_84 F hx0 hr dX14_ring_69 (1 : Int32) (by decide) (fun H locs z1 ez1 hr => ?_)
  replace h := zl_sub ez1 h
  clear ez1
  refine lv_goto (tgt := 80) F.1 F.2.1 dX14_ring_72 (by decide) ?_
  exact bX14_ring_80 hst F hA E  x0 x1 hx0 hr (lv_sub hl [0, 1] rfl) h
def fX14_ring (N : Nat)  (x0 : Nat) (x1 : Int32) (z : St) : Option (Int32 × St) := zl (zsI z 14 33 x0 (0 : Int32)) fun z1 => zl (zsI z1 14 36 x0 ((zgI z1 14 36 x0) + (1 : Int32))) fun z2 => if (zgI z2 14 36 x0) ≤ (8 : Int32) then (if ¬ (zgI z2 14 6 x0) = (zgI z2 14 7 x0) then (if (zgI z2 14 0 x0) = (2 : Int32) then (fX14_ring_67 N x0 x1 z2) else (if ¬ (zgI z2 14 0 x0) = (3 : Int32) then (zl (zsI z2 14 30 x0 (1 : Int32)) fun z7 => fX14_ring_80 N x0 x1 z7) else (fX14_ring_67 N x0 x1 z2))) else (zl (zsI z2 14 31 x0 (1 : Int32)) fun z8 => fX14_ring_80 N x0 x1 z8)) else (zc (fX14_become N x0 (11 : Int32) x1 z2) fun _ z10 => some (0, z10))
set_option maxHeartbeats 4000000 in
set_option maxRecDepth 100000 in
theorem bX14_ring_0 (hst : zSt B ids) (F : zFx p m c cX14_ring 2 s args RX14 D cy B ids A) (hA : ∀ q : Nat, s.heap.size ≤ q → A q) {r : Int32} {z' : St} (E : zEnd p l e rmX14_ring s m args below meth c cX14_ring D cy B ids A Q none z' .return_ True) {N : Nat}  (x0 : Nat) (x1 : Int32) (hx0 : (14, x0) ∈ ids) {z : St} {H : Heap} {locs : List Loc} {ls : Array Slot} (hr : zRep D cy B ids A s.heap z H locs) (hl : lv_has ls 2 [(0, .ref (B 14 x0)), (1, .int x1)]) (h : fX14_ring N x0 x1 z = some (r, z')) : W p l e rmX14_ring s m args below meth c H locs 0 0 Q (F0 m 0 ls []) := by
  unfold fX14_ring at h
  refine lv_aload_n F.1 F.2.1 dX14_ring_0 rfl (lv_at hl 0 rfl) ?_
  refine lv_iconst (v := (0 : Int32)) F.1 F.2.1 dX14_ring_1 (by decide) ?_
  refine pf14_99 F hx0 hr dX14_ring_2 (0 : Int32) (by decide) (fun H locs z1 ez1 hr => ?_)
  replace h := zl_sub ez1 h
  clear ez1
  refine lv_aload_n F.1 F.2.1 dX14_ring_5 rfl (lv_at hl 0 rfl) ?_
  refine lv_dup F.1 F.2.1 dX14_ring_6 rfl ?_
  refine gf14_105 F hx0 hr dX14_ring_7 ?_
  refine lv_iconst (v := (1 : Int32)) F.1 F.2.1 dX14_ring_10 (by decide) ?_
  refine lv_iadd F.1 F.2.1 dX14_ring_11 ?_
  refine pf14_105 F hx0 hr dX14_ring_12 ((zgI z1 14 36 x0) + (1 : Int32)) (fun H locs z2 ez2 hr => ?_)
  replace h := zl_sub ez2 h
  clear ez2
  refine lv_aload_n F.1 F.2.1 dX14_ring_15 rfl (lv_at hl 0 rfl) ?_
  refine gf14_105 F hx0 hr dX14_ring_16 ?_
  refine lv_bipush (v := (8 : Int32)) F.1 F.2.1 dX14_ring_19 (by decide) ?_
  refine lv_icmp_le (tgt := 32) F.1 F.2.1 dX14_ring_21 (by decide) (fun c3 => ?_) (fun c3 => ?_)
  · replace h := zi_t c3 h
    refine lv_aload_n F.1 F.2.1 dX14_ring_32 rfl (lv_at hl 0 rfl) ?_
    refine gf14_45 F hx0 hr dX14_ring_33 ?_
    refine lv_aload_n F.1 F.2.1 dX14_ring_36 rfl (lv_at hl 0 rfl) ?_
    refine gf14_48 F hx0 hr dX14_ring_37 ?_
    refine lv_icmp_ne (tgt := 51) F.1 F.2.1 dX14_ring_40 (by decide) (fun c4 => ?_) (fun c4 => ?_)
    · replace h := zi_t c4 h
      refine lv_aload_n F.1 F.2.1 dX14_ring_51 rfl (lv_at hl 0 rfl) ?_
      refine gf14_29 F hx0 hr dX14_ring_52 ?_
      refine lv_iconst (v := (2 : Int32)) F.1 F.2.1 dX14_ring_55 (by decide) ?_
      refine lv_icmp_eq (tgt := 67) F.1 F.2.1 dX14_ring_56 (by decide) (fun c5 => ?_) (fun c5 => ?_)
      · replace h := zi_t c5 h
        exact bX14_ring_67 hst F hA E  x0 x1 hx0 hr (lv_sub hl [0, 1] rfl) h
      · replace h := zi_f c5 h
        refine lv_aload_n F.1 F.2.1 dX14_ring_59 rfl (lv_at hl 0 rfl) ?_
        refine gf14_29 F hx0 hr dX14_ring_60 ?_
        refine lv_iconst (v := (3 : Int32)) F.1 F.2.1 dX14_ring_63 (by decide) ?_
        refine lv_icmp_ne (tgt := 75) F.1 F.2.1 dX14_ring_64 (by decide) (fun c6 => ?_) (fun c6 => ?_)
        · replace h := zi_t c6 h
          refine lv_aload_n F.1 F.2.1 dX14_ring_75 rfl (lv_at hl 0 rfl) ?_
          refine lv_iconst (v := (1 : Int32)) F.1 F.2.1 dX14_ring_76 (by decide) ?_
          refine pf14_90 F hx0 hr dX14_ring_77 (1 : Int32) (by decide) (fun H locs z7 ez7 hr => ?_)
          replace h := zl_sub ez7 h
          clear ez7
          exact bX14_ring_80 hst F hA E  x0 x1 hx0 hr (lv_sub hl [0, 1] rfl) h
        · replace h := zi_f (fun q => q c6) h
          exact bX14_ring_67 hst F hA E  x0 x1 hx0 hr (lv_sub hl [0, 1] rfl) h
    · replace h := zi_f (fun q => q c4) h
      refine lv_aload_n F.1 F.2.1 dX14_ring_43 rfl (lv_at hl 0 rfl) ?_
      refine lv_iconst (v := (1 : Int32)) F.1 F.2.1 dX14_ring_44 (by decide) ?_
      refine pf14_93 F hx0 hr dX14_ring_45 (1 : Int32) (by decide) (fun H locs z8 ez8 hr => ?_)
      replace h := zl_sub ez8 h
      clear ez8
      refine lv_goto (tgt := 80) F.1 F.2.1 dX14_ring_48 (by decide) ?_
      exact bX14_ring_80 hst F hA E  x0 x1 hx0 hr (lv_sub hl [0, 1] rfl) h
  · replace h := zi_f c3 h
    refine lv_aload_n F.1 F.2.1 dX14_ring_24 rfl (lv_at hl 0 rfl) ?_
    refine lv_bipush (v := (11 : Int32)) F.1 F.2.1 dX14_ring_25 (by decide) ?_
    refine lv_iload_n F.1 F.2.1 dX14_ring_27 rfl (lv_at hl 1 rfl) ?_
    replace h := zc_some h
    obtain ⟨r9, z10, hc11, h⟩ := h
    refine zr_callv (zrun_V (As := [.int (11 : Int32), .int x1]) (rest := []) zq_2932 zq_2645 zs_X14_become zq_2646 zq_21 hdX14_become (by decide) (T := TX14) (N := 47) rfl (okX14_become l D cy B ids hst N x0 hx0 (11 : Int32)  x1  hr.2.2 hc11) F hr hx0 hl.1 rfl (by decide) dX14_ring_28 rfl rfl hroX14_ring_X14_become ⟨Nat.zero_le _, Nat.zero_le _⟩) F hA hr (fun H locs hw12 hr => ?_)
    clear hc11
    obtain ⟨rfl, rfl⟩ := zret h
    exact E _ _ _ _ dX14_ring_31 trivial hr
end SX14_ring
set_option maxRecDepth 100000 in
theorem okX14_ring (l : Launch) (D : va_G) (cy : Nat → ClassId) (B : Nat → Nat → Nat) (ids : List (Nat × Nat)) (hst : zSt B ids) (N : Nat) (x0 : Nat) (hx0 : (14, x0) ∈ ids) (x1 : Int32) {z : St} {r : Int32} {z' : St} (hW : zWf ids z) (h : fX14_ring N x0 x1 z = some (r, z')) : zM l yX14_ring (zws yX14_ring cX14_ring 2 none) rmX14_ring D cy B ids [.ref (B 14 x0), .int x1] none True z z' :=
  zM_of hst hW (by decide +kernel) (Nat.le_of_ble_eq_true rfl) (fun p e s m args below meth c A ls F hA hret hlocks hr hl => bX14_ring_0 hst F hA (zEnd_v F hret hlocks) x0 x1 hx0 hr hl h)
abbrev rmX14_persist : Room := { frames := 3, cells := 0, slots := 0, locals := 61 }
theorem hdX14_persist : yX14_persist.cls ≠ "java/lang/invoke/MethodHandle" ∧ yX14_persist.cls ≠ "java/lang/invoke/VarHandle" ∧ (parseMethodDescriptor yX14_persist.desc).map (fun d => d.parameters.length) = some 1 := by decide +kernel
theorem hroX14_persist_X14_hasNew : rmX14_hasNew.frames + 1 ≤ rmX14_persist.frames ∧ 8 + (1 + 11) + rmX14_hasNew.locals ≤ rmX14_persist.locals := by decide
theorem hroX14_persist_X14_setAlarm : rmX14_setAlarm.frames + 1 ≤ rmX14_persist.frames ∧ 8 + (2 + 11) + rmX14_setAlarm.locals ≤ rmX14_persist.locals := by decide
section SX14_persist
variable {p : Program} {l : Launch} {e : Env} {s : State} {m : MethodId} {args : Array Value} {below : List Frame} {meth : Method} {c : Code} {Q : State → Prop} {D : va_G} {cy : Nat → ClassId} {B : Nat → Nat → Nat} {ids : List (Nat × Nat)} {A : Nat → Prop}
def fX14_persist (N : Nat)  (x0 : Nat) (x1 : Int32) (z : St) : Option (Int32 × St) := if ¬ (zgI z 14 33 x0) = 0 then (some (0, z)) else (if ¬ (zgI z 14 6 x0) = (zgI z 14 7 x0) then (some (0, z)) else (if ¬ (zgI z 14 11 x0) = 0 then (some (0, z)) else (zc (fX14_hasNew N x0 z) fun r4 z5 => if r4 = 0 then (some (0, z5)) else (zc (fX14_setAlarm N x0 x1 z5) fun _ z10 => some (0, z10)))))
set_option maxHeartbeats 4000000 in
set_option maxRecDepth 100000 in
theorem bX14_persist_0 (hst : zSt B ids) (F : zFx p m c cX14_persist 2 s args RX14 D cy B ids A) (hA : ∀ q : Nat, s.heap.size ≤ q → A q) {r : Int32} {z' : St} (E : zEnd p l e rmX14_persist s m args below meth c cX14_persist D cy B ids A Q none z' .return_ True) {N : Nat}  (x0 : Nat) (x1 : Int32) (hx0 : (14, x0) ∈ ids) {z : St} {H : Heap} {locs : List Loc} {ls : Array Slot} (hr : zRep D cy B ids A s.heap z H locs) (hl : lv_has ls 2 [(0, .ref (B 14 x0)), (1, .int x1)]) (h : fX14_persist N x0 x1 z = some (r, z')) : W p l e rmX14_persist s m args below meth c H locs 0 0 Q (F0 m 0 ls []) := by
  unfold fX14_persist at h
  refine lv_aload_n F.1 F.2.1 dX14_persist_0 rfl (lv_at hl 0 rfl) ?_
  refine gf14_99 F hx0 hr dX14_persist_1 ?_
  refine lv_if_ne (tgt := 37) F.1 F.2.1 dX14_persist_4 (by decide) (fun c1 => ?_) (fun c1 => ?_)
  · replace h := zi_t c1 h
    obtain ⟨rfl, rfl⟩ := zret h
    exact E _ _ _ _ dX14_persist_37 trivial hr
  · replace h := zi_f (fun q => q c1) h
    refine lv_aload_n F.1 F.2.1 dX14_persist_7 rfl (lv_at hl 0 rfl) ?_
    refine gf14_45 F hx0 hr dX14_persist_8 ?_
    refine lv_aload_n F.1 F.2.1 dX14_persist_11 rfl (lv_at hl 0 rfl) ?_
    refine gf14_48 F hx0 hr dX14_persist_12 ?_
    refine lv_icmp_ne (tgt := 37) F.1 F.2.1 dX14_persist_15 (by decide) (fun c2 => ?_) (fun c2 => ?_)
    · replace h := zi_t c2 h
      obtain ⟨rfl, rfl⟩ := zret h
      exact E _ _ _ _ dX14_persist_37 trivial hr
    · replace h := zi_f (fun q => q c2) h
      refine lv_aload_n F.1 F.2.1 dX14_persist_18 rfl (lv_at hl 0 rfl) ?_
      refine gf14_57 F hx0 hr dX14_persist_19 ?_
      refine lv_if_ne (tgt := 37) F.1 F.2.1 dX14_persist_22 (by decide) (fun c3 => ?_) (fun c3 => ?_)
      · replace h := zi_t c3 h
        obtain ⟨rfl, rfl⟩ := zret h
        exact E _ _ _ _ dX14_persist_37 trivial hr
      · replace h := zi_f (fun q => q c3) h
        refine lv_aload_n F.1 F.2.1 dX14_persist_25 rfl (lv_at hl 0 rfl) ?_
        replace h := zc_some h
        obtain ⟨r4, z5, hc6, h⟩ := h
        refine zr_calli (zrun_V (As := []) (rest := []) zq_2977 zq_2962 zs_X14_hasNew zq_2963 zq_21 hdX14_hasNew (by decide) (T := TX14) (N := 47) rfl (okX14_hasNew l D cy B ids hst N x0 hx0 hr.2.2 hc6) F hr hx0 hl.1 rfl (by decide) dX14_persist_26 rfl rfl hroX14_persist_X14_hasNew ⟨Nat.zero_le _, Nat.zero_le _⟩) F hA hr (fun H locs hw7 hr => ?_)
        clear hc6
        refine lv_if_eq (tgt := 37) F.1 F.2.1 dX14_persist_29 (by decide) (fun c8 => ?_) (fun c8 => ?_)
        · replace h := zi_t c8 h
          obtain ⟨rfl, rfl⟩ := zret h
          exact E _ _ _ _ dX14_persist_37 trivial hr
        · replace h := zi_f c8 h
          refine lv_aload_n F.1 F.2.1 dX14_persist_32 rfl (lv_at hl 0 rfl) ?_
          refine lv_iload_n F.1 F.2.1 dX14_persist_33 rfl (lv_at hl 1 rfl) ?_
          replace h := zc_some h
          obtain ⟨r9, z10, hc11, h⟩ := h
          refine zr_callv (zrun_V (As := [.int x1]) (rest := []) zq_2698 zq_2700 zs_X14_setAlarm zq_2701 zq_21 hdX14_setAlarm (by decide) (T := TX14) (N := 47) rfl (okX14_setAlarm l D cy B ids hst N x0 hx0 x1  hr.2.2 hc11) F hr hx0 hl.1 rfl (by decide) dX14_persist_34 rfl rfl hroX14_persist_X14_setAlarm ⟨Nat.zero_le _, Nat.zero_le _⟩) F hA hr (fun H locs hw12 hr => ?_)
          clear hc11
          obtain ⟨rfl, rfl⟩ := zret h
          exact E _ _ _ _ dX14_persist_37 trivial hr
end SX14_persist
set_option maxRecDepth 100000 in
theorem okX14_persist (l : Launch) (D : va_G) (cy : Nat → ClassId) (B : Nat → Nat → Nat) (ids : List (Nat × Nat)) (hst : zSt B ids) (N : Nat) (x0 : Nat) (hx0 : (14, x0) ∈ ids) (x1 : Int32) {z : St} {r : Int32} {z' : St} (hW : zWf ids z) (h : fX14_persist N x0 x1 z = some (r, z')) : zM l yX14_persist (zws yX14_persist cX14_persist 2 none) rmX14_persist D cy B ids [.ref (B 14 x0), .int x1] none True z z' :=
  zM_of hst hW (by decide +kernel) (Nat.le_of_ble_eq_true rfl) (fun p e s m args below meth c A ls F hA hret hlocks hr hl => bX14_persist_0 hst F hA (zEnd_v F hret hlocks) x0 x1 hx0 hr hl h)
abbrev rmX14_read : Room := { frames := 2, cells := 0, slots := 0, locals := 40 }
theorem hdX14_read : yX14_read.cls ≠ "java/lang/invoke/MethodHandle" ∧ yX14_read.cls ≠ "java/lang/invoke/VarHandle" ∧ (parseMethodDescriptor yX14_read.desc).map (fun d => d.parameters.length) = some 0 := by decide +kernel
theorem hroX14_read_X14_room : rmX14_room.frames + 1 ≤ rmX14_read.frames ∧ 8 + (1 + 11) + rmX14_room.locals ≤ rmX14_read.locals := by decide
section SX14_read
variable {p : Program} {l : Launch} {e : Env} {s : State} {m : MethodId} {args : Array Value} {below : List Frame} {meth : Method} {c : Code} {Q : State → Prop} {D : va_G} {cy : Nat → ClassId} {B : Nat → Nat → Nat} {ids : List (Nat × Nat)} {A : Nat → Prop}
def fX14_read_100 (N : Nat)  (x0 : Nat) (x3 : Int32) (z : St) : Option (Int32 × St) := zl (zsI z 14 32 x0 (1 : Int32)) fun z1 => some (x3, z1)
set_option maxHeartbeats 4000000 in
set_option maxRecDepth 100000 in
theorem bX14_read_100 (hst : zSt B ids) (F : zFx p m c cX14_read 4 s args RX14 D cy B ids A) (hA : ∀ q : Nat, s.heap.size ≤ q → A q) {r : Int32} {z' : St} (E : zEnd p l e rmX14_read s m args below meth c cX14_read D cy B ids A Q (some (.int r)) z' .ireturn True) {N : Nat}  (x0 : Nat) (x3 : Int32) (hx0 : (14, x0) ∈ ids) {z : St} {H : Heap} {locs : List Loc} {ls : Array Slot} (hr : zRep D cy B ids A s.heap z H locs) (hl : lv_has ls 4 [(0, .ref (B 14 x0)), (3, .int x3)]) (h : fX14_read_100 N x0 x3 z = some (r, z')) : W p l e rmX14_read s m args below meth c H locs 0 0 Q (F0 m 100 ls []) := by
  unfold fX14_read_100 at h
  refine lv_aload_n F.1 F.2.1 dX14_read_100 rfl (lv_at hl 0 rfl) ?_
  refine lv_iconst (v := (1 : Int32)) F.1 F.2.1 dX14_read_101 (by decide) ?_
  refine pf14_96 F hx0 hr dX14_read_102 (1 : Int32) (by decide) (fun H locs z1 ez1 hr => ?_)
  replace h := zl_sub ez1 h
  clear ez1
  refine lv_iload_n F.1 F.2.1 dX14_read_105 rfl (lv_at hl 1 rfl) ?_
  obtain ⟨rfl, rfl⟩ := zret h
  exact E _ _ _ _ dX14_read_106 trivial hr
def fX14_read_34 (N : Nat)  (x0 : Nat) (x1 : Int32) (s0 : Int32) (z : St) : Option (Int32 × St) := zk ((zgI z 14 18 x0) &&& (2047 : Int32)) 2048 <| zl ((zgA z 160 x0 (Int32.toNatClampNeg ((zgI z 14 18 x0) &&& (2047 : Int32)))) &&& (255 : Int32)) fun v2 => zl (zsI z 14 18 x0 ((zgI z 14 18 x0) + (1 : Int32))) fun z3 => if s0 = 0 then (some (v2, z3)) else (zc (fX14_room N x0 z3) fun r5 z6 => if r5 < x1 then (some (v2, z6)) else (if (zgI z6 14 0 x0) = (4 : Int32) then (fX14_read_100 N x0 v2 z6) else (if (zgI z6 14 0 x0) = (5 : Int32) then (fX14_read_100 N x0 v2 z6) else (if ¬ (zgI z6 14 0 x0) = (6 : Int32) then (some (v2, z6)) else (fX14_read_100 N x0 v2 z6)))))
set_option maxHeartbeats 4000000 in
set_option maxRecDepth 100000 in
theorem bX14_read_34 (hst : zSt B ids) (F : zFx p m c cX14_read 4 s args RX14 D cy B ids A) (hA : ∀ q : Nat, s.heap.size ≤ q → A q) {r : Int32} {z' : St} (E : zEnd p l e rmX14_read s m args below meth c cX14_read D cy B ids A Q (some (.int r)) z' .ireturn True) {N : Nat}  (x0 : Nat) (x1 : Int32) (s0 : Int32) (hx0 : (14, x0) ∈ ids) {z : St} {H : Heap} {locs : List Loc} {ls : Array Slot} (hr : zRep D cy B ids A s.heap z H locs) (hl : lv_has ls 4 [(0, .ref (B 14 x0)), (1, .int x1)]) (h : fX14_read_34 N x0 x1 s0 z = some (r, z')) : W p l e rmX14_read s m args below meth c H locs 0 0 Q (F0 m 34 ls [.int s0]) := by
  unfold fX14_read_34 at h
  refine lv_istore_n (lv' := [(2, .int s0), (0, .ref (B 14 x0)), (1, .int x1)]) F.1 F.2.1 dX14_read_34 rfl hl (by decide) rfl (fun ls hl => ?_)
  refine lv_aload_n F.1 F.2.1 dX14_read_35 rfl (lv_at hl 1 rfl) ?_
  refine gf14_15 F hx0 hr dX14_read_36 ?_
  refine lv_aload_n F.1 F.2.1 dX14_read_39 rfl (lv_at hl 1 rfl) ?_
  refine gf14_72 F hx0 hr dX14_read_40 ?_
  refine lv_sipush (v := (2047 : Int32)) F.1 F.2.1 dX14_read_43 (by decide) ?_
  refine lv_iand F.1 F.2.1 dX14_read_46 ?_
  replace h := zk_some h
  obtain ⟨c1, h⟩ := h
  refine zr_bald (k := 160) (by decide) rfl (by decide) F (zal_a F hx0 (j := 19) rfl) hr dX14_read_47 c1 ?_
  refine lv_sipush (v := (255 : Int32)) F.1 F.2.1 dX14_read_48 (by decide) ?_
  refine lv_iand F.1 F.2.1 dX14_read_51 ?_
  refine lv_topi (fun v2 ev2 => ?_)
  replace h := zl_sub ev2 h
  refine lv_istore_n (lv' := [(3, .int v2), (2, .int s0), (0, .ref (B 14 x0)), (1, .int x1)]) F.1 F.2.1 dX14_read_52 rfl hl (by decide) rfl (fun ls hl => ?_)
  refine lv_aload_n F.1 F.2.1 dX14_read_53 rfl (lv_at hl 2 rfl) ?_
  refine lv_dup F.1 F.2.1 dX14_read_54 rfl ?_
  refine gf14_72 F hx0 hr dX14_read_55 ?_
  refine lv_iconst (v := (1 : Int32)) F.1 F.2.1 dX14_read_58 (by decide) ?_
  refine lv_iadd F.1 F.2.1 dX14_read_59 ?_
  refine pf14_72 F hx0 hr dX14_read_60 ((zgI z 14 18 x0) + (1 : Int32)) (fun H locs z3 ez3 hr => ?_)
  replace h := zl_sub ez3 h
  clear ez3
  refine lv_iload_n F.1 F.2.1 dX14_read_63 rfl (lv_at hl 1 rfl) ?_
  refine lv_if_eq (tgt := 105) F.1 F.2.1 dX14_read_64 (by decide) (fun c4 => ?_) (fun c4 => ?_)
  · replace h := zi_t c4 h
    refine lv_iload_n F.1 F.2.1 dX14_read_105 rfl (lv_at hl 0 rfl) ?_
    obtain ⟨rfl, rfl⟩ := zret h
    exact E _ _ _ _ dX14_read_106 trivial hr
  · replace h := zi_f c4 h
    refine lv_aload_n F.1 F.2.1 dX14_read_67 rfl (lv_at hl 2 rfl) ?_
    replace h := zc_some h
    obtain ⟨r5, z6, hc7, h⟩ := h
    refine zr_calli (zrun_V (As := []) (rest := []) zq_2706 zq_2708 zs_X14_room zq_2709 zq_21 hdX14_room (by decide) (T := TX14) (N := 47) rfl (okX14_room l D cy B ids hst N x0 hx0 hr.2.2 hc7) F hr hx0 hl.1 rfl (by decide) dX14_read_68 rfl rfl hroX14_read_X14_room ⟨Nat.zero_le _, Nat.zero_le _⟩) F hA hr (fun H locs hw8 hr => ?_)
    clear hc7
    refine lv_iload_n F.1 F.2.1 dX14_read_71 rfl (lv_at hl 3 rfl) ?_
    refine lv_icmp_lt (tgt := 105) F.1 F.2.1 dX14_read_72 (by decide) (fun c9 => ?_) (fun c9 => ?_)
    · replace h := zi_t c9 h
      refine lv_iload_n F.1 F.2.1 dX14_read_105 rfl (lv_at hl 0 rfl) ?_
      obtain ⟨rfl, rfl⟩ := zret h
      exact E _ _ _ _ dX14_read_106 trivial hr
    · replace h := zi_f c9 h
      refine lv_aload_n F.1 F.2.1 dX14_read_75 rfl (lv_at hl 2 rfl) ?_
      refine gf14_29 F hx0 hr dX14_read_76 ?_
      refine lv_iconst (v := (4 : Int32)) F.1 F.2.1 dX14_read_79 (by decide) ?_
      refine lv_icmp_eq (tgt := 100) F.1 F.2.1 dX14_read_80 (by decide) (fun c10 => ?_) (fun c10 => ?_)
      · replace h := zi_t c10 h
        exact bX14_read_100 hst F hA E  x0 v2 hx0 hr (lv_sub hl [2, 0] rfl) h
      · replace h := zi_f c10 h
        refine lv_aload_n F.1 F.2.1 dX14_read_83 rfl (lv_at hl 2 rfl) ?_
        refine gf14_29 F hx0 hr dX14_read_84 ?_
        refine lv_iconst (v := (5 : Int32)) F.1 F.2.1 dX14_read_87 (by decide) ?_
        refine lv_icmp_eq (tgt := 100) F.1 F.2.1 dX14_read_88 (by decide) (fun c11 => ?_) (fun c11 => ?_)
        · replace h := zi_t c11 h
          exact bX14_read_100 hst F hA E  x0 v2 hx0 hr (lv_sub hl [2, 0] rfl) h
        · replace h := zi_f c11 h
          refine lv_aload_n F.1 F.2.1 dX14_read_91 rfl (lv_at hl 2 rfl) ?_
          refine gf14_29 F hx0 hr dX14_read_92 ?_
          refine lv_bipush (v := (6 : Int32)) F.1 F.2.1 dX14_read_95 (by decide) ?_
          refine lv_icmp_ne (tgt := 105) F.1 F.2.1 dX14_read_97 (by decide) (fun c12 => ?_) (fun c12 => ?_)
          · replace h := zi_t c12 h
            refine lv_iload_n F.1 F.2.1 dX14_read_105 rfl (lv_at hl 0 rfl) ?_
            obtain ⟨rfl, rfl⟩ := zret h
            exact E _ _ _ _ dX14_read_106 trivial hr
          · replace h := zi_f (fun q => q c12) h
            exact bX14_read_100 hst F hA E  x0 v2 hx0 hr (lv_sub hl [2, 0] rfl) h
def fX14_read_20 (N : Nat)  (x0 : Nat) (s0 : Int32) (z : St) : Option (Int32 × St) := zc (fX14_room N x0 z) fun r1 z2 => if s0 ≤ r1 then (fX14_read_34 N x0 s0 (0 : Int32) z2) else (fX14_read_34 N x0 s0 (1 : Int32) z2)
set_option maxHeartbeats 4000000 in
set_option maxRecDepth 100000 in
theorem bX14_read_20 (hst : zSt B ids) (F : zFx p m c cX14_read 4 s args RX14 D cy B ids A) (hA : ∀ q : Nat, s.heap.size ≤ q → A q) {r : Int32} {z' : St} (E : zEnd p l e rmX14_read s m args below meth c cX14_read D cy B ids A Q (some (.int r)) z' .ireturn True) {N : Nat}  (x0 : Nat) (s0 : Int32) (hx0 : (14, x0) ∈ ids) {z : St} {H : Heap} {locs : List Loc} {ls : Array Slot} (hr : zRep D cy B ids A s.heap z H locs) (hl : lv_has ls 4 [(0, .ref (B 14 x0))]) (h : fX14_read_20 N x0 s0 z = some (r, z')) : W p l e rmX14_read s m args below meth c H locs 0 0 Q (F0 m 20 ls [.int s0]) := by
  unfold fX14_read_20 at h
  refine lv_istore_n (lv' := [(1, .int s0), (0, .ref (B 14 x0))]) F.1 F.2.1 dX14_read_20 rfl hl (by decide) rfl (fun ls hl => ?_)
  refine lv_aload_n F.1 F.2.1 dX14_read_21 rfl (lv_at hl 1 rfl) ?_
  replace h := zc_some h
  obtain ⟨r1, z2, hc3, h⟩ := h
  refine zr_calli (zrun_V (As := []) (rest := []) zq_2706 zq_2708 zs_X14_room zq_2709 zq_21 hdX14_room (by decide) (T := TX14) (N := 47) rfl (okX14_room l D cy B ids hst N x0 hx0 hr.2.2 hc3) F hr hx0 hl.1 rfl (by decide) dX14_read_22 rfl rfl hroX14_read_X14_room ⟨Nat.zero_le _, Nat.zero_le _⟩) F hA hr (fun H locs hw4 hr => ?_)
  clear hc3
  refine lv_iload_n F.1 F.2.1 dX14_read_25 rfl (lv_at hl 0 rfl) ?_
  refine lv_icmp_ge (tgt := 33) F.1 F.2.1 dX14_read_26 (by decide) (fun c5 => ?_) (fun c5 => ?_)
  · replace h := zi_t c5 h
    refine lv_iconst (v := (0 : Int32)) F.1 F.2.1 dX14_read_33 (by decide) ?_
    exact bX14_read_34 hst F hA E  x0 s0 (0 : Int32) hx0 hr (lv_sub hl [1, 0] rfl) h
  · replace h := zi_f c5 h
    refine lv_iconst (v := (1 : Int32)) F.1 F.2.1 dX14_read_29 (by decide) ?_
    refine lv_goto (tgt := 34) F.1 F.2.1 dX14_read_30 (by decide) ?_
    exact bX14_read_34 hst F hA E  x0 s0 (1 : Int32) hx0 hr (lv_sub hl [1, 0] rfl) h
def fX14_read (N : Nat)  (x0 : Nat) (z : St) : Option (Int32 × St) := if (1024 : Int32) ≤ (zgI z 14 15 x0) then (fX14_read_20 N x0 (1024 : Int32) z) else (fX14_read_20 N x0 (zgI z 14 15 x0) z)
set_option maxHeartbeats 4000000 in
set_option maxRecDepth 100000 in
theorem bX14_read_0 (hst : zSt B ids) (F : zFx p m c cX14_read 4 s args RX14 D cy B ids A) (hA : ∀ q : Nat, s.heap.size ≤ q → A q) {r : Int32} {z' : St} (E : zEnd p l e rmX14_read s m args below meth c cX14_read D cy B ids A Q (some (.int r)) z' .ireturn True) {N : Nat}  (x0 : Nat) (hx0 : (14, x0) ∈ ids) {z : St} {H : Heap} {locs : List Loc} {ls : Array Slot} (hr : zRep D cy B ids A s.heap z H locs) (hl : lv_has ls 4 [(0, .ref (B 14 x0))]) (h : fX14_read N x0 z = some (r, z')) : W p l e rmX14_read s m args below meth c H locs 0 0 Q (F0 m 0 ls []) := by
  unfold fX14_read at h
  refine lv_aload_n F.1 F.2.1 dX14_read_0 rfl (lv_at hl 0 rfl) ?_
  refine gf14_42 F hx0 hr dX14_read_1 ?_
  refine lv_sipush (v := (1024 : Int32)) F.1 F.2.1 dX14_read_4 (by decide) ?_
  refine lv_icmp_ge (tgt := 17) F.1 F.2.1 dX14_read_7 (by decide) (fun c1 => ?_) (fun c1 => ?_)
  · replace h := zi_t c1 h
    refine lv_sipush (v := (1024 : Int32)) F.1 F.2.1 dX14_read_17 (by decide) ?_
    exact bX14_read_20 hst F hA E  x0 (1024 : Int32) hx0 hr (lv_sub hl [0] rfl) h
  · replace h := zi_f c1 h
    refine lv_aload_n F.1 F.2.1 dX14_read_10 rfl (lv_at hl 0 rfl) ?_
    refine gf14_42 F hx0 hr dX14_read_11 ?_
    refine lv_goto (tgt := 20) F.1 F.2.1 dX14_read_14 (by decide) ?_
    exact bX14_read_20 hst F hA E  x0 (zgI z 14 15 x0) hx0 hr (lv_sub hl [0] rfl) h
end SX14_read
set_option maxRecDepth 100000 in
theorem okX14_read (l : Launch) (D : va_G) (cy : Nat → ClassId) (B : Nat → Nat → Nat) (ids : List (Nat × Nat)) (hst : zSt B ids) (N : Nat) (x0 : Nat) (hx0 : (14, x0) ∈ ids) {z : St} {r : Int32} {z' : St} (hW : zWf ids z) (h : fX14_read N x0 z = some (r, z')) : zM l yX14_read (zws yX14_read cX14_read 4 (some .int)) rmX14_read D cy B ids [.ref (B 14 x0)] (some (.int r)) True z z' :=
  zM_of hst hW (by decide +kernel) (Nat.le_of_ble_eq_true rfl) (fun p e s m args below meth c A ls F hA hret hlocks hr hl => bX14_read_0 hst F hA (zEnd_i F hret hlocks) x0 hx0 hr hl h)
abbrev rmX14_canWrite : Room := { frames := 1, cells := 0, slots := 0, locals := 20 }
theorem hdX14_canWrite : yX14_canWrite.cls ≠ "java/lang/invoke/MethodHandle" ∧ yX14_canWrite.cls ≠ "java/lang/invoke/VarHandle" ∧ (parseMethodDescriptor yX14_canWrite.desc).map (fun d => d.parameters.length) = some 0 := by decide +kernel
theorem hroX14_canWrite_X14_isDead : rmX14_isDead.frames + 1 ≤ rmX14_canWrite.frames ∧ 8 + (1 + 11) + rmX14_isDead.locals ≤ rmX14_canWrite.locals := by decide
section SX14_canWrite
variable {p : Program} {l : Launch} {e : Env} {s : State} {m : MethodId} {args : Array Value} {below : List Frame} {meth : Method} {c : Code} {Q : State → Prop} {D : va_G} {cy : Nat → ClassId} {B : Nat → Nat → Nat} {ids : List (Nat × Nat)} {A : Nat → Prop}
def fX14_canWrite (N : Nat)  (x0 : Nat) (z : St) : Option (Int32 × St) := if ¬ (zgI z 14 9 x0) = 0 then (some ((0 : Int32), z)) else (zc (fX14_isDead N x0 z) fun r2 z3 => if ¬ r2 = 0 then (some ((0 : Int32), z3)) else (if (zgI z3 14 0 x0) = (1 : Int32) then (some ((0 : Int32), z3)) else (some ((1 : Int32), z3))))
set_option maxHeartbeats 4000000 in
set_option maxRecDepth 100000 in
theorem bX14_canWrite_0 (hst : zSt B ids) (F : zFx p m c cX14_canWrite 1 s args RX14 D cy B ids A) (hA : ∀ q : Nat, s.heap.size ≤ q → A q) {r : Int32} {z' : St} (E : zEnd p l e rmX14_canWrite s m args below meth c cX14_canWrite D cy B ids A Q (some (.int r)) z' .ireturn (r = 0 ∨ r = 1)) {N : Nat}  (x0 : Nat) (hx0 : (14, x0) ∈ ids) {z : St} {H : Heap} {locs : List Loc} {ls : Array Slot} (hr : zRep D cy B ids A s.heap z H locs) (hl : lv_has ls 1 [(0, .ref (B 14 x0))]) (h : fX14_canWrite N x0 z = some (r, z')) : W p l e rmX14_canWrite s m args below meth c H locs 0 0 Q (F0 m 0 ls []) := by
  unfold fX14_canWrite at h
  refine lv_aload_n F.1 F.2.1 dX14_canWrite_0 rfl (lv_at hl 0 rfl) ?_
  refine gf14_54 F hx0 hr dX14_canWrite_1 ?_
  refine lv_if_ne (tgt := 26) F.1 F.2.1 dX14_canWrite_4 (by decide) (fun c1 => ?_) (fun c1 => ?_)
  · replace h := zi_t c1 h
    refine lv_iconst (v := (0 : Int32)) F.1 F.2.1 dX14_canWrite_26 (by decide) ?_
    obtain ⟨rfl, rfl⟩ := zret h
    exact E _ _ _ _ dX14_canWrite_27 (by decide) hr
  · replace h := zi_f (fun q => q c1) h
    refine lv_aload_n F.1 F.2.1 dX14_canWrite_7 rfl (lv_at hl 0 rfl) ?_
    replace h := zc_some h
    obtain ⟨r2, z3, hc4, h⟩ := h
    refine zr_calli (zrun_V (As := []) (rest := []) zq_3028 zq_2653 zs_X14_isDead zq_2654 zq_21 hdX14_isDead (by decide) (T := TX14) (N := 47) rfl (okX14_isDead l D cy B ids hst N x0 hx0 hr.2.2 hc4) F hr hx0 hl.1 rfl (by decide) dX14_canWrite_8 rfl rfl hroX14_canWrite_X14_isDead ⟨Nat.zero_le _, Nat.zero_le _⟩) F hA hr (fun H locs hw5 hr => ?_)
    clear hc4
    refine lv_if_ne (tgt := 26) F.1 F.2.1 dX14_canWrite_11 (by decide) (fun c6 => ?_) (fun c6 => ?_)
    · replace h := zi_t c6 h
      refine lv_iconst (v := (0 : Int32)) F.1 F.2.1 dX14_canWrite_26 (by decide) ?_
      obtain ⟨rfl, rfl⟩ := zret h
      exact E _ _ _ _ dX14_canWrite_27 (by decide) hr
    · replace h := zi_f (fun q => q c6) h
      refine lv_aload_n F.1 F.2.1 dX14_canWrite_14 rfl (lv_at hl 0 rfl) ?_
      refine gf14_29 F hx0 hr dX14_canWrite_15 ?_
      refine lv_iconst (v := (1 : Int32)) F.1 F.2.1 dX14_canWrite_18 (by decide) ?_
      refine lv_icmp_eq (tgt := 26) F.1 F.2.1 dX14_canWrite_19 (by decide) (fun c7 => ?_) (fun c7 => ?_)
      · replace h := zi_t c7 h
        refine lv_iconst (v := (0 : Int32)) F.1 F.2.1 dX14_canWrite_26 (by decide) ?_
        obtain ⟨rfl, rfl⟩ := zret h
        exact E _ _ _ _ dX14_canWrite_27 (by decide) hr
      · replace h := zi_f c7 h
        refine lv_iconst (v := (1 : Int32)) F.1 F.2.1 dX14_canWrite_22 (by decide) ?_
        refine lv_goto (tgt := 27) F.1 F.2.1 dX14_canWrite_23 (by decide) ?_
        obtain ⟨rfl, rfl⟩ := zret h
        exact E _ _ _ _ dX14_canWrite_27 (by decide) hr
end SX14_canWrite
set_option maxRecDepth 100000 in
theorem okX14_canWrite (l : Launch) (D : va_G) (cy : Nat → ClassId) (B : Nat → Nat → Nat) (ids : List (Nat × Nat)) (hst : zSt B ids) (N : Nat) (x0 : Nat) (hx0 : (14, x0) ∈ ids) {z : St} {r : Int32} {z' : St} (hW : zWf ids z) (h : fX14_canWrite N x0 z = some (r, z')) : zM l yX14_canWrite (zws yX14_canWrite cX14_canWrite 1 (some .boolean)) rmX14_canWrite D cy B ids [.ref (B 14 x0)] (some (.int r)) (r = 0 ∨ r = 1) z z' :=
  zM_of hst hW (by decide +kernel) (Nat.le_of_ble_eq_true rfl) (fun p e s m args below meth c A ls F hA hret hlocks hr hl => bX14_canWrite_0 hst F hA (zEnd_z F hret hlocks) x0 hx0 hr hl h)
abbrev rmX14_close : Room := { frames := 1, cells := 0, slots := 0, locals := 22 }
theorem hdX14_close : yX14_close.cls ≠ "java/lang/invoke/MethodHandle" ∧ yX14_close.cls ≠ "java/lang/invoke/VarHandle" ∧ (parseMethodDescriptor yX14_close.desc).map (fun d => d.parameters.length) = some 1 := by decide +kernel
theorem hroX14_close_X14_become : rmX14_become.frames + 1 ≤ rmX14_close.frames ∧ 8 + (3 + 11) + rmX14_become.locals ≤ rmX14_close.locals := by decide
section SX14_close
variable {p : Program} {l : Launch} {e : Env} {s : State} {m : MethodId} {args : Array Value} {below : List Frame} {meth : Method} {c : Code} {Q : State → Prop} {D : va_G} {cy : Nat → ClassId} {B : Nat → Nat → Nat} {ids : List (Nat × Nat)} {A : Nat → Prop}
def fX14_close_21 (N : Nat)  (x0 : Nat) (x1 : Int32) (z : St) : Option (Int32 × St) := zc (fX14_become N x0 (0 : Int32) x1 z) fun _ z2 => some (0, z2)
set_option maxHeartbeats 4000000 in
set_option maxRecDepth 100000 in
theorem bX14_close_21 (hst : zSt B ids) (F : zFx p m c cX14_close 2 s args RX14 D cy B ids A) (hA : ∀ q : Nat, s.heap.size ≤ q → A q) {r : Int32} {z' : St} (E : zEnd p l e rmX14_close s m args below meth c cX14_close D cy B ids A Q none z' .return_ True) {N : Nat}  (x0 : Nat) (x1 : Int32) (hx0 : (14, x0) ∈ ids) {z : St} {H : Heap} {locs : List Loc} {ls : Array Slot} (hr : zRep D cy B ids A s.heap z H locs) (hl : lv_has ls 2 [(0, .ref (B 14 x0)), (1, .int x1)]) (h : fX14_close_21 N x0 x1 z = some (r, z')) : W p l e rmX14_close s m args below meth c H locs 0 0 Q (F0 m 21 ls []) := by
  unfold fX14_close_21 at h
  refine lv_aload_n F.1 F.2.1 dX14_close_21 rfl (lv_at hl 0 rfl) ?_
  refine lv_iconst (v := (0 : Int32)) F.1 F.2.1 dX14_close_22 (by decide) ?_
  refine lv_iload_n F.1 F.2.1 dX14_close_23 rfl (lv_at hl 1 rfl) ?_
  replace h := zc_some h
  obtain ⟨r1, z2, hc3, h⟩ := h
  refine zr_callv (zrun_V (As := [.int (0 : Int32), .int x1]) (rest := []) zq_2932 zq_2645 zs_X14_become zq_2646 zq_21 hdX14_become (by decide) (T := TX14) (N := 47) rfl (okX14_become l D cy B ids hst N x0 hx0 (0 : Int32)  x1  hr.2.2 hc3) F hr hx0 hl.1 rfl (by decide) dX14_close_24 rfl rfl hroX14_close_X14_become ⟨Nat.zero_le _, Nat.zero_le _⟩) F hA hr (fun H locs hw4 hr => ?_)
  clear hc3
  refine lv_goto (tgt := 61) F.1 F.2.1 dX14_close_27 (by decide) ?_
  obtain ⟨rfl, rfl⟩ := zret h
  exact E _ _ _ _ dX14_close_61 trivial hr
def fX14_close (N : Nat)  (x0 : Nat) (x1 : Int32) (z : St) : Option (Int32 × St) := zl (zsI z 14 9 x0 (1 : Int32)) fun z1 => if (zgI z1 14 0 x0) = (1 : Int32) then (fX14_close_21 N x0 x1 z1) else (if ¬ (zgI z1 14 0 x0) = (2 : Int32) then (if ¬ (zgI z1 14 0 x0) = (4 : Int32) then (if ¬ (zgI z1 14 0 x0) = (7 : Int32) then (some (0, z1)) else (zl (zsI z1 14 0 x0 (9 : Int32)) fun z6 => some (0, z6))) else (zl (zsI z1 14 0 x0 (5 : Int32)) fun z7 => some (0, z7))) else (fX14_close_21 N x0 x1 z1))
set_option maxHeartbeats 4000000 in
set_option maxRecDepth 100000 in
theorem bX14_close_0 (hst : zSt B ids) (F : zFx p m c cX14_close 2 s args RX14 D cy B ids A) (hA : ∀ q : Nat, s.heap.size ≤ q → A q) {r : Int32} {z' : St} (E : zEnd p l e rmX14_close s m args below meth c cX14_close D cy B ids A Q none z' .return_ True) {N : Nat}  (x0 : Nat) (x1 : Int32) (hx0 : (14, x0) ∈ ids) {z : St} {H : Heap} {locs : List Loc} {ls : Array Slot} (hr : zRep D cy B ids A s.heap z H locs) (hl : lv_has ls 2 [(0, .ref (B 14 x0)), (1, .int x1)]) (h : fX14_close N x0 x1 z = some (r, z')) : W p l e rmX14_close s m args below meth c H locs 0 0 Q (F0 m 0 ls []) := by
  unfold fX14_close at h
  refine lv_aload_n F.1 F.2.1 dX14_close_0 rfl (lv_at hl 0 rfl) ?_
  refine lv_iconst (v := (1 : Int32)) F.1 F.2.1 dX14_close_1 (by decide) ?_
  refine pf14_54 F hx0 hr dX14_close_2 (1 : Int32) (by decide) (fun H locs z1 ez1 hr => ?_)
  replace h := zl_sub ez1 h
  clear ez1
  refine lv_aload_n F.1 F.2.1 dX14_close_5 rfl (lv_at hl 0 rfl) ?_
  refine gf14_29 F hx0 hr dX14_close_6 ?_
  refine lv_iconst (v := (1 : Int32)) F.1 F.2.1 dX14_close_9 (by decide) ?_
  refine lv_icmp_eq (tgt := 21) F.1 F.2.1 dX14_close_10 (by decide) (fun c2 => ?_) (fun c2 => ?_)
  · replace h := zi_t c2 h
    exact bX14_close_21 hst F hA E  x0 x1 hx0 hr (lv_sub hl [0, 1] rfl) h
  · replace h := zi_f c2 h
    refine lv_aload_n F.1 F.2.1 dX14_close_13 rfl (lv_at hl 0 rfl) ?_
    refine gf14_29 F hx0 hr dX14_close_14 ?_
    refine lv_iconst (v := (2 : Int32)) F.1 F.2.1 dX14_close_17 (by decide) ?_
    refine lv_icmp_ne (tgt := 30) F.1 F.2.1 dX14_close_18 (by decide) (fun c3 => ?_) (fun c3 => ?_)
    · replace h := zi_t c3 h
      refine lv_aload_n F.1 F.2.1 dX14_close_30 rfl (lv_at hl 0 rfl) ?_
      refine gf14_29 F hx0 hr dX14_close_31 ?_
      refine lv_iconst (v := (4 : Int32)) F.1 F.2.1 dX14_close_34 (by decide) ?_
      refine lv_icmp_ne (tgt := 46) F.1 F.2.1 dX14_close_35 (by decide) (fun c4 => ?_) (fun c4 => ?_)
      · replace h := zi_t c4 h
        refine lv_aload_n F.1 F.2.1 dX14_close_46 rfl (lv_at hl 0 rfl) ?_
        refine gf14_29 F hx0 hr dX14_close_47 ?_
        refine lv_bipush (v := (7 : Int32)) F.1 F.2.1 dX14_close_50 (by decide) ?_
        refine lv_icmp_ne (tgt := 61) F.1 F.2.1 dX14_close_52 (by decide) (fun c5 => ?_) (fun c5 => ?_)
        · replace h := zi_t c5 h
          obtain ⟨rfl, rfl⟩ := zret h
          exact E _ _ _ _ dX14_close_61 trivial hr
        · replace h := zi_f (fun q => q c5) h
          refine lv_aload_n F.1 F.2.1 dX14_close_55 rfl (lv_at hl 0 rfl) ?_
          refine lv_bipush (v := (9 : Int32)) F.1 F.2.1 dX14_close_56 (by decide) ?_
          refine pf14_29 F hx0 hr dX14_close_58 (9 : Int32) (fun H locs z6 ez6 hr => ?_)
          replace h := zl_sub ez6 h
          clear ez6
          obtain ⟨rfl, rfl⟩ := zret h
          exact E _ _ _ _ dX14_close_61 trivial hr
      · replace h := zi_f (fun q => q c4) h
        refine lv_aload_n F.1 F.2.1 dX14_close_38 rfl (lv_at hl 0 rfl) ?_
        refine lv_iconst (v := (5 : Int32)) F.1 F.2.1 dX14_close_39 (by decide) ?_
        refine pf14_29 F hx0 hr dX14_close_40 (5 : Int32) (fun H locs z7 ez7 hr => ?_)
        replace h := zl_sub ez7 h
        clear ez7
        refine lv_goto (tgt := 61) F.1 F.2.1 dX14_close_43 (by decide) ?_
        obtain ⟨rfl, rfl⟩ := zret h
        exact E _ _ _ _ dX14_close_61 trivial hr
    · replace h := zi_f (fun q => q c3) h
      exact bX14_close_21 hst F hA E  x0 x1 hx0 hr (lv_sub hl [0, 1] rfl) h
end SX14_close
set_option maxRecDepth 100000 in
theorem okX14_close (l : Launch) (D : va_G) (cy : Nat → ClassId) (B : Nat → Nat → Nat) (ids : List (Nat × Nat)) (hst : zSt B ids) (N : Nat) (x0 : Nat) (hx0 : (14, x0) ∈ ids) (x1 : Int32) {z : St} {r : Int32} {z' : St} (hW : zWf ids z) (h : fX14_close N x0 x1 z = some (r, z')) : zM l yX14_close (zws yX14_close cX14_close 2 none) rmX14_close D cy B ids [.ref (B 14 x0), .int x1] none True z z' :=
  zM_of hst hW (by decide +kernel) (Nat.le_of_ble_eq_true rfl) (fun p e s m args below meth c A ls F hA hret hlocks hr hl => bX14_close_0 hst F hA (zEnd_v F hret hlocks) x0 x1 hx0 hr hl h)
