abbrev rmX7_resetFlags : Room := { frames := 1, cells := 0, slots := 0, locals := 21 }
theorem hdX7_resetFlags : yX7_resetFlags.cls ≠ "java/lang/invoke/MethodHandle" ∧ yX7_resetFlags.cls ≠ "java/lang/invoke/VarHandle" ∧ (parseMethodDescriptor yX7_resetFlags.desc).map (fun d => d.parameters.length) = some 0 := by decide +kernel
theorem hroX7_resetFlags_X7_has : rmX7_has.frames + 1 ≤ rmX7_resetFlags.frames ∧ 8 + (2 + 11) + rmX7_has.locals ≤ rmX7_resetFlags.locals := by decide
section SX7_resetFlags
variable {p : Program} {l : Launch} {e : Env} {s : State} {m : MethodId} {args : Array Value} {below : List Frame} {meth : Method} {c : Code} {Q : State → Prop} {D : va_G} {cy : Nat → ClassId} {B : Nat → Nat → Nat} {ids : List (Nat × Nat)} {A : Nat → Prop}
def fX7_resetFlags (N : Nat)  (x0 : Nat) (z : St) : Option (Int32 × St) := zc (fX7_has N x0 (8 : Int32) z) fun r1 z2 => if r1 = 0 then (some ((12 : Int32), z2)) else (some ((4 : Int32), z2))
set_option maxHeartbeats 4000000 in
set_option maxRecDepth 100000 in
theorem bX7_resetFlags_0 (hst : zSt B ids) (F : zFx p m c cX7_resetFlags 1 s args RX7 D cy B ids A) (hA : ∀ q : Nat, s.heap.size ≤ q → A q) {r : Int32} {z' : St} (E : zEnd p l e rmX7_resetFlags s m args below meth c cX7_resetFlags D cy B ids A Q (some (.int r)) z' .ireturn True) {N : Nat}  (x0 : Nat) (hx0 : (7, x0) ∈ ids) {z : St} {H : Heap} {locs : List Loc} {ls : Array Slot} (hr : zRep D cy B ids A s.heap z H locs) (hl : lv_has ls 1 [(0, .ref (B 7 x0))]) (h : fX7_resetFlags N x0 z = some (r, z')) : W p l e rmX7_resetFlags s m args below meth c H locs 0 0 Q (F0 m 0 ls []) := by
  unfold fX7_resetFlags at h
  refine lv_aload_n F.1 F.2.1 dX7_resetFlags_0 rfl (lv_at hl 0 rfl) ?_
  refine lv_bipush (v := (8 : Int32)) F.1 F.2.1 dX7_resetFlags_1 (by decide) ?_
  replace h := zc_some h
  obtain ⟨r1, z2, hc3, h⟩ := h
  refine zr_calli (zrun_V (As := [.int (8 : Int32)]) (rest := []) zq_1282 zq_1276 zs_X7_has zq_1277 zq_2 hdX7_has (by decide) (T := TX7) (N := 20) rfl (okX7_has l D cy B ids hst N x0 hx0 (8 : Int32)  hr.2.2 hc3) F hr hx0 hl.1 rfl (by decide) dX7_resetFlags_3 rfl rfl hroX7_resetFlags_X7_has ⟨Nat.zero_le _, Nat.zero_le _⟩) F hA hr (fun H locs hw4 hr => ?_)
  clear hc3
  refine lv_if_eq (tgt := 13) F.1 F.2.1 dX7_resetFlags_6 (by decide) (fun c5 => ?_) (fun c5 => ?_)
  · replace h := zi_t c5 h
    refine lv_bipush (v := (12 : Int32)) F.1 F.2.1 dX7_resetFlags_13 (by decide) ?_
    obtain ⟨rfl, rfl⟩ := zret h
    exact E _ _ _ _ dX7_resetFlags_15 trivial hr
  · replace h := zi_f c5 h
    refine lv_iconst (v := (4 : Int32)) F.1 F.2.1 dX7_resetFlags_9 (by decide) ?_
    refine lv_goto (tgt := 15) F.1 F.2.1 dX7_resetFlags_10 (by decide) ?_
    obtain ⟨rfl, rfl⟩ := zret h
    exact E _ _ _ _ dX7_resetFlags_15 trivial hr
end SX7_resetFlags
set_option maxRecDepth 100000 in
theorem okX7_resetFlags (l : Launch) (D : va_G) (cy : Nat → ClassId) (B : Nat → Nat → Nat) (ids : List (Nat × Nat)) (hst : zSt B ids) (N : Nat) (x0 : Nat) (hx0 : (7, x0) ∈ ids) {z : St} {r : Int32} {z' : St} (hW : zWf ids z) (h : fX7_resetFlags N x0 z = some (r, z')) : zM l yX7_resetFlags (zws yX7_resetFlags cX7_resetFlags 1 (some .int)) rmX7_resetFlags D cy B ids [.ref (B 7 x0)] (some (.int r)) True z z' :=
  zM_of hst hW (by decide +kernel) (Nat.le_of_ble_eq_true rfl) (fun p e s m args below meth c A ls F hA hret hlocks hr hl => bX7_resetFlags_0 hst F hA (zEnd_i F hret hlocks) x0 hx0 hr hl h)
abbrev rmX7_resetNumber : Room := { frames := 1, cells := 0, slots := 0, locals := 21 }
theorem hdX7_resetNumber : yX7_resetNumber.cls ≠ "java/lang/invoke/MethodHandle" ∧ yX7_resetNumber.cls ≠ "java/lang/invoke/VarHandle" ∧ (parseMethodDescriptor yX7_resetNumber.desc).map (fun d => d.parameters.length) = some 0 := by decide +kernel
theorem hroX7_resetNumber_X7_has : rmX7_has.frames + 1 ≤ rmX7_resetNumber.frames ∧ 8 + (2 + 11) + rmX7_has.locals ≤ rmX7_resetNumber.locals := by decide
section SX7_resetNumber
variable {p : Program} {l : Launch} {e : Env} {s : State} {m : MethodId} {args : Array Value} {below : List Frame} {meth : Method} {c : Code} {Q : State → Prop} {D : va_G} {cy : Nat → ClassId} {B : Nat → Nat → Nat} {ids : List (Nat × Nat)} {A : Nat → Prop}
def fX7_resetNumber (N : Nat)  (x0 : Nat) (z : St) : Option (Int32 × St) := zc (fX7_has N x0 (8 : Int32) z) fun r1 z2 => if r1 = 0 then (some ((0 : Int32), z2)) else (some ((zgI z2 7 17 x0), z2))
set_option maxHeartbeats 4000000 in
set_option maxRecDepth 100000 in
theorem bX7_resetNumber_0 (hst : zSt B ids) (F : zFx p m c cX7_resetNumber 1 s args RX7 D cy B ids A) (hA : ∀ q : Nat, s.heap.size ≤ q → A q) {r : Int32} {z' : St} (E : zEnd p l e rmX7_resetNumber s m args below meth c cX7_resetNumber D cy B ids A Q (some (.int r)) z' .ireturn True) {N : Nat}  (x0 : Nat) (hx0 : (7, x0) ∈ ids) {z : St} {H : Heap} {locs : List Loc} {ls : Array Slot} (hr : zRep D cy B ids A s.heap z H locs) (hl : lv_has ls 1 [(0, .ref (B 7 x0))]) (h : fX7_resetNumber N x0 z = some (r, z')) : W p l e rmX7_resetNumber s m args below meth c H locs 0 0 Q (F0 m 0 ls []) := by
  unfold fX7_resetNumber at h
  refine lv_aload_n F.1 F.2.1 dX7_resetNumber_0 rfl (lv_at hl 0 rfl) ?_
  refine lv_bipush (v := (8 : Int32)) F.1 F.2.1 dX7_resetNumber_1 (by decide) ?_
  replace h := zc_some h
  obtain ⟨r1, z2, hc3, h⟩ := h
  refine zr_calli (zrun_V (As := [.int (8 : Int32)]) (rest := []) zq_1282 zq_1276 zs_X7_has zq_1277 zq_2 hdX7_has (by decide) (T := TX7) (N := 20) rfl (okX7_has l D cy B ids hst N x0 hx0 (8 : Int32)  hr.2.2 hc3) F hr hx0 hl.1 rfl (by decide) dX7_resetNumber_3 rfl rfl hroX7_resetNumber_X7_has ⟨Nat.zero_le _, Nat.zero_le _⟩) F hA hr (fun H locs hw4 hr => ?_)
  clear hc3
  refine lv_if_eq (tgt := 16) F.1 F.2.1 dX7_resetNumber_6 (by decide) (fun c5 => ?_) (fun c5 => ?_)
  · replace h := zi_t c5 h
    refine lv_iconst (v := (0 : Int32)) F.1 F.2.1 dX7_resetNumber_16 (by decide) ?_
    obtain ⟨rfl, rfl⟩ := zret h
    exact E _ _ _ _ dX7_resetNumber_17 trivial hr
  · replace h := zi_f c5 h
    refine lv_aload_n F.1 F.2.1 dX7_resetNumber_9 rfl (lv_at hl 0 rfl) ?_
    refine gf7_72 F hx0 hr dX7_resetNumber_10 ?_
    refine lv_goto (tgt := 17) F.1 F.2.1 dX7_resetNumber_13 (by decide) ?_
    obtain ⟨rfl, rfl⟩ := zret h
    exact E _ _ _ _ dX7_resetNumber_17 trivial hr
end SX7_resetNumber
set_option maxRecDepth 100000 in
theorem okX7_resetNumber (l : Launch) (D : va_G) (cy : Nat → ClassId) (B : Nat → Nat → Nat) (ids : List (Nat × Nat)) (hst : zSt B ids) (N : Nat) (x0 : Nat) (hx0 : (7, x0) ∈ ids) {z : St} {r : Int32} {z' : St} (hW : zWf ids z) (h : fX7_resetNumber N x0 z = some (r, z')) : zM l yX7_resetNumber (zws yX7_resetNumber cX7_resetNumber 1 (some .int)) rmX7_resetNumber D cy B ids [.ref (B 7 x0)] (some (.int r)) True z z' :=
  zM_of hst hW (by decide +kernel) (Nat.le_of_ble_eq_true rfl) (fun p e s m args below meth c A ls F hA hret hlocks hr hl => bX7_resetNumber_0 hst F hA (zEnd_i F hret hlocks) x0 hx0 hr hl h)
abbrev rmX7_size : Room := { frames := 0, cells := 0, slots := 0, locals := 0 }
theorem hdX7_size : yX7_size.cls ≠ "java/lang/invoke/MethodHandle" ∧ yX7_size.cls ≠ "java/lang/invoke/VarHandle" ∧ (parseMethodDescriptor yX7_size.desc).map (fun d => d.parameters.length) = some 0 := by decide +kernel
section SX7_size
variable {p : Program} {l : Launch} {e : Env} {s : State} {m : MethodId} {args : Array Value} {below : List Frame} {meth : Method} {c : Code} {Q : State → Prop} {D : va_G} {cy : Nat → ClassId} {B : Nat → Nat → Nat} {ids : List (Nat × Nat)} {A : Nat → Prop}
def fX7_size_33 (N : Nat)  (x0 : Nat) (x1 : Int32) (z : St) : Option (Int32 × St) := if ((zgI z 7 15 x0) &&& (2 : Int32)) = 0 then (some (x1, z)) else (some ((x1 + (1 : Int32)), z))
set_option maxHeartbeats 4000000 in
set_option maxRecDepth 100000 in
theorem bX7_size_33 (hst : zSt B ids) (F : zFx p m c cX7_size 2 s args RX7 D cy B ids A) (hA : ∀ q : Nat, s.heap.size ≤ q → A q) {r : Int32} {z' : St} (E : zEnd p l e rmX7_size s m args below meth c cX7_size D cy B ids A Q (some (.int r)) z' .ireturn True) {N : Nat}  (x0 : Nat) (x1 : Int32) (hx0 : (7, x0) ∈ ids) {z : St} {H : Heap} {locs : List Loc} {ls : Array Slot} (hr : zRep D cy B ids A s.heap z H locs) (hl : lv_has ls 2 [(0, .ref (B 7 x0)), (1, .int x1)]) (h : fX7_size_33 N x0 x1 z = some (r, z')) : W p l e rmX7_size s m args below meth c H locs 0 0 Q (F0 m 33 ls []) := by
  unfold fX7_size_33 at h
  refine lv_aload_n F.1 F.2.1 dX7_size_33 rfl (lv_at hl 0 rfl) ?_
  refine gf7_75 F hx0 hr dX7_size_34 ?_
  refine lv_iconst (v := (2 : Int32)) F.1 F.2.1 dX7_size_37 (by decide) ?_
  refine lv_iand F.1 F.2.1 dX7_size_38 ?_
  refine lv_if_eq (tgt := 48) F.1 F.2.1 dX7_size_39 (by decide) (fun c1 => ?_) (fun c1 => ?_)
  · replace h := zi_t c1 h
    refine lv_iload_n F.1 F.2.1 dX7_size_48 rfl (lv_at hl 1 rfl) ?_
    obtain ⟨rfl, rfl⟩ := zret h
    exact E _ _ _ _ dX7_size_49 trivial hr
  · replace h := zi_f c1 h
    refine lv_iload_n F.1 F.2.1 dX7_size_42 rfl (lv_at hl 1 rfl) ?_
    refine lv_iconst (v := (1 : Int32)) F.1 F.2.1 dX7_size_43 (by decide) ?_
    refine lv_iadd F.1 F.2.1 dX7_size_44 ?_
    refine lv_goto (tgt := 49) F.1 F.2.1 dX7_size_45 (by decide) ?_
    obtain ⟨rfl, rfl⟩ := zret h
    exact E _ _ _ _ dX7_size_49 trivial hr
def fX7_size_20 (N : Nat)  (x0 : Nat) (s0 : Int32) (z : St) : Option (Int32 × St) := if ((zgI z 7 15 x0) &&& (1 : Int32)) = 0 then (fX7_size_33 N x0 s0 z) else (zl (s0 + 1) fun v2 => fX7_size_33 N x0 v2 z)
set_option maxHeartbeats 4000000 in
set_option maxRecDepth 100000 in
theorem bX7_size_20 (hst : zSt B ids) (F : zFx p m c cX7_size 2 s args RX7 D cy B ids A) (hA : ∀ q : Nat, s.heap.size ≤ q → A q) {r : Int32} {z' : St} (E : zEnd p l e rmX7_size s m args below meth c cX7_size D cy B ids A Q (some (.int r)) z' .ireturn True) {N : Nat}  (x0 : Nat) (s0 : Int32) (hx0 : (7, x0) ∈ ids) {z : St} {H : Heap} {locs : List Loc} {ls : Array Slot} (hr : zRep D cy B ids A s.heap z H locs) (hl : lv_has ls 2 [(0, .ref (B 7 x0))]) (h : fX7_size_20 N x0 s0 z = some (r, z')) : W p l e rmX7_size s m args below meth c H locs 0 0 Q (F0 m 20 ls [.int s0]) := by
  unfold fX7_size_20 at h
  refine lv_istore_n (lv' := [(1, .int s0), (0, .ref (B 7 x0))]) F.1 F.2.1 dX7_size_20 rfl hl (by decide) rfl (fun ls hl => ?_)
  refine lv_aload_n F.1 F.2.1 dX7_size_21 rfl (lv_at hl 1 rfl) ?_
  refine gf7_75 F hx0 hr dX7_size_22 ?_
  refine lv_iconst (v := (1 : Int32)) F.1 F.2.1 dX7_size_25 (by decide) ?_
  refine lv_iand F.1 F.2.1 dX7_size_26 ?_
  refine lv_if_eq (tgt := 33) F.1 F.2.1 dX7_size_27 (by decide) (fun c1 => ?_) (fun c1 => ?_)
  · replace h := zi_t c1 h
    exact bX7_size_33 hst F hA E  x0 s0 hx0 hr (lv_sub hl [1, 0] rfl) h
  · replace h := zi_f c1 h
    obtain ⟨v2, ev2⟩ : ∃ y : Int32, y = (s0 + 1) := ⟨_, rfl⟩
    replace h := zl_sub ev2 h
    refine lv_iinc (v := v2) (lv' := [(1, .int v2), (0, .ref (B 7 x0))]) F.1 F.2.1 dX7_size_30 hl (k := 0) rfl (by rw [ev2]; rfl) (by decide) rfl (fun ls hl => ?_)
    exact bX7_size_33 hst F hA E  x0 v2 hx0 hr (lv_sub hl [1, 0] rfl) h
def fX7_size (N : Nat)  (x0 : Nat) (z : St) : Option (Int32 × St) := if (zgI z 7 7 x0) ≤ (20 : Int32) then (fX7_size_20 N x0 (0 : Int32) z) else (fX7_size_20 N x0 ((zgI z 7 7 x0) - (20 : Int32)) z)
set_option maxHeartbeats 4000000 in
set_option maxRecDepth 100000 in
theorem bX7_size_0 (hst : zSt B ids) (F : zFx p m c cX7_size 2 s args RX7 D cy B ids A) (hA : ∀ q : Nat, s.heap.size ≤ q → A q) {r : Int32} {z' : St} (E : zEnd p l e rmX7_size s m args below meth c cX7_size D cy B ids A Q (some (.int r)) z' .ireturn True) {N : Nat}  (x0 : Nat) (hx0 : (7, x0) ∈ ids) {z : St} {H : Heap} {locs : List Loc} {ls : Array Slot} (hr : zRep D cy B ids A s.heap z H locs) (hl : lv_has ls 2 [(0, .ref (B 7 x0))]) (h : fX7_size N x0 z = some (r, z')) : W p l e rmX7_size s m args below meth c H locs 0 0 Q (F0 m 0 ls []) := by
  unfold fX7_size at h
  refine lv_aload_n F.1 F.2.1 dX7_size_0 rfl (lv_at hl 0 rfl) ?_
  refine gf7_34 F hx0 hr dX7_size_1 ?_
  refine lv_bipush (v := (20 : Int32)) F.1 F.2.1 dX7_size_4 (by decide) ?_
  refine lv_icmp_le (tgt := 19) F.1 F.2.1 dX7_size_6 (by decide) (fun c1 => ?_) (fun c1 => ?_)
  · replace h := zi_t c1 h
    refine lv_iconst (v := (0 : Int32)) F.1 F.2.1 dX7_size_19 (by decide) ?_
    exact bX7_size_20 hst F hA E  x0 (0 : Int32) hx0 hr (lv_sub hl [0] rfl) h
  · replace h := zi_f c1 h
    refine lv_aload_n F.1 F.2.1 dX7_size_9 rfl (lv_at hl 0 rfl) ?_
    refine gf7_34 F hx0 hr dX7_size_10 ?_
    refine lv_bipush (v := (20 : Int32)) F.1 F.2.1 dX7_size_13 (by decide) ?_
    refine lv_isub F.1 F.2.1 dX7_size_15 ?_
    refine lv_goto (tgt := 20) F.1 F.2.1 dX7_size_16 (by decide) ?_
    exact bX7_size_20 hst F hA E  x0 ((zgI z 7 7 x0) - (20 : Int32)) hx0 hr (lv_sub hl [0] rfl) h
end SX7_size
set_option maxRecDepth 100000 in
theorem okX7_size (l : Launch) (D : va_G) (cy : Nat → ClassId) (B : Nat → Nat → Nat) (ids : List (Nat × Nat)) (hst : zSt B ids) (N : Nat) (x0 : Nat) (hx0 : (7, x0) ∈ ids) {z : St} {r : Int32} {z' : St} (hW : zWf ids z) (h : fX7_size N x0 z = some (r, z')) : zM l yX7_size (zws yX7_size cX7_size 2 (some .int)) rmX7_size D cy B ids [.ref (B 7 x0)] (some (.int r)) True z z' :=
  zM_of hst hW (by decide +kernel) (Nat.le_of_ble_eq_true rfl) (fun p e s m args below meth c A ls F hA hret hlocks hr hl => bX7_size_0 hst F hA (zEnd_i F hret hlocks) x0 hx0 hr hl h)
abbrev rmX7_resetThanked : Room := { frames := 1, cells := 0, slots := 0, locals := 21 }
theorem hdX7_resetThanked : yX7_resetThanked.cls ≠ "java/lang/invoke/MethodHandle" ∧ yX7_resetThanked.cls ≠ "java/lang/invoke/VarHandle" ∧ (parseMethodDescriptor yX7_resetThanked.desc).map (fun d => d.parameters.length) = some 0 := by decide +kernel
theorem hroX7_resetThanked_X7_has : rmX7_has.frames + 1 ≤ rmX7_resetThanked.frames ∧ 8 + (2 + 11) + rmX7_has.locals ≤ rmX7_resetThanked.locals := by decide
theorem hroX7_resetThanked_X7_size : rmX7_size.frames + 1 ≤ rmX7_resetThanked.frames ∧ 8 + (2 + 11) + rmX7_size.locals ≤ rmX7_resetThanked.locals := by decide
section SX7_resetThanked
variable {p : Program} {l : Launch} {e : Env} {s : State} {m : MethodId} {args : Array Value} {below : List Frame} {meth : Method} {c : Code} {Q : State → Prop} {D : va_G} {cy : Nat → ClassId} {B : Nat → Nat → Nat} {ids : List (Nat × Nat)} {A : Nat → Prop}
def fX7_resetThanked (N : Nat)  (x0 : Nat) (z : St) : Option (Int32 × St) := zc (fX7_has N x0 (8 : Int32) z) fun r1 z2 => if r1 = 0 then (zc (fX7_size N x0 z2) fun r6 z7 => some (((zgI z2 7 16 x0) + r6), z7)) else (some ((0 : Int32), z2))
set_option maxHeartbeats 4000000 in
set_option maxRecDepth 100000 in
theorem bX7_resetThanked_0 (hst : zSt B ids) (F : zFx p m c cX7_resetThanked 1 s args RX7 D cy B ids A) (hA : ∀ q : Nat, s.heap.size ≤ q → A q) {r : Int32} {z' : St} (E : zEnd p l e rmX7_resetThanked s m args below meth c cX7_resetThanked D cy B ids A Q (some (.int r)) z' .ireturn True) {N : Nat}  (x0 : Nat) (hx0 : (7, x0) ∈ ids) {z : St} {H : Heap} {locs : List Loc} {ls : Array Slot} (hr : zRep D cy B ids A s.heap z H locs) (hl : lv_has ls 1 [(0, .ref (B 7 x0))]) (h : fX7_resetThanked N x0 z = some (r, z')) : W p l e rmX7_resetThanked s m args below meth c H locs 0 0 Q (F0 m 0 ls []) := by
  unfold fX7_resetThanked at h
  refine lv_aload_n F.1 F.2.1 dX7_resetThanked_0 rfl (lv_at hl 0 rfl) ?_
  refine lv_bipush (v := (8 : Int32)) F.1 F.2.1 dX7_resetThanked_1 (by decide) ?_
  replace h := zc_some h
  obtain ⟨r1, z2, hc3, h⟩ := h
  refine zr_calli (zrun_V (As := [.int (8 : Int32)]) (rest := []) zq_1282 zq_1276 zs_X7_has zq_1277 zq_2 hdX7_has (by decide) (T := TX7) (N := 20) rfl (okX7_has l D cy B ids hst N x0 hx0 (8 : Int32)  hr.2.2 hc3) F hr hx0 hl.1 rfl (by decide) dX7_resetThanked_3 rfl rfl hroX7_resetThanked_X7_has ⟨Nat.zero_le _, Nat.zero_le _⟩) F hA hr (fun H locs hw4 hr => ?_)
  clear hc3
  refine lv_if_eq (tgt := 13) F.1 F.2.1 dX7_resetThanked_6 (by decide) (fun c5 => ?_) (fun c5 => ?_)
  · replace h := zi_t c5 h
    refine lv_aload_n F.1 F.2.1 dX7_resetThanked_13 rfl (lv_at hl 0 rfl) ?_
    refine gf7_69 F hx0 hr dX7_resetThanked_14 ?_
    refine lv_aload_n F.1 F.2.1 dX7_resetThanked_17 rfl (lv_at hl 0 rfl) ?_
    replace h := zc_some h
    obtain ⟨r6, z7, hc8, h⟩ := h
    refine zr_calli (zrun_V (As := []) (rest := [.int (zgI z2 7 16 x0)]) zq_1291 zq_1293 zs_X7_size zq_1294 zq_2 hdX7_size (by decide) (T := TX7) (N := 20) rfl (okX7_size l D cy B ids hst N x0 hx0 hr.2.2 hc8) F hr hx0 hl.1 rfl (Nat.le_of_ble_eq_true rfl) dX7_resetThanked_18 rfl rfl hroX7_resetThanked_X7_size ⟨Nat.zero_le _, Nat.zero_le _⟩) F hA hr (fun H locs hw9 hr => ?_)
    clear hc8
    refine lv_iadd F.1 F.2.1 dX7_resetThanked_21 ?_
    obtain ⟨rfl, rfl⟩ := zret h
    exact E _ _ _ _ dX7_resetThanked_22 trivial hr
  · replace h := zi_f c5 h
    refine lv_iconst (v := (0 : Int32)) F.1 F.2.1 dX7_resetThanked_9 (by decide) ?_
    refine lv_goto (tgt := 22) F.1 F.2.1 dX7_resetThanked_10 (by decide) ?_
    obtain ⟨rfl, rfl⟩ := zret h
    exact E _ _ _ _ dX7_resetThanked_22 trivial hr
end SX7_resetThanked
set_option maxRecDepth 100000 in
theorem okX7_resetThanked (l : Launch) (D : va_G) (cy : Nat → ClassId) (B : Nat → Nat → Nat) (ids : List (Nat × Nat)) (hst : zSt B ids) (N : Nat) (x0 : Nat) (hx0 : (7, x0) ∈ ids) {z : St} {r : Int32} {z' : St} (hW : zWf ids z) (h : fX7_resetThanked N x0 z = some (r, z')) : zM l yX7_resetThanked (zws yX7_resetThanked cX7_resetThanked 1 (some .int)) rmX7_resetThanked D cy B ids [.ref (B 7 x0)] (some (.int r)) True z z' :=
  zM_of hst hW (by decide +kernel) (Nat.le_of_ble_eq_true rfl) (fun p e s m args below meth c A ls F hA hret hlocks hr hl => bX7_resetThanked_0 hst F hA (zEnd_i F hret hlocks) x0 hx0 hr hl h)
abbrev rmX3_resets : Room := { frames := 2, cells := 0, slots := 0, locals := 41 }
theorem hdX3_resets : yX3_resets.cls ≠ "java/lang/invoke/MethodHandle" ∧ yX3_resets.cls ≠ "java/lang/invoke/VarHandle" ∧ (parseMethodDescriptor yX3_resets.desc).map (fun d => d.parameters.length) = some 1 := by decide +kernel
theorem hroX3_resets_X7_has : rmX7_has.frames + 1 ≤ rmX3_resets.frames ∧ 8 + (2 + 11) + rmX7_has.locals ≤ rmX3_resets.locals := by decide
theorem hroX3_resets_X7_resetFlags : rmX7_resetFlags.frames + 1 ≤ rmX3_resets.frames ∧ 8 + (1 + 11) + rmX7_resetFlags.locals ≤ rmX3_resets.locals := by decide
theorem hroX3_resets_X7_resetNumber : rmX7_resetNumber.frames + 1 ≤ rmX3_resets.frames ∧ 8 + (1 + 11) + rmX7_resetNumber.locals ≤ rmX3_resets.locals := by decide
theorem hroX3_resets_X7_resetThanked : rmX7_resetThanked.frames + 1 ≤ rmX3_resets.frames ∧ 8 + (1 + 11) + rmX7_resetThanked.locals ≤ rmX3_resets.locals := by decide
section SX3_resets
variable {p : Program} {l : Launch} {e : Env} {s : State} {m : MethodId} {args : Array Value} {below : List Frame} {meth : Method} {c : Code} {Q : State → Prop} {D : va_G} {cy : Nat → ClassId} {B : Nat → Nat → Nat} {ids : List (Nat × Nat)} {A : Nat → Prop}
def fX3_resets (N : Nat)  (x0 : Nat) (x1 : Nat) (z : St) : Option (Int32 × St) := zc (fX7_has N x1 (4 : Int32) z) fun r1 z2 => if r1 = 0 then (zl (zsI z2 3 5 x0 (1 : Int32)) fun z6 => zc (fX7_resetFlags N x1 z6) fun r7 z8 => zl (zsI z8 3 6 x0 r7) fun z11 => zc (fX7_resetNumber N x1 z11) fun r12 z13 => zl (zsI z13 3 7 x0 r12) fun z16 => zc (fX7_resetThanked N x1 z16) fun r17 z18 => zl (zsI z18 3 8 x0 r17) fun z21 => some (0, z21)) else (some (0, z2))
set_option maxHeartbeats 4000000 in
set_option maxRecDepth 100000 in
theorem bX3_resets_0 (hst : zSt B ids) (F : zFx p m c cX3_resets 2 s args RX3 D cy B ids A) (hA : ∀ q : Nat, s.heap.size ≤ q → A q) {r : Int32} {z' : St} (E : zEnd p l e rmX3_resets s m args below meth c cX3_resets D cy B ids A Q none z' .return_ True) {N : Nat}  (x0 : Nat) (x1 : Nat) (hx0 : (3, x0) ∈ ids) (hx1 : (7, x1) ∈ ids) {z : St} {H : Heap} {locs : List Loc} {ls : Array Slot} (hr : zRep D cy B ids A s.heap z H locs) (hl : lv_has ls 2 [(0, .ref (B 3 x0)), (1, .ref (B 7 x1))]) (h : fX3_resets N x0 x1 z = some (r, z')) : W p l e rmX3_resets s m args below meth c H locs 0 0 Q (F0 m 0 ls []) := by
  unfold fX3_resets at h
  refine lv_aload_n F.1 F.2.1 dX3_resets_0 rfl (lv_at hl 1 rfl) ?_
  refine lv_iconst (v := (4 : Int32)) F.1 F.2.1 dX3_resets_1 (by decide) ?_
  replace h := zc_some h
  obtain ⟨r1, z2, hc3, h⟩ := h
  refine zr_calli (zrun_VN (As := [.int (4 : Int32)]) (rest := []) zn_1317 zq_1276 zs_X7_has zq_1277 zq_2 hdX7_has (by decide) (T := TX7) (N := 20) rfl (okX7_has l D cy B ids hst N x1 hx1 (4 : Int32)  hr.2.2 hc3) F hr hx1 hl.1 rfl (by decide) dX3_resets_2 rfl rfl hroX3_resets_X7_has ⟨Nat.zero_le _, Nat.zero_le _⟩) F hA hr (fun H locs hw4 hr => ?_)
  clear hc3
  refine lv_if_eq (tgt := 9) F.1 F.2.1 dX3_resets_5 (by decide) (fun c5 => ?_) (fun c5 => ?_)
  · replace h := zi_t c5 h
    refine lv_aload_n F.1 F.2.1 dX3_resets_9 rfl (lv_at hl 0 rfl) ?_
    refine lv_iconst (v := (1 : Int32)) F.1 F.2.1 dX3_resets_10 (by decide) ?_
    refine pf3_46 F hx0 hr dX3_resets_11 (1 : Int32) (by decide) (fun H locs z6 ez6 hr => ?_)
    replace h := zl_sub ez6 h
    clear ez6
    refine lv_aload_n F.1 F.2.1 dX3_resets_14 rfl (lv_at hl 0 rfl) ?_
    refine lv_aload_n F.1 F.2.1 dX3_resets_15 rfl (lv_at hl 1 rfl) ?_
    replace h := zc_some h
    obtain ⟨r7, z8, hc9, h⟩ := h
    refine zr_calli (zrun_VN (As := []) (rest := [.ref (B 3 x0)]) zn_1322 zq_1280 zs_X7_resetFlags zq_1281 zq_2 hdX7_resetFlags (by decide) (T := TX7) (N := 20) rfl (okX7_resetFlags l D cy B ids hst N x1 hx1 hr.2.2 hc9) F hr hx1 hl.1 rfl (Nat.le_of_ble_eq_true rfl) dX3_resets_16 rfl rfl hroX3_resets_X7_resetFlags ⟨Nat.zero_le _, Nat.zero_le _⟩) F hA hr (fun H locs hw10 hr => ?_)
    clear hc9
    refine pf3_98 F hx0 hr dX3_resets_19 r7 (fun H locs z11 ez11 hr => ?_)
    replace h := zl_sub ez11 h
    clear ez11
    refine lv_aload_n F.1 F.2.1 dX3_resets_22 rfl (lv_at hl 0 rfl) ?_
    refine lv_aload_n F.1 F.2.1 dX3_resets_23 rfl (lv_at hl 1 rfl) ?_
    replace h := zc_some h
    obtain ⟨r12, z13, hc14, h⟩ := h
    refine zr_calli (zrun_VN (As := []) (rest := [.ref (B 3 x0)]) zn_1323 zq_1285 zs_X7_resetNumber zq_1286 zq_2 hdX7_resetNumber (by decide) (T := TX7) (N := 20) rfl (okX7_resetNumber l D cy B ids hst N x1 hx1 hr.2.2 hc14) F hr hx1 hl.1 rfl (Nat.le_of_ble_eq_true rfl) dX3_resets_24 rfl rfl hroX3_resets_X7_resetNumber ⟨Nat.zero_le _, Nat.zero_le _⟩) F hA hr (fun H locs hw15 hr => ?_)
    clear hc14
    refine pf3_101 F hx0 hr dX3_resets_27 r12 (fun H locs z16 ez16 hr => ?_)
    replace h := zl_sub ez16 h
    clear ez16
    refine lv_aload_n F.1 F.2.1 dX3_resets_30 rfl (lv_at hl 0 rfl) ?_
    refine lv_aload_n F.1 F.2.1 dX3_resets_31 rfl (lv_at hl 1 rfl) ?_
    replace h := zc_some h
    obtain ⟨r17, z18, hc19, h⟩ := h
    refine zr_calli (zrun_VN (As := []) (rest := [.ref (B 3 x0)]) zn_1324 zq_1289 zs_X7_resetThanked zq_1290 zq_2 hdX7_resetThanked (by decide) (T := TX7) (N := 20) rfl (okX7_resetThanked l D cy B ids hst N x1 hx1 hr.2.2 hc19) F hr hx1 hl.1 rfl (Nat.le_of_ble_eq_true rfl) dX3_resets_32 rfl rfl hroX3_resets_X7_resetThanked ⟨Nat.zero_le _, Nat.zero_le _⟩) F hA hr (fun H locs hw20 hr => ?_)
    clear hc19
    refine pf3_107 F hx0 hr dX3_resets_35 r17 (fun H locs z21 ez21 hr => ?_)
    replace h := zl_sub ez21 h
    clear ez21
    obtain ⟨rfl, rfl⟩ := zret h
    exact E _ _ _ _ dX3_resets_38 trivial hr
  · replace h := zi_f c5 h
    obtain ⟨rfl, rfl⟩ := zret h
    exact E _ _ _ _ dX3_resets_8 trivial hr
end SX3_resets
set_option maxRecDepth 100000 in
theorem okX3_resets (l : Launch) (D : va_G) (cy : Nat → ClassId) (B : Nat → Nat → Nat) (ids : List (Nat × Nat)) (hst : zSt B ids) (N : Nat) (x0 : Nat) (hx0 : (3, x0) ∈ ids) (x1 : Nat) (hx1 : (7, x1) ∈ ids) {z : St} {r : Int32} {z' : St} (hW : zWf ids z) (h : fX3_resets N x0 x1 z = some (r, z')) : zM l yX3_resets (zws yX3_resets cX3_resets 2 none) rmX3_resets D cy B ids [.ref (B 3 x0), .ref (B 7 x1)] none True z z' :=
  zM_of hst hW (by decide +kernel) (Nat.le_of_ble_eq_true rfl) (fun p e s m args below meth c A ls F hA hret hlocks hr hl => bX3_resets_0 hst F hA (zEnd_v F hret hlocks) x0 x1 hx0 hx1 hr hl h)
abbrev rmX6_tellWindow : Room := { frames := 0, cells := 0, slots := 0, locals := 0 }
theorem hdX6_tellWindow : yX6_tellWindow.cls ≠ "java/lang/invoke/MethodHandle" ∧ yX6_tellWindow.cls ≠ "java/lang/invoke/VarHandle" ∧ (parseMethodDescriptor yX6_tellWindow.desc).map (fun d => d.parameters.length) = some 2 := by decide +kernel
section SX6_tellWindow
variable {p : Program} {l : Launch} {e : Env} {s : State} {m : MethodId} {args : Array Value} {below : List Frame} {meth : Method} {c : Code} {Q : State → Prop} {D : va_G} {cy : Nat → ClassId} {B : Nat → Nat → Nat} {ids : List (Nat × Nat)} {A : Nat → Prop}
def fX6_tellWindow (N : Nat)  (x0 : Nat) (x1 : Nat) (x2 : Int32) (z : St) : Option (Int32 × St) := zl (zsI z 6 11 x0 (zgI z 7 18 x1)) fun z1 => zl (zsI z1 6 12 x0 (zgI z1 7 16 x1)) fun z2 => zl (zsI z2 6 13 x0 x2) fun z3 => some (0, z3)
set_option maxHeartbeats 4000000 in
set_option maxRecDepth 100000 in
theorem bX6_tellWindow_0 (hst : zSt B ids) (F : zFx p m c cX6_tellWindow 3 s args RX6 D cy B ids A) (hA : ∀ q : Nat, s.heap.size ≤ q → A q) {r : Int32} {z' : St} (E : zEnd p l e rmX6_tellWindow s m args below meth c cX6_tellWindow D cy B ids A Q none z' .return_ True) {N : Nat}  (x0 : Nat) (x1 : Nat) (x2 : Int32) (hx0 : (6, x0) ∈ ids) (hx1 : (7, x1) ∈ ids) {z : St} {H : Heap} {locs : List Loc} {ls : Array Slot} (hr : zRep D cy B ids A s.heap z H locs) (hl : lv_has ls 3 [(0, .ref (B 6 x0)), (1, .ref (B 7 x1)), (2, .int x2)]) (h : fX6_tellWindow N x0 x1 x2 z = some (r, z')) : W p l e rmX6_tellWindow s m args below meth c H locs 0 0 Q (F0 m 0 ls []) := by
  unfold fX6_tellWindow at h
  refine lv_aload_n F.1 F.2.1 dX6_tellWindow_0 rfl (lv_at hl 0 rfl) ?_
  refine lv_aload_n F.1 F.2.1 dX6_tellWindow_1 rfl (lv_at hl 1 rfl) ?_
  refine gf6_65 F hx1 hr dX6_tellWindow_2 ?_
  refine pf6_47 F hx0 hr dX6_tellWindow_5 (zgI z 7 18 x1) (fun H locs z1 ez1 hr => ?_)
  replace h := zl_sub ez1 h
  clear ez1
  refine lv_aload_n F.1 F.2.1 dX6_tellWindow_8 rfl (lv_at hl 0 rfl) ?_
  refine lv_aload_n F.1 F.2.1 dX6_tellWindow_9 rfl (lv_at hl 1 rfl) ?_
  refine gf6_68 F hx1 hr dX6_tellWindow_10 ?_
  refine pf6_50 F hx0 hr dX6_tellWindow_13 (zgI z1 7 16 x1) (fun H locs z2 ez2 hr => ?_)
  replace h := zl_sub ez2 h
  clear ez2
  refine lv_aload_n F.1 F.2.1 dX6_tellWindow_16 rfl (lv_at hl 0 rfl) ?_
  refine lv_iload_n F.1 F.2.1 dX6_tellWindow_17 rfl (lv_at hl 2 rfl) ?_
  refine pf6_53 F hx0 hr dX6_tellWindow_18 x2 (fun H locs z3 ez3 hr => ?_)
  replace h := zl_sub ez3 h
  clear ez3
  obtain ⟨rfl, rfl⟩ := zret h
  exact E _ _ _ _ dX6_tellWindow_21 trivial hr
end SX6_tellWindow
set_option maxRecDepth 100000 in
theorem okX6_tellWindow (l : Launch) (D : va_G) (cy : Nat → ClassId) (B : Nat → Nat → Nat) (ids : List (Nat × Nat)) (hst : zSt B ids) (N : Nat) (x0 : Nat) (hx0 : (6, x0) ∈ ids) (x1 : Nat) (hx1 : (7, x1) ∈ ids) (x2 : Int32) {z : St} {r : Int32} {z' : St} (hW : zWf ids z) (h : fX6_tellWindow N x0 x1 x2 z = some (r, z')) : zM l yX6_tellWindow (zws yX6_tellWindow cX6_tellWindow 3 none) rmX6_tellWindow D cy B ids [.ref (B 6 x0), .ref (B 7 x1), .int x2] none True z z' :=
  zM_of hst hW (by decide +kernel) (Nat.le_of_ble_eq_true rfl) (fun p e s m args below meth c A ls F hA hret hlocks hr hl => bX6_tellWindow_0 hst F hA (zEnd_v F hret hlocks) x0 x1 x2 hx0 hx1 hr hl h)
abbrev rmX3_takeOpen : Room := { frames := 1, cells := 0, slots := 0, locals := 60 }
theorem hdX3_takeOpen : yX3_takeOpen.cls ≠ "java/lang/invoke/MethodHandle" ∧ yX3_takeOpen.cls ≠ "java/lang/invoke/VarHandle" ∧ (parseMethodDescriptor yX3_takeOpen.desc).map (fun d => d.parameters.length) = some 1 := by decide +kernel
theorem hroX3_takeOpen_X6_tellWindow : rmX6_tellWindow.frames + 1 ≤ rmX3_takeOpen.frames ∧ 8 + (3 + 11) + rmX6_tellWindow.locals ≤ rmX3_takeOpen.locals := by decide
theorem hroX3_takeOpen_X7_has : rmX7_has.frames + 1 ≤ rmX3_takeOpen.frames ∧ 8 + (2 + 11) + rmX7_has.locals ≤ rmX3_takeOpen.locals := by decide
section SX3_takeOpen
variable {p : Program} {l : Launch} {e : Env} {s : State} {m : MethodId} {args : Array Value} {below : List Frame} {meth : Method} {c : Code} {Q : State → Prop} {D : va_G} {cy : Nat → ClassId} {B : Nat → Nat → Nat} {ids : List (Nat × Nat)} {A : Nat → Prop}
def fX3_takeOpen_68 (N : Nat)  (x0 : Nat) (x1 : Nat) (s0 : Option Nat) (s1 : Nat) (s2 : Int32) (z : St) : Option (Int32 × St) := zd s0 fun a1 => zc (fX6_tellWindow N a1 s1 s2 z) fun _ z3 => zl (zsI z3 3 15 x0 (zgI z3 7 9 x1)) fun z6 => some (0, z6)
set_option maxHeartbeats 4000000 in
set_option maxRecDepth 100000 in
theorem bX3_takeOpen_68 (hst : zSt B ids) (F : zFx p m c cX3_takeOpen 3 s args RX3 D cy B ids A) (hA : ∀ q : Nat, s.heap.size ≤ q → A q) {r : Int32} {z' : St} (E : zEnd p l e rmX3_takeOpen s m args below meth c cX3_takeOpen D cy B ids A Q none z' .return_ True) {N : Nat}  (x0 : Nat) (x1 : Nat) (s0 : Option Nat) (s1 : Nat) (s2 : Int32) (hx0 : (3, x0) ∈ ids) (hx1 : (7, x1) ∈ ids) (hs0 : ∀ t, s0 = some t → (6, t) ∈ ids) (hs1 : (7, s1) ∈ ids) {z : St} {H : Heap} {locs : List Loc} {ls : Array Slot} (hr : zRep D cy B ids A s.heap z H locs) (hl : lv_has ls 3 [(0, .ref (B 3 x0)), (1, .ref (B 7 x1))]) (h : fX3_takeOpen_68 N x0 x1 s0 s1 s2 z = some (r, z')) : W p l e rmX3_takeOpen s m args below meth c H locs 0 0 Q (F0 m 68 ls [.int s2, .ref (B 7 s1), va_rf (Option.map (B 6) s0)]) := by
  unfold fX3_takeOpen_68 at h
  replace h := zd_some h
  obtain ⟨a1, rfl, h⟩ := h
  replace h := zc_some h
  obtain ⟨r2, z3, hc4, h⟩ := h
  refine zr_callv (zrun_VN (As := [.ref (B 7 s1), .int s2]) (rest := []) zn_1330 zq_1332 zs_X6_tellWindow zq_1333 zq_14 hdX6_tellWindow (by decide) (T := TX6) (N := 14) rfl (okX6_tellWindow l D cy B ids hst N a1 (hs0 _ rfl) s1 hs1 s2  hr.2.2 hc4) F hr (hs0 _ rfl) hl.1 rfl (by decide) dX3_takeOpen_68 rfl rfl hroX3_takeOpen_X6_tellWindow ⟨Nat.zero_le _, Nat.zero_le _⟩) F hA hr (fun H locs hw5 hr => ?_)
  clear hc4
  refine lv_aload_n F.1 F.2.1 dX3_takeOpen_71 rfl (lv_at hl 0 rfl) ?_
  refine lv_aload_n F.1 F.2.1 dX3_takeOpen_72 rfl (lv_at hl 1 rfl) ?_
  refine gf3_168 F hx1 hr dX3_takeOpen_73 ?_
  refine pf3_74 F hx0 hr dX3_takeOpen_76 (zgI z3 7 9 x1) (fun H locs z6 ez6 hr => ?_)
  replace h := zl_sub ez6 h
  clear ez6
  obtain ⟨rfl, rfl⟩ := zret h
  exact E _ _ _ _ dX3_takeOpen_79 trivial hr
def fX3_takeOpen_34 (N : Nat)  (x0 : Nat) (x1 : Nat) (s0 : Nat) (s1 : Int32) (s2 : Int32) (z : St) : Option (Int32 × St) := zl (zsI z 3 2 s0 (if s2 < s1 then s2 else s1)) fun z1 => zl (zgR z1 3 16 x0) fun y2 => zc (fX7_has N x1 (8 : Int32) z1) fun r3 z4 => if r3 = 0 then (zl (zgR z4 3 16 x0) fun y8 => zd y8 fun a9 => fX3_takeOpen_68 N x0 x1 y2 x1 (zgI z4 6 4 a9) z4) else (fX3_takeOpen_68 N x0 x1 y2 x1 (zgI z4 7 17 x1) z4)
set_option maxHeartbeats 4000000 in
set_option maxRecDepth 100000 in
theorem bX3_takeOpen_34 (hst : zSt B ids) (F : zFx p m c cX3_takeOpen 3 s args RX3 D cy B ids A) (hA : ∀ q : Nat, s.heap.size ≤ q → A q) {r : Int32} {z' : St} (E : zEnd p l e rmX3_takeOpen s m args below meth c cX3_takeOpen D cy B ids A Q none z' .return_ True) {N : Nat}  (x0 : Nat) (x1 : Nat) (s0 : Nat) (s1 : Int32) (s2 : Int32) (hx0 : (3, x0) ∈ ids) (hx1 : (7, x1) ∈ ids) (hs0 : (3, s0) ∈ ids) {z : St} {H : Heap} {locs : List Loc} {ls : Array Slot} (hr : zRep D cy B ids A s.heap z H locs) (hl : lv_has ls 3 [(0, .ref (B 3 x0)), (1, .ref (B 7 x1))]) (h : fX3_takeOpen_34 N x0 x1 s0 s1 s2 z = some (r, z')) : W p l e rmX3_takeOpen s m args below meth c H locs 0 0 Q (F0 m 34 ls [.int s2, .int s1, .ref (B 3 s0)]) := by
  unfold fX3_takeOpen_34 at h
  refine va_mmin F.1 F.2.1 (F.2.2.1.trans hl.1.symm) F.2.2.2.1 (F.2.2.2.2.1 _ zq_1329) (F.2.2.2.2.1 _ zq_304) (F.2.2.2.2.1 _ zq_27) (F.2.2.2.2.1 _ zq_305) (Nat.le_of_ble_eq_true rfl) (Nat.le_of_ble_eq_true rfl) (Nat.zero_le _) (Nat.zero_le _) dX3_takeOpen_34 ?_
  refine pf3_53 F hs0 hr dX3_takeOpen_37 (if s2 < s1 then s2 else s1) (fun H locs z1 ez1 hr => ?_)
  replace h := zl_sub ez1 h
  clear ez1
  refine lv_aload_n F.1 F.2.1 dX3_takeOpen_40 rfl (lv_at hl 0 rfl) ?_
  refine gf3_12 F hx0 hr dX3_takeOpen_41 (fun y2 ey2 => ?_)
  replace h := zl_sub ey2 h
  have hy2 := zal_g hr hx0 (j := 16) rfl ey2
  clear ey2
  refine lv_aload_n F.1 F.2.1 dX3_takeOpen_44 rfl (lv_at hl 1 rfl) ?_
  refine lv_aload_n F.1 F.2.1 dX3_takeOpen_45 rfl (lv_at hl 1 rfl) ?_
  refine lv_bipush (v := (8 : Int32)) F.1 F.2.1 dX3_takeOpen_46 (by decide) ?_
  replace h := zc_some h
  obtain ⟨r3, z4, hc5, h⟩ := h
  refine zr_calli (zrun_VN (As := [.int (8 : Int32)]) (rest := [.ref (B 7 x1), va_rf (Option.map (B 6) y2)]) zn_1317 zq_1276 zs_X7_has zq_1277 zq_2 hdX7_has (by decide) (T := TX7) (N := 20) rfl (okX7_has l D cy B ids hst N x1 hx1 (8 : Int32)  hr.2.2 hc5) F hr hx1 hl.1 rfl (by simp only [List.map, zrf_cat]; exact Nat.le_of_ble_eq_true rfl) dX3_takeOpen_48 rfl rfl hroX3_takeOpen_X7_has ⟨Nat.zero_le _, Nat.zero_le _⟩) F hA hr (fun H locs hw6 hr => ?_)
  clear hc5
  refine lv_if_eq (tgt := 61) F.1 F.2.1 dX3_takeOpen_51 (by decide) (fun c7 => ?_) (fun c7 => ?_)
  · replace h := zi_t c7 h
    refine lv_aload_n F.1 F.2.1 dX3_takeOpen_61 rfl (lv_at hl 0 rfl) ?_
    refine gf3_12 F hx0 hr dX3_takeOpen_62 (fun y8 ey8 => ?_)
    replace h := zl_sub ey8 h
    have hy8 := zal_g hr hx0 (j := 16) rfl ey8
    clear ey8
    replace h := zd_some h
    obtain ⟨a9, rfl, h⟩ := h
    refine gf3_83 F (hy8 _ rfl) hr dX3_takeOpen_65 ?_
    exact bX3_takeOpen_68 hst F hA E  x0 x1 y2 x1 (zgI z4 6 4 a9) hx0 hx1 hy2 hx1 hr (lv_sub hl [0, 1] rfl) h
  · replace h := zi_f c7 h
    refine lv_aload_n F.1 F.2.1 dX3_takeOpen_54 rfl (lv_at hl 1 rfl) ?_
    refine gf3_161 F hx1 hr dX3_takeOpen_55 ?_
    refine lv_goto (tgt := 68) F.1 F.2.1 dX3_takeOpen_58 (by decide) ?_
    exact bX3_takeOpen_68 hst F hA E  x0 x1 y2 x1 (zgI z4 7 17 x1) hx0 hx1 hy2 hx1 hr (lv_sub hl [0, 1] rfl) h
def fX3_takeOpen (N : Nat)  (x0 : Nat) (x1 : Nat) (z : St) : Option (Int32 × St) := zl (zgI z 7 19 x1) fun v1 => zl (zgR z 3 17 x0) fun y2 => zd y2 fun a3 => zl (zsI z 4 4 a3 ((zgI z 7 16 x1) + (1 : Int32))) fun z4 => if ¬ v1 = 0 then (fX3_takeOpen_34 N x0 x1 x0 (zgI z4 3 1 x0) v1 z4) else (fX3_takeOpen_34 N x0 x1 x0 (zgI z4 3 1 x0) (536 : Int32) z4)
set_option maxHeartbeats 4000000 in
set_option maxRecDepth 100000 in
theorem bX3_takeOpen_0 (hst : zSt B ids) (F : zFx p m c cX3_takeOpen 3 s args RX3 D cy B ids A) (hA : ∀ q : Nat, s.heap.size ≤ q → A q) {r : Int32} {z' : St} (E : zEnd p l e rmX3_takeOpen s m args below meth c cX3_takeOpen D cy B ids A Q none z' .return_ True) {N : Nat}  (x0 : Nat) (x1 : Nat) (hx0 : (3, x0) ∈ ids) (hx1 : (7, x1) ∈ ids) {z : St} {H : Heap} {locs : List Loc} {ls : Array Slot} (hr : zRep D cy B ids A s.heap z H locs) (hl : lv_has ls 3 [(0, .ref (B 3 x0)), (1, .ref (B 7 x1))]) (h : fX3_takeOpen N x0 x1 z = some (r, z')) : W p l e rmX3_takeOpen s m args below meth c H locs 0 0 Q (F0 m 0 ls []) := by
  unfold fX3_takeOpen at h
  refine lv_aload_n F.1 F.2.1 dX3_takeOpen_0 rfl (lv_at hl 1 rfl) ?_
  refine gf3_157 F hx1 hr dX3_takeOpen_1 ?_
  refine lv_topi (fun v1 ev1 => ?_)
  replace h := zl_sub ev1 h
  refine lv_istore_n (lv' := [(2, .int v1), (0, .ref (B 3 x0)), (1, .ref (B 7 x1))]) F.1 F.2.1 dX3_takeOpen_4 rfl hl (by decide) rfl (fun ls hl => ?_)
  refine lv_aload_n F.1 F.2.1 dX3_takeOpen_5 rfl (lv_at hl 1 rfl) ?_
  refine gf3_21 F hx0 hr dX3_takeOpen_6 (fun y2 ey2 => ?_)
  replace h := zl_sub ey2 h
  have hy2 := zal_g hr hx0 (j := 17) rfl ey2
  clear ey2
  refine lv_aload_n F.1 F.2.1 dX3_takeOpen_9 rfl (lv_at hl 2 rfl) ?_
  refine gf3_160 F hx1 hr dX3_takeOpen_10 ?_
  refine lv_iconst (v := (1 : Int32)) F.1 F.2.1 dX3_takeOpen_13 (by decide) ?_
  refine lv_iadd F.1 F.2.1 dX3_takeOpen_14 ?_
  replace h := zd_some h
  obtain ⟨a3, rfl, h⟩ := h
  refine pf3_104 F (hy2 _ rfl) hr dX3_takeOpen_15 ((zgI z 7 16 x1) + (1 : Int32)) (fun H locs z4 ez4 hr => ?_)
  replace h := zl_sub ez4 h
  clear ez4
  refine lv_aload_n F.1 F.2.1 dX3_takeOpen_18 rfl (lv_at hl 1 rfl) ?_
  refine lv_aload_n F.1 F.2.1 dX3_takeOpen_19 rfl (lv_at hl 1 rfl) ?_
  refine gf3_36 F hx0 hr dX3_takeOpen_20 ?_
  refine lv_iload_n F.1 F.2.1 dX3_takeOpen_23 rfl (lv_at hl 0 rfl) ?_
  refine lv_if_ne (tgt := 33) F.1 F.2.1 dX3_takeOpen_24 (by decide) (fun c5 => ?_) (fun c5 => ?_)
  · replace h := zi_t c5 h
    refine lv_iload_n F.1 F.2.1 dX3_takeOpen_33 rfl (lv_at hl 0 rfl) ?_
    exact bX3_takeOpen_34 hst F hA E  x0 x1 x0 (zgI z4 3 1 x0) v1 hx0 hx1 hx0 hr (lv_sub hl [1, 2] rfl) h
  · replace h := zi_f (fun q => q c5) h
    refine lv_sipush (v := (536 : Int32)) F.1 F.2.1 dX3_takeOpen_27 (by decide) ?_
    refine lv_goto (tgt := 34) F.1 F.2.1 dX3_takeOpen_30 (by decide) ?_
    exact bX3_takeOpen_34 hst F hA E  x0 x1 x0 (zgI z4 3 1 x0) (536 : Int32) hx0 hx1 hx0 hr (lv_sub hl [1, 2] rfl) h
end SX3_takeOpen
set_option maxRecDepth 100000 in
theorem okX3_takeOpen (l : Launch) (D : va_G) (cy : Nat → ClassId) (B : Nat → Nat → Nat) (ids : List (Nat × Nat)) (hst : zSt B ids) (N : Nat) (x0 : Nat) (hx0 : (3, x0) ∈ ids) (x1 : Nat) (hx1 : (7, x1) ∈ ids) {z : St} {r : Int32} {z' : St} (hW : zWf ids z) (h : fX3_takeOpen N x0 x1 z = some (r, z')) : zM l yX3_takeOpen (zws yX3_takeOpen cX3_takeOpen 3 none) rmX3_takeOpen D cy B ids [.ref (B 3 x0), .ref (B 7 x1)] none True z z' :=
  zM_of hst hW (by decide +kernel) (Nat.le_of_ble_eq_true rfl) (fun p e s m args below meth c A ls F hA hret hlocks hr hl => bX3_takeOpen_0 hst F hA (zEnd_v F hret hlocks) x0 x1 hx0 hx1 hr hl h)
abbrev rmX3_takeListening : Room := { frames := 3, cells := 0, slots := 0, locals := 82 }
theorem hdX3_takeListening : yX3_takeListening.cls ≠ "java/lang/invoke/MethodHandle" ∧ yX3_takeListening.cls ≠ "java/lang/invoke/VarHandle" ∧ (parseMethodDescriptor yX3_takeListening.desc).map (fun d => d.parameters.length) = some 1 := by decide +kernel
theorem hroX3_takeListening_X3_resets : rmX3_resets.frames + 1 ≤ rmX3_takeListening.frames ∧ 8 + (2 + 11) + rmX3_resets.locals ≤ rmX3_takeListening.locals := by decide
theorem hroX3_takeListening_X3_takeOpen : rmX3_takeOpen.frames + 1 ≤ rmX3_takeListening.frames ∧ 8 + (3 + 11) + rmX3_takeOpen.locals ≤ rmX3_takeListening.locals := by decide
theorem hroX3_takeListening_X7_has : rmX7_has.frames + 1 ≤ rmX3_takeListening.frames ∧ 8 + (2 + 11) + rmX7_has.locals ≤ rmX3_takeListening.locals := by decide
section SX3_takeListening
variable {p : Program} {l : Launch} {e : Env} {s : State} {m : MethodId} {args : Array Value} {below : List Frame} {meth : Method} {c : Code} {Q : State → Prop} {D : va_G} {cy : Nat → ClassId} {B : Nat → Nat → Nat} {ids : List (Nat × Nat)} {A : Nat → Prop}
def fX3_takeListening (N : Nat)  (x0 : Nat) (x1 : Nat) (z : St) : Option (Int32 × St) := zc (fX7_has N x1 (4 : Int32) z) fun r1 z2 => if r1 = 0 then (zc (fX7_has N x1 (8 : Int32) z2) fun r6 z7 => if r6 = 0 then (zc (fX7_has N x1 (1 : Int32) z7) fun r11 z12 => if ¬ r11 = 0 then (zc (fX3_takeOpen N x0 x1 z12) fun _ z17 => zl (zsI z17 3 0 x0 (3 : Int32)) fun z20 => zl (zgR z20 3 16 x0) fun y21 => zl (zgR z20 3 16 x0) fun y22 => zd y22 fun a23 => zd y21 fun a24 => zl (zsI z20 6 6 a24 ((zgI z20 6 4 a23) + (1 : Int32))) fun z25 => zl (zsI z25 3 9 x0 (1 : Int32)) fun z26 => some (0, z26)) else (some (0, z12))) else (zc (fX3_resets N x0 x1 z7) fun _ z28 => some (0, z28))) else (some (0, z2))
set_option maxHeartbeats 4000000 in
set_option maxRecDepth 100000 in
theorem bX3_takeListening_0 (hst : zSt B ids) (F : zFx p m c cX3_takeListening 2 s args RX3 D cy B ids A) (hA : ∀ q : Nat, s.heap.size ≤ q → A q) {r : Int32} {z' : St} (E : zEnd p l e rmX3_takeListening s m args below meth c cX3_takeListening D cy B ids A Q none z' .return_ True) {N : Nat}  (x0 : Nat) (x1 : Nat) (hx0 : (3, x0) ∈ ids) (hx1 : (7, x1) ∈ ids) {z : St} {H : Heap} {locs : List Loc} {ls : Array Slot} (hr : zRep D cy B ids A s.heap z H locs) (hl : lv_has ls 2 [(0, .ref (B 3 x0)), (1, .ref (B 7 x1))]) (h : fX3_takeListening N x0 x1 z = some (r, z')) : W p l e rmX3_takeListening s m args below meth c H locs 0 0 Q (F0 m 0 ls []) := by
  unfold fX3_takeListening at h
  refine lv_aload_n F.1 F.2.1 dX3_takeListening_0 rfl (lv_at hl 1 rfl) ?_
  refine lv_iconst (v := (4 : Int32)) F.1 F.2.1 dX3_takeListening_1 (by decide) ?_
  replace h := zc_some h
  obtain ⟨r1, z2, hc3, h⟩ := h
  refine zr_calli (zrun_VN (As := [.int (4 : Int32)]) (rest := []) zn_1317 zq_1276 zs_X7_has zq_1277 zq_2 hdX7_has (by decide) (T := TX7) (N := 20) rfl (okX7_has l D cy B ids hst N x1 hx1 (4 : Int32)  hr.2.2 hc3) F hr hx1 hl.1 rfl (by decide) dX3_takeListening_2 rfl rfl hroX3_takeListening_X7_has ⟨Nat.zero_le _, Nat.zero_le _⟩) F hA hr (fun H locs hw4 hr => ?_)
  clear hc3
  refine lv_if_eq (tgt := 9) F.1 F.2.1 dX3_takeListening_5 (by decide) (fun c5 => ?_) (fun c5 => ?_)
  · replace h := zi_t c5 h
    refine lv_aload_n F.1 F.2.1 dX3_takeListening_9 rfl (lv_at hl 1 rfl) ?_
    refine lv_bipush (v := (8 : Int32)) F.1 F.2.1 dX3_takeListening_10 (by decide) ?_
    replace h := zc_some h
    obtain ⟨r6, z7, hc8, h⟩ := h
    refine zr_calli (zrun_VN (As := [.int (8 : Int32)]) (rest := []) zn_1317 zq_1276 zs_X7_has zq_1277 zq_2 hdX7_has (by decide) (T := TX7) (N := 20) rfl (okX7_has l D cy B ids hst N x1 hx1 (8 : Int32)  hr.2.2 hc8) F hr hx1 hl.1 rfl (by decide) dX3_takeListening_12 rfl rfl hroX3_takeListening_X7_has ⟨Nat.zero_le _, Nat.zero_le _⟩) F hA hr (fun H locs hw9 hr => ?_)
    clear hc8
    refine lv_if_eq (tgt := 24) F.1 F.2.1 dX3_takeListening_15 (by decide) (fun c10 => ?_) (fun c10 => ?_)
    · replace h := zi_t c10 h
      refine lv_aload_n F.1 F.2.1 dX3_takeListening_24 rfl (lv_at hl 1 rfl) ?_
      refine lv_iconst (v := (1 : Int32)) F.1 F.2.1 dX3_takeListening_25 (by decide) ?_
      replace h := zc_some h
      obtain ⟨r11, z12, hc13, h⟩ := h
      refine zr_calli (zrun_VN (As := [.int (1 : Int32)]) (rest := []) zn_1317 zq_1276 zs_X7_has zq_1277 zq_2 hdX7_has (by decide) (T := TX7) (N := 20) rfl (okX7_has l D cy B ids hst N x1 hx1 (1 : Int32)  hr.2.2 hc13) F hr hx1 hl.1 rfl (by decide) dX3_takeListening_26 rfl rfl hroX3_takeListening_X7_has ⟨Nat.zero_le _, Nat.zero_le _⟩) F hA hr (fun H locs hw14 hr => ?_)
      clear hc13
      refine lv_if_ne (tgt := 33) F.1 F.2.1 dX3_takeListening_29 (by decide) (fun c15 => ?_) (fun c15 => ?_)
      · replace h := zi_t c15 h
        refine lv_aload_n F.1 F.2.1 dX3_takeListening_33 rfl (lv_at hl 0 rfl) ?_
        refine lv_aload_n F.1 F.2.1 dX3_takeListening_34 rfl (lv_at hl 1 rfl) ?_
        replace h := zc_some h
        obtain ⟨r16, z17, hc18, h⟩ := h
        refine zr_callv (zrun_V (As := [.ref (B 7 x1)]) (rest := []) zq_1325 zq_1327 zs_X3_takeOpen zq_1328 zq_13 hdX3_takeOpen (by decide) (T := TX3) (N := 19) rfl (okX3_takeOpen l D cy B ids hst N x0 hx0 x1 hx1 hr.2.2 hc18) F hr hx0 hl.1 rfl (by decide) dX3_takeListening_35 rfl rfl hroX3_takeListening_X3_takeOpen ⟨Nat.zero_le _, Nat.zero_le _⟩) F hA hr (fun H locs hw19 hr => ?_)
        clear hc18
        refine lv_aload_n F.1 F.2.1 dX3_takeListening_38 rfl (lv_at hl 0 rfl) ?_
        refine lv_iconst (v := (3 : Int32)) F.1 F.2.1 dX3_takeListening_39 (by decide) ?_
        refine pf3_32 F hx0 hr dX3_takeListening_40 (3 : Int32) (fun H locs z20 ez20 hr => ?_)
        replace h := zl_sub ez20 h
        clear ez20
        refine lv_aload_n F.1 F.2.1 dX3_takeListening_43 rfl (lv_at hl 0 rfl) ?_
        refine gf3_12 F hx0 hr dX3_takeListening_44 (fun y21 ey21 => ?_)
        replace h := zl_sub ey21 h
        have hy21 := zal_g hr hx0 (j := 16) rfl ey21
        clear ey21
        refine lv_aload_n F.1 F.2.1 dX3_takeListening_47 rfl (lv_at hl 0 rfl) ?_
        refine gf3_12 F hx0 hr dX3_takeListening_48 (fun y22 ey22 => ?_)
        replace h := zl_sub ey22 h
        have hy22 := zal_g hr hx0 (j := 16) rfl ey22
        clear ey22
        replace h := zd_some h
        obtain ⟨a23, rfl, h⟩ := h
        refine gf3_83 F (hy22 _ rfl) hr dX3_takeListening_51 ?_
        refine lv_iconst (v := (1 : Int32)) F.1 F.2.1 dX3_takeListening_54 (by decide) ?_
        refine lv_iadd F.1 F.2.1 dX3_takeListening_55 ?_
        replace h := zd_some h
        obtain ⟨a24, rfl, h⟩ := h
        refine pf3_86 F (hy21 _ rfl) hr dX3_takeListening_56 ((zgI z20 6 4 a23) + (1 : Int32)) (fun H locs z25 ez25 hr => ?_)
        replace h := zl_sub ez25 h
        clear ez25
        refine lv_aload_n F.1 F.2.1 dX3_takeListening_59 rfl (lv_at hl 0 rfl) ?_
        refine lv_iconst (v := (1 : Int32)) F.1 F.2.1 dX3_takeListening_60 (by decide) ?_
        refine pf3_59 F hx0 hr dX3_takeListening_61 (1 : Int32) (by decide) (fun H locs z26 ez26 hr => ?_)
        replace h := zl_sub ez26 h
        clear ez26
        obtain ⟨rfl, rfl⟩ := zret h
        exact E _ _ _ _ dX3_takeListening_64 trivial hr
      · replace h := zi_f (fun q => q c15) h
        obtain ⟨rfl, rfl⟩ := zret h
        exact E _ _ _ _ dX3_takeListening_32 trivial hr
    · replace h := zi_f c10 h
      refine lv_aload_n F.1 F.2.1 dX3_takeListening_18 rfl (lv_at hl 0 rfl) ?_
      refine lv_aload_n F.1 F.2.1 dX3_takeListening_19 rfl (lv_at hl 1 rfl) ?_
      replace h := zc_some h
      obtain ⟨r27, z28, hc29, h⟩ := h
      refine zr_callv (zrun_V (As := [.ref (B 7 x1)]) (rest := []) zq_1318 zq_1320 zs_X3_resets zq_1321 zq_13 hdX3_resets (by decide) (T := TX3) (N := 19) rfl (okX3_resets l D cy B ids hst N x0 hx0 x1 hx1 hr.2.2 hc29) F hr hx0 hl.1 rfl (by decide) dX3_takeListening_20 rfl rfl hroX3_takeListening_X3_resets ⟨Nat.zero_le _, Nat.zero_le _⟩) F hA hr (fun H locs hw30 hr => ?_)
      clear hc29
      obtain ⟨rfl, rfl⟩ := zret h
      exact E _ _ _ _ dX3_takeListening_23 trivial hr
  · replace h := zi_f c5 h
    obtain ⟨rfl, rfl⟩ := zret h
    exact E _ _ _ _ dX3_takeListening_8 trivial hr
end SX3_takeListening
set_option maxRecDepth 100000 in
theorem okX3_takeListening (l : Launch) (D : va_G) (cy : Nat → ClassId) (B : Nat → Nat → Nat) (ids : List (Nat × Nat)) (hst : zSt B ids) (N : Nat) (x0 : Nat) (hx0 : (3, x0) ∈ ids) (x1 : Nat) (hx1 : (7, x1) ∈ ids) {z : St} {r : Int32} {z' : St} (hW : zWf ids z) (h : fX3_takeListening N x0 x1 z = some (r, z')) : zM l yX3_takeListening (zws yX3_takeListening cX3_takeListening 2 none) rmX3_takeListening D cy B ids [.ref (B 3 x0), .ref (B 7 x1)] none True z z' :=
  zM_of hst hW (by decide +kernel) (Nat.le_of_ble_eq_true rfl) (fun p e s m args below meth c A ls F hA hret hlocks hr hl => bX3_takeListening_0 hst F hA (zEnd_v F hret hlocks) x0 x1 hx0 hx1 hr hl h)
abbrev rmX11_isBefore : Room := { frames := 0, cells := 0, slots := 0, locals := 0 }
theorem hdX11_isBefore : yX11_isBefore.cls ≠ "java/lang/invoke/MethodHandle" ∧ yX11_isBefore.cls ≠ "java/lang/invoke/VarHandle" ∧ (parseMethodDescriptor yX11_isBefore.desc).map (fun d => d.parameters.length) = some 2 := by decide +kernel
section SX11_isBefore
variable {p : Program} {l : Launch} {e : Env} {s : State} {m : MethodId} {args : Array Value} {below : List Frame} {meth : Method} {c : Code} {Q : State → Prop} {D : va_G} {cy : Nat → ClassId} {B : Nat → Nat → Nat} {ids : List (Nat × Nat)} {A : Nat → Prop}
def fX11_isBefore (N : Nat)  (x0 : Int32) (x1 : Int32) (z : St) : Option (Int32 × St) := if (x1 - x0) ≤ 0 then (some ((0 : Int32), z)) else (some ((1 : Int32), z))
set_option maxHeartbeats 4000000 in
set_option maxRecDepth 100000 in
theorem bX11_isBefore_0 (hst : zSt B ids) (F : zFx p m c cX11_isBefore 2 s args RX11 D cy B ids A) (hA : ∀ q : Nat, s.heap.size ≤ q → A q) {r : Int32} {z' : St} (E : zEnd p l e rmX11_isBefore s m args below meth c cX11_isBefore D cy B ids A Q (some (.int r)) z' .ireturn (r = 0 ∨ r = 1)) {N : Nat}  (x0 : Int32) (x1 : Int32)  {z : St} {H : Heap} {locs : List Loc} {ls : Array Slot} (hr : zRep D cy B ids A s.heap z H locs) (hl : lv_has ls 2 [(0, .int x0), (1, .int x1)]) (h : fX11_isBefore N x0 x1 z = some (r, z')) : W p l e rmX11_isBefore s m args below meth c H locs 0 0 Q (F0 m 0 ls []) := by
  unfold fX11_isBefore at h
  refine lv_iload_n F.1 F.2.1 dX11_isBefore_0 rfl (lv_at hl 1 rfl) ?_
  refine lv_iload_n F.1 F.2.1 dX11_isBefore_1 rfl (lv_at hl 0 rfl) ?_
  refine lv_isub F.1 F.2.1 dX11_isBefore_2 ?_
  refine lv_if_le (tgt := 10) F.1 F.2.1 dX11_isBefore_3 (by decide) (fun c1 => ?_) (fun c1 => ?_)
  · replace h := zi_t c1 h
    refine lv_iconst (v := (0 : Int32)) F.1 F.2.1 dX11_isBefore_10 (by decide) ?_
    obtain ⟨rfl, rfl⟩ := zret h
    exact E _ _ _ _ dX11_isBefore_11 (by decide) hr
  · replace h := zi_f c1 h
    refine lv_iconst (v := (1 : Int32)) F.1 F.2.1 dX11_isBefore_6 (by decide) ?_
    refine lv_goto (tgt := 11) F.1 F.2.1 dX11_isBefore_7 (by decide) ?_
    obtain ⟨rfl, rfl⟩ := zret h
    exact E _ _ _ _ dX11_isBefore_11 (by decide) hr
end SX11_isBefore
set_option maxRecDepth 100000 in
theorem okX11_isBefore (l : Launch) (D : va_G) (cy : Nat → ClassId) (B : Nat → Nat → Nat) (ids : List (Nat × Nat)) (hst : zSt B ids) (N : Nat) (x0 : Int32) (x1 : Int32) {z : St} {r : Int32} {z' : St} (hW : zWf ids z) (h : fX11_isBefore N x0 x1 z = some (r, z')) : zM l yX11_isBefore (zws yX11_isBefore cX11_isBefore 2 (some .boolean)) rmX11_isBefore D cy B ids [.int x0, .int x1] (some (.int r)) (r = 0 ∨ r = 1) z z' :=
  zM_of hst hW (by decide +kernel) (Nat.le_of_ble_eq_true rfl) (fun p e s m args below meth c A ls F hA hret hlocks hr hl => bX11_isBefore_0 hst F hA (zEnd_z F hret hlocks) x0 x1 hr hl h)
abbrev rmX10_thanked : Room := { frames := 1, cells := 0, slots := 0, locals := 60 }
theorem hdX10_thanked : yX10_thanked.cls ≠ "java/lang/invoke/MethodHandle" ∧ yX10_thanked.cls ≠ "java/lang/invoke/VarHandle" ∧ (parseMethodDescriptor yX10_thanked.desc).map (fun d => d.parameters.length) = some 2 := by decide +kernel
theorem hroX10_thanked_X11_isBefore : rmX11_isBefore.frames + 1 ≤ rmX10_thanked.frames ∧ 8 + (2 + 11) + rmX11_isBefore.locals ≤ rmX10_thanked.locals := by decide
section SX10_thanked
variable {p : Program} {l : Launch} {e : Env} {s : State} {m : MethodId} {args : Array Value} {below : List Frame} {meth : Method} {c : Code} {Q : State → Prop} {D : va_G} {cy : Nat → ClassId} {B : Nat → Nat → Nat} {ids : List (Nat × Nat)} {A : Nat → Prop}
def fX10_thanked_109 (N : Nat)  (x0 : Nat) (z : St) : Option (Int32 × St) := zl (zsI z 10 2 x0 (if (20 : Int32) < (if (((zgI z 10 3 x0) / (8 : Int32)) + (if (zgI z 10 4 x0) < (1 : Int32) then (1 : Int32) else (zgI z 10 4 x0))) < (1200 : Int32) then (((zgI z 10 3 x0) / (8 : Int32)) + (if (zgI z 10 4 x0) < (1 : Int32) then (1 : Int32) else (zgI z 10 4 x0))) else (1200 : Int32)) then (if (((zgI z 10 3 x0) / (8 : Int32)) + (if (zgI z 10 4 x0) < (1 : Int32) then (1 : Int32) else (zgI z 10 4 x0))) < (1200 : Int32) then (((zgI z 10 3 x0) / (8 : Int32)) + (if (zgI z 10 4 x0) < (1 : Int32) then (1 : Int32) else (zgI z 10 4 x0))) else (1200 : Int32)) else (20 : Int32))) fun z1 => some (0, z1)
set_option maxHeartbeats 4000000 in
set_option maxRecDepth 100000 in
theorem bX10_thanked_109 (hst : zSt B ids) (F : zFx p m c cX10_thanked 5 s args RX10 D cy B ids A) (hA : ∀ q : Nat, s.heap.size ≤ q → A q) {r : Int32} {z' : St} (E : zEnd p l e rmX10_thanked s m args below meth c cX10_thanked D cy B ids A Q none z' .return_ True) {N : Nat}  (x0 : Nat) (hx0 : (10, x0) ∈ ids) {z : St} {H : Heap} {locs : List Loc} {ls : Array Slot} (hr : zRep D cy B ids A s.heap z H locs) (hl : lv_has ls 5 [(0, .ref (B 10 x0))]) (h : fX10_thanked_109 N x0 z = some (r, z')) : W p l e rmX10_thanked s m args below meth c H locs 0 0 Q (F0 m 109 ls []) := by
  unfold fX10_thanked_109 at h
  refine lv_aload_n F.1 F.2.1 dX10_thanked_109 rfl (lv_at hl 0 rfl) ?_
  refine lv_bipush (v := (20 : Int32)) F.1 F.2.1 dX10_thanked_110 (by decide) ?_
  refine lv_sipush (v := (1200 : Int32)) F.1 F.2.1 dX10_thanked_112 (by decide) ?_
  refine lv_aload_n F.1 F.2.1 dX10_thanked_115 rfl (lv_at hl 0 rfl) ?_
  refine gf10_19 F hx0 hr dX10_thanked_116 ?_
  refine lv_bipush (v := (8 : Int32)) F.1 F.2.1 dX10_thanked_119 (by decide) ?_
  refine lv_idiv F.1 F.2.1 dX10_thanked_121 (by decide) ?_
  refine lv_aload_n F.1 F.2.1 dX10_thanked_122 rfl (lv_at hl 0 rfl) ?_
  refine gf10_22 F hx0 hr dX10_thanked_123 ?_
  refine lv_iconst (v := (1 : Int32)) F.1 F.2.1 dX10_thanked_126 (by decide) ?_
  refine va_mmax F.1 F.2.1 (F.2.2.1.trans hl.1.symm) F.2.2.2.1 (F.2.2.2.2.1 _ zq_1359) (F.2.2.2.2.1 _ zq_275) (F.2.2.2.2.1 _ zq_27) (F.2.2.2.2.1 _ zq_276) (Nat.le_of_ble_eq_true rfl) (Nat.le_of_ble_eq_true rfl) (Nat.zero_le _) (Nat.zero_le _) dX10_thanked_127 ?_
  refine lv_iadd F.1 F.2.1 dX10_thanked_130 ?_
  refine va_mmin F.1 F.2.1 (F.2.2.1.trans hl.1.symm) F.2.2.2.1 (F.2.2.2.2.1 _ zq_1360) (F.2.2.2.2.1 _ zq_304) (F.2.2.2.2.1 _ zq_27) (F.2.2.2.2.1 _ zq_305) (Nat.le_of_ble_eq_true rfl) (Nat.le_of_ble_eq_true rfl) (Nat.zero_le _) (Nat.zero_le _) dX10_thanked_131 ?_
  refine va_mmax F.1 F.2.1 (F.2.2.1.trans hl.1.symm) F.2.2.2.1 (F.2.2.2.2.1 _ zq_1359) (F.2.2.2.2.1 _ zq_275) (F.2.2.2.2.1 _ zq_27) (F.2.2.2.2.1 _ zq_276) (Nat.le_of_ble_eq_true rfl) (Nat.le_of_ble_eq_true rfl) (Nat.zero_le _) (Nat.zero_le _) dX10_thanked_134 ?_
  refine pf10_16 F hx0 hr dX10_thanked_137 (if (20 : Int32) < (if (((zgI z 10 3 x0) / (8 : Int32)) + (if (zgI z 10 4 x0) < (1 : Int32) then (1 : Int32) else (zgI z 10 4 x0))) < (1200 : Int32) then (((zgI z 10 3 x0) / (8 : Int32)) + (if (zgI z 10 4 x0) < (1 : Int32) then (1 : Int32) else (zgI z 10 4 x0))) else (1200 : Int32)) then (if (((zgI z 10 3 x0) / (8 : Int32)) + (if (zgI z 10 4 x0) < (1 : Int32) then (1 : Int32) else (zgI z 10 4 x0))) < (1200 : Int32) then (((zgI z 10 3 x0) / (8 : Int32)) + (if (zgI z 10 4 x0) < (1 : Int32) then (1 : Int32) else (zgI z 10 4 x0))) else (1200 : Int32)) else (20 : Int32)) (fun H locs z1 ez1 hr => ?_)
  replace h := zl_sub ez1 h
  clear ez1
  obtain ⟨rfl, rfl⟩ := zret h
  exact E _ _ _ _ dX10_thanked_140 trivial hr
def fX10_thanked (N : Nat)  (x0 : Nat) (x1 : Int32) (x2 : Int32) (z : St) : Option (Int32 × St) := zl (zsI z 10 1 x0 (0 : Int32)) fun z1 => if (zgI z1 10 6 x0) = 0 then (some (0, z1)) else (zc (fX11_isBefore N x1 (zgI z1 10 7 x0) z1) fun r3 z4 => if r3 = 0 then (zl (zsI z4 10 6 x0 (0 : Int32)) fun z8 => zl (x2 - (zgI z8 10 8 x0)) fun v9 => if (zgI z8 10 5 x0) = 0 then (zl (zsI z8 10 5 x0 (1 : Int32)) fun z11 => zl (zsI z11 10 3 x0 ((8 : Int32) * v9)) fun z12 => zl (zsI z12 10 4 x0 ((2 : Int32) * v9)) fun z13 => fX10_thanked_109 N x0 z13) else (zl (v9 - ((zgI z8 10 3 x0) / (8 : Int32))) fun v14 => zl (zsI z8 10 3 x0 ((zgI z8 10 3 x0) + v14)) fun z15 => zl (zsI z15 10 4 x0 ((zgI z15 10 4 x0) + ((if 0 ≤ v14 then v14 else 0 - v14) - ((zgI z15 10 4 x0) / (4 : Int32))))) fun z16 => fX10_thanked_109 N x0 z16)) else (some (0, z4)))
set_option maxHeartbeats 4000000 in
set_option maxRecDepth 100000 in
theorem bX10_thanked_0 (hst : zSt B ids) (F : zFx p m c cX10_thanked 5 s args RX10 D cy B ids A) (hA : ∀ q : Nat, s.heap.size ≤ q → A q) {r : Int32} {z' : St} (E : zEnd p l e rmX10_thanked s m args below meth c cX10_thanked D cy B ids A Q none z' .return_ True) {N : Nat}  (x0 : Nat) (x1 : Int32) (x2 : Int32) (hx0 : (10, x0) ∈ ids) {z : St} {H : Heap} {locs : List Loc} {ls : Array Slot} (hr : zRep D cy B ids A s.heap z H locs) (hl : lv_has ls 5 [(0, .ref (B 10 x0)), (1, .int x1), (2, .int x2)]) (h : fX10_thanked N x0 x1 x2 z = some (r, z')) : W p l e rmX10_thanked s m args below meth c H locs 0 0 Q (F0 m 0 ls []) := by
  unfold fX10_thanked at h
  refine lv_aload_n F.1 F.2.1 dX10_thanked_0 rfl (lv_at hl 0 rfl) ?_
  refine lv_iconst (v := (0 : Int32)) F.1 F.2.1 dX10_thanked_1 (by decide) ?_
  refine pf10_13 F hx0 hr dX10_thanked_2 (0 : Int32) (fun H locs z1 ez1 hr => ?_)
  replace h := zl_sub ez1 h
  clear ez1
  refine lv_aload_n F.1 F.2.1 dX10_thanked_5 rfl (lv_at hl 0 rfl) ?_
  refine gf10_29 F hx0 hr dX10_thanked_6 ?_
  refine lv_if_eq (tgt := 23) F.1 F.2.1 dX10_thanked_9 (by decide) (fun c2 => ?_) (fun c2 => ?_)
  · replace h := zi_t c2 h
    obtain ⟨rfl, rfl⟩ := zret h
    exact E _ _ _ _ dX10_thanked_23 trivial hr
  · replace h := zi_f c2 h
    refine lv_iload_n F.1 F.2.1 dX10_thanked_12 rfl (lv_at hl 1 rfl) ?_
    refine lv_aload_n F.1 F.2.1 dX10_thanked_13 rfl (lv_at hl 0 rfl) ?_
    refine gf10_32 F hx0 hr dX10_thanked_14 ?_
    replace h := zc_some h
    obtain ⟨r3, z4, hc5, h⟩ := h
    refine zr_calli (zrun_SN (As := [.int x1, .int (zgI z1 10 7 x0)]) (rest := []) zn_1353 zq_1354 zq_1355 zq_1 hdX11_isBefore (okX11_isBefore l D cy B ids hst N x1  (zgI z1 10 7 x0)  hr.2.2 hc5) F hr hl.1 rfl (by decide) dX10_thanked_17 rfl rfl hroX10_thanked_X11_isBefore ⟨Nat.zero_le _, Nat.zero_le _⟩) F hA hr (fun H locs hw6 hr => ?_)
    clear hc5
    refine lv_if_eq (tgt := 24) F.1 F.2.1 dX10_thanked_20 (by decide) (fun c7 => ?_) (fun c7 => ?_)
    · replace h := zi_t c7 h
      refine lv_aload_n F.1 F.2.1 dX10_thanked_24 rfl (lv_at hl 0 rfl) ?_
      refine lv_iconst (v := (0 : Int32)) F.1 F.2.1 dX10_thanked_25 (by decide) ?_
      refine pf10_29 F hx0 hr dX10_thanked_26 (0 : Int32) (by decide) (fun H locs z8 ez8 hr => ?_)
      replace h := zl_sub ez8 h
      clear ez8
      refine lv_iload_n F.1 F.2.1 dX10_thanked_29 rfl (lv_at hl 2 rfl) ?_
      refine lv_aload_n F.1 F.2.1 dX10_thanked_30 rfl (lv_at hl 0 rfl) ?_
      refine gf10_35 F hx0 hr dX10_thanked_31 ?_
      refine lv_isub F.1 F.2.1 dX10_thanked_34 ?_
      refine lv_topi (fun v9 ev9 => ?_)
      replace h := zl_sub ev9 h
      refine lv_istore_n (lv' := [(3, .int v9), (0, .ref (B 10 x0)), (1, .int x1), (2, .int x2)]) F.1 F.2.1 dX10_thanked_35 rfl hl (by decide) rfl (fun ls hl => ?_)
      refine lv_aload_n F.1 F.2.1 dX10_thanked_36 rfl (lv_at hl 1 rfl) ?_
      refine gf10_25 F hx0 hr dX10_thanked_37 ?_
      refine lv_if_eq (tgt := 89) F.1 F.2.1 dX10_thanked_40 (by decide) (fun c10 => ?_) (fun c10 => ?_)
      · replace h := zi_t c10 h
        refine lv_aload_n F.1 F.2.1 dX10_thanked_89 rfl (lv_at hl 1 rfl) ?_
        refine lv_iconst (v := (1 : Int32)) F.1 F.2.1 dX10_thanked_90 (by decide) ?_
        refine pf10_25 F hx0 hr dX10_thanked_91 (1 : Int32) (by decide) (fun H locs z11 ez11 hr => ?_)
        replace h := zl_sub ez11 h
        clear ez11
        refine lv_aload_n F.1 F.2.1 dX10_thanked_94 rfl (lv_at hl 1 rfl) ?_
        refine lv_bipush (v := (8 : Int32)) F.1 F.2.1 dX10_thanked_95 (by decide) ?_
        refine lv_iload_n F.1 F.2.1 dX10_thanked_97 rfl (lv_at hl 0 rfl) ?_
        refine lv_imul F.1 F.2.1 dX10_thanked_98 ?_
        refine pf10_19 F hx0 hr dX10_thanked_99 ((8 : Int32) * v9) (fun H locs z12 ez12 hr => ?_)
        replace h := zl_sub ez12 h
        clear ez12
        refine lv_aload_n F.1 F.2.1 dX10_thanked_102 rfl (lv_at hl 1 rfl) ?_
        refine lv_iconst (v := (2 : Int32)) F.1 F.2.1 dX10_thanked_103 (by decide) ?_
        refine lv_iload_n F.1 F.2.1 dX10_thanked_104 rfl (lv_at hl 0 rfl) ?_
        refine lv_imul F.1 F.2.1 dX10_thanked_105 ?_
        refine pf10_22 F hx0 hr dX10_thanked_106 ((2 : Int32) * v9) (fun H locs z13 ez13 hr => ?_)
        replace h := zl_sub ez13 h
        clear ez13
        exact bX10_thanked_109 hst F hA E  x0 hx0 hr (lv_sub hl [1] rfl) h
      · replace h := zi_f c10 h
        refine lv_iload_n F.1 F.2.1 dX10_thanked_43 rfl (lv_at hl 0 rfl) ?_
        refine lv_aload_n F.1 F.2.1 dX10_thanked_44 rfl (lv_at hl 1 rfl) ?_
        refine gf10_19 F hx0 hr dX10_thanked_45 ?_
        refine lv_bipush (v := (8 : Int32)) F.1 F.2.1 dX10_thanked_48 (by decide) ?_
        refine lv_idiv F.1 F.2.1 dX10_thanked_50 (by decide) ?_
        refine lv_isub F.1 F.2.1 dX10_thanked_51 ?_
        refine lv_topi (fun v14 ev14 => ?_)
        replace h := zl_sub ev14 h
        refine lv_istore (lv' := [(4, .int v14), (3, .int v9), (0, .ref (B 10 x0)), (1, .int x1), (2, .int x2)]) F.1 F.2.1 dX10_thanked_52 hl (by decide) rfl (fun ls hl => ?_)
        refine lv_aload_n F.1 F.2.1 dX10_thanked_54 rfl (lv_at hl 2 rfl) ?_
        refine lv_dup F.1 F.2.1 dX10_thanked_55 rfl ?_
        refine gf10_19 F hx0 hr dX10_thanked_56 ?_
        refine lv_iload F.1 F.2.1 dX10_thanked_59 (lv_at hl 0 rfl) ?_
        refine lv_iadd F.1 F.2.1 dX10_thanked_61 ?_
        refine pf10_19 F hx0 hr dX10_thanked_62 ((zgI z8 10 3 x0) + v14) (fun H locs z15 ez15 hr => ?_)
        replace h := zl_sub ez15 h
        clear ez15
        refine lv_aload_n F.1 F.2.1 dX10_thanked_65 rfl (lv_at hl 2 rfl) ?_
        refine lv_dup F.1 F.2.1 dX10_thanked_66 rfl ?_
        refine gf10_22 F hx0 hr dX10_thanked_67 ?_
        refine lv_iload F.1 F.2.1 dX10_thanked_70 (lv_at hl 0 rfl) ?_
        refine va_mabs F.1 F.2.1 (F.2.2.1.trans hl.1.symm) F.2.2.2.1 (F.2.2.2.2.1 _ zq_1356) (F.2.2.2.2.1 _ zq_1357) (F.2.2.2.2.1 _ zq_27) (F.2.2.2.2.1 _ zq_1358) (Nat.le_of_ble_eq_true rfl) (Nat.le_of_ble_eq_true rfl) (Nat.zero_le _) (Nat.zero_le _) dX10_thanked_72 ?_
        refine lv_aload_n F.1 F.2.1 dX10_thanked_75 rfl (lv_at hl 2 rfl) ?_
        refine gf10_22 F hx0 hr dX10_thanked_76 ?_
        refine lv_iconst (v := (4 : Int32)) F.1 F.2.1 dX10_thanked_79 (by decide) ?_
        refine lv_idiv F.1 F.2.1 dX10_thanked_80 (by decide) ?_
        refine lv_isub F.1 F.2.1 dX10_thanked_81 ?_
        refine lv_iadd F.1 F.2.1 dX10_thanked_82 ?_
        refine pf10_22 F hx0 hr dX10_thanked_83 ((zgI z15 10 4 x0) + ((if 0 ≤ v14 then v14 else 0 - v14) - ((zgI z15 10 4 x0) / (4 : Int32)))) (fun H locs z16 ez16 hr => ?_)
        replace h := zl_sub ez16 h
        clear ez16
        refine lv_goto (tgt := 109) F.1 F.2.1 dX10_thanked_86 (by decide) ?_
        exact bX10_thanked_109 hst F hA E  x0 hx0 hr (lv_sub hl [2] rfl) h
    · replace h := zi_f c7 h
      obtain ⟨rfl, rfl⟩ := zret h
      exact E _ _ _ _ dX10_thanked_23 trivial hr
end SX10_thanked
set_option maxRecDepth 100000 in
theorem okX10_thanked (l : Launch) (D : va_G) (cy : Nat → ClassId) (B : Nat → Nat → Nat) (ids : List (Nat × Nat)) (hst : zSt B ids) (N : Nat) (x0 : Nat) (hx0 : (10, x0) ∈ ids) (x1 : Int32) (x2 : Int32) {z : St} {r : Int32} {z' : St} (hW : zWf ids z) (h : fX10_thanked N x0 x1 x2 z = some (r, z')) : zM l yX10_thanked (zws yX10_thanked cX10_thanked 5 none) rmX10_thanked D cy B ids [.ref (B 10 x0), .int x1, .int x2] none True z z' :=
  zM_of hst hW (by decide +kernel) (Nat.le_of_ble_eq_true rfl) (fun p e s m args below meth c A ls F hA hret hlocks hr hl => bX10_thanked_0 hst F hA (zEnd_v F hret hlocks) x0 x1 x2 hx0 hr hl h)
abbrev rmX6_thankTo : Room := { frames := 1, cells := 0, slots := 0, locals := 60 }
theorem hdX6_thankTo : yX6_thankTo.cls ≠ "java/lang/invoke/MethodHandle" ∧ yX6_thankTo.cls ≠ "java/lang/invoke/VarHandle" ∧ (parseMethodDescriptor yX6_thankTo.desc).map (fun d => d.parameters.length) = some 1 := by decide +kernel
section SX6_thankTo
variable {p : Program} {l : Launch} {e : Env} {s : State} {m : MethodId} {args : Array Value} {below : List Frame} {meth : Method} {c : Code} {Q : State → Prop} {D : va_G} {cy : Nat → ClassId} {B : Nat → Nat → Nat} {ids : List (Nat × Nat)} {A : Nat → Prop}
def fX6_thankTo_27 (N : Nat)  (x0 : Nat) (x2 : Int32) (z : St) : Option (Int32 × St) := zl (if (0 : Int32) < (if (zgI z 6 3 x0) < x2 then (zgI z 6 3 x0) else x2) then (if (zgI z 6 3 x0) < x2 then (zgI z 6 3 x0) else x2) else (0 : Int32)) fun v1 => zl (zsI z 6 1 x0 (((zgI z 6 1 x0) + v1) &&& (2047 : Int32))) fun z2 => zl (zsI z2 6 2 x0 ((zgI z2 6 2 x0) - v1)) fun z3 => zl (zsI z3 6 3 x0 ((zgI z3 6 3 x0) - v1)) fun z4 => if x2 ≤ v1 then (some (0, z4)) else (if (zgI z4 6 9 x0) = 0 then (some (0, z4)) else (zl (zsI z4 6 10 x0 (1 : Int32)) fun z7 => some (0, z7)))
set_option maxHeartbeats 4000000 in
set_option maxRecDepth 100000 in
theorem bX6_thankTo_27 (hst : zSt B ids) (F : zFx p m c cX6_thankTo 4 s args RX6 D cy B ids A) (hA : ∀ q : Nat, s.heap.size ≤ q → A q) {r : Int32} {z' : St} (E : zEnd p l e rmX6_thankTo s m args below meth c cX6_thankTo D cy B ids A Q none z' .return_ True) {N : Nat}  (x0 : Nat) (x2 : Int32) (hx0 : (6, x0) ∈ ids) {z : St} {H : Heap} {locs : List Loc} {ls : Array Slot} (hr : zRep D cy B ids A s.heap z H locs) (hl : lv_has ls 4 [(0, .ref (B 6 x0)), (2, .int x2)]) (h : fX6_thankTo_27 N x0 x2 z = some (r, z')) : W p l e rmX6_thankTo s m args below meth c H locs 0 0 Q (F0 m 27 ls []) := by
  unfold fX6_thankTo_27 at h
  refine lv_iconst (v := (0 : Int32)) F.1 F.2.1 dX6_thankTo_27 (by decide) ?_
  refine lv_iload_n F.1 F.2.1 dX6_thankTo_28 rfl (lv_at hl 1 rfl) ?_
  refine lv_aload_n F.1 F.2.1 dX6_thankTo_29 rfl (lv_at hl 0 rfl) ?_
  refine gf6_22 F hx0 hr dX6_thankTo_30 ?_
  refine va_mmin F.1 F.2.1 (F.2.2.1.trans hl.1.symm) F.2.2.2.1 (F.2.2.2.2.1 _ zq_1347) (F.2.2.2.2.1 _ zq_304) (F.2.2.2.2.1 _ zq_27) (F.2.2.2.2.1 _ zq_305) (Nat.le_of_ble_eq_true rfl) (Nat.le_of_ble_eq_true rfl) (Nat.zero_le _) (Nat.zero_le _) dX6_thankTo_33 ?_
  refine va_mmax F.1 F.2.1 (F.2.2.1.trans hl.1.symm) F.2.2.2.1 (F.2.2.2.2.1 _ zq_1348) (F.2.2.2.2.1 _ zq_275) (F.2.2.2.2.1 _ zq_27) (F.2.2.2.2.1 _ zq_276) (Nat.le_of_ble_eq_true rfl) (Nat.le_of_ble_eq_true rfl) (Nat.zero_le _) (Nat.zero_le _) dX6_thankTo_36 ?_
  refine lv_topi (fun v1 ev1 => ?_)
  replace h := zl_sub ev1 h
  refine lv_istore_n (lv' := [(3, .int v1), (0, .ref (B 6 x0)), (2, .int x2)]) F.1 F.2.1 dX6_thankTo_39 rfl hl (by decide) rfl (fun ls hl => ?_)
  refine lv_aload_n F.1 F.2.1 dX6_thankTo_40 rfl (lv_at hl 1 rfl) ?_
  refine lv_aload_n F.1 F.2.1 dX6_thankTo_41 rfl (lv_at hl 1 rfl) ?_
  refine gf6_15 F hx0 hr dX6_thankTo_42 ?_
  refine lv_iload_n F.1 F.2.1 dX6_thankTo_45 rfl (lv_at hl 0 rfl) ?_
  refine lv_iadd F.1 F.2.1 dX6_thankTo_46 ?_
  refine lv_sipush (v := (2047 : Int32)) F.1 F.2.1 dX6_thankTo_47 (by decide) ?_
  refine lv_iand F.1 F.2.1 dX6_thankTo_50 ?_
  refine pf6_15 F hx0 hr dX6_thankTo_51 (((zgI z 6 1 x0) + v1) &&& (2047 : Int32)) (fun H locs z2 ez2 hr => ?_)
  replace h := zl_sub ez2 h
  clear ez2
  refine lv_aload_n F.1 F.2.1 dX6_thankTo_54 rfl (lv_at hl 1 rfl) ?_
  refine lv_dup F.1 F.2.1 dX6_thankTo_55 rfl ?_
  refine gf6_19 F hx0 hr dX6_thankTo_56 ?_
  refine lv_iload_n F.1 F.2.1 dX6_thankTo_59 rfl (lv_at hl 0 rfl) ?_
  refine lv_isub F.1 F.2.1 dX6_thankTo_60 ?_
  refine pf6_19 F hx0 hr dX6_thankTo_61 ((zgI z2 6 2 x0) - v1) (fun H locs z3 ez3 hr => ?_)
  replace h := zl_sub ez3 h
  clear ez3
  refine lv_aload_n F.1 F.2.1 dX6_thankTo_64 rfl (lv_at hl 1 rfl) ?_
  refine lv_dup F.1 F.2.1 dX6_thankTo_65 rfl ?_
  refine gf6_22 F hx0 hr dX6_thankTo_66 ?_
  refine lv_iload_n F.1 F.2.1 dX6_thankTo_69 rfl (lv_at hl 0 rfl) ?_
  refine lv_isub F.1 F.2.1 dX6_thankTo_70 ?_
  refine pf6_22 F hx0 hr dX6_thankTo_71 ((zgI z3 6 3 x0) - v1) (fun H locs z4 ez4 hr => ?_)
  replace h := zl_sub ez4 h
  clear ez4
  refine lv_iload_n F.1 F.2.1 dX6_thankTo_74 rfl (lv_at hl 2 rfl) ?_
  refine lv_iload_n F.1 F.2.1 dX6_thankTo_75 rfl (lv_at hl 0 rfl) ?_
  refine lv_icmp_le (tgt := 91) F.1 F.2.1 dX6_thankTo_76 (by decide) (fun c5 => ?_) (fun c5 => ?_)
  · replace h := zi_t c5 h
    obtain ⟨rfl, rfl⟩ := zret h
    exact E _ _ _ _ dX6_thankTo_91 trivial hr
  · replace h := zi_f c5 h
    refine lv_aload_n F.1 F.2.1 dX6_thankTo_79 rfl (lv_at hl 1 rfl) ?_
    refine gf6_41 F hx0 hr dX6_thankTo_80 ?_
    refine lv_if_eq (tgt := 91) F.1 F.2.1 dX6_thankTo_83 (by decide) (fun c6 => ?_) (fun c6 => ?_)
    · replace h := zi_t c6 h
      obtain ⟨rfl, rfl⟩ := zret h
      exact E _ _ _ _ dX6_thankTo_91 trivial hr
    · replace h := zi_f c6 h
      refine lv_aload_n F.1 F.2.1 dX6_thankTo_86 rfl (lv_at hl 1 rfl) ?_
      refine lv_iconst (v := (1 : Int32)) F.1 F.2.1 dX6_thankTo_87 (by decide) ?_
      refine pf6_44 F hx0 hr dX6_thankTo_88 (1 : Int32) (by decide) (fun H locs z7 ez7 hr => ?_)
      replace h := zl_sub ez7 h
      clear ez7
      obtain ⟨rfl, rfl⟩ := zret h
      exact E _ _ _ _ dX6_thankTo_91 trivial hr
def fX6_thankTo (N : Nat)  (x0 : Nat) (x1 : Int32) (z : St) : Option (Int32 × St) := zl (x1 - (zgI z 6 5 x0)) fun v1 => zl (zsI z 6 5 x0 x1) fun z2 => if ¬ (zgI z2 6 7 x0) = 0 then (fX6_thankTo_27 N x0 v1 z2) else (zl (zsI z2 6 7 x0 (1 : Int32)) fun z4 => zl (v1 + (-1)) fun v5 => fX6_thankTo_27 N x0 v5 z4)
set_option maxHeartbeats 4000000 in
set_option maxRecDepth 100000 in
theorem bX6_thankTo_0 (hst : zSt B ids) (F : zFx p m c cX6_thankTo 4 s args RX6 D cy B ids A) (hA : ∀ q : Nat, s.heap.size ≤ q → A q) {r : Int32} {z' : St} (E : zEnd p l e rmX6_thankTo s m args below meth c cX6_thankTo D cy B ids A Q none z' .return_ True) {N : Nat}  (x0 : Nat) (x1 : Int32) (hx0 : (6, x0) ∈ ids) {z : St} {H : Heap} {locs : List Loc} {ls : Array Slot} (hr : zRep D cy B ids A s.heap z H locs) (hl : lv_has ls 4 [(0, .ref (B 6 x0)), (1, .int x1)]) (h : fX6_thankTo N x0 x1 z = some (r, z')) : W p l e rmX6_thankTo s m args below meth c H locs 0 0 Q (F0 m 0 ls []) := by
  unfold fX6_thankTo at h
  refine lv_iload_n F.1 F.2.1 dX6_thankTo_0 rfl (lv_at hl 1 rfl) ?_
  refine lv_aload_n F.1 F.2.1 dX6_thankTo_1 rfl (lv_at hl 0 rfl) ?_
  refine gf6_28 F hx0 hr dX6_thankTo_2 ?_
  refine lv_isub F.1 F.2.1 dX6_thankTo_5 ?_
  refine lv_topi (fun v1 ev1 => ?_)
  replace h := zl_sub ev1 h
  refine lv_istore_n (lv' := [(2, .int v1), (0, .ref (B 6 x0)), (1, .int x1)]) F.1 F.2.1 dX6_thankTo_6 rfl hl (by decide) rfl (fun ls hl => ?_)
  refine lv_aload_n F.1 F.2.1 dX6_thankTo_7 rfl (lv_at hl 1 rfl) ?_
  refine lv_iload_n F.1 F.2.1 dX6_thankTo_8 rfl (lv_at hl 2 rfl) ?_
  refine pf6_28 F hx0 hr dX6_thankTo_9 x1 (fun H locs z2 ez2 hr => ?_)
  replace h := zl_sub ez2 h
  clear ez2
  refine lv_aload_n F.1 F.2.1 dX6_thankTo_12 rfl (lv_at hl 1 rfl) ?_
  refine gf6_34 F hx0 hr dX6_thankTo_13 ?_
  refine lv_if_ne (tgt := 27) F.1 F.2.1 dX6_thankTo_16 (by decide) (fun c3 => ?_) (fun c3 => ?_)
  · replace h := zi_t c3 h
    exact bX6_thankTo_27 hst F hA E  x0 v1 hx0 hr (lv_sub hl [1, 0] rfl) h
  · replace h := zi_f (fun q => q c3) h
    refine lv_aload_n F.1 F.2.1 dX6_thankTo_19 rfl (lv_at hl 1 rfl) ?_
    refine lv_iconst (v := (1 : Int32)) F.1 F.2.1 dX6_thankTo_20 (by decide) ?_
    refine pf6_34 F hx0 hr dX6_thankTo_21 (1 : Int32) (by decide) (fun H locs z4 ez4 hr => ?_)
    replace h := zl_sub ez4 h
    clear ez4
    obtain ⟨v5, ev5⟩ : ∃ y : Int32, y = (v1 + (-1)) := ⟨_, rfl⟩
    replace h := zl_sub ev5 h
    refine lv_iinc (v := v5) (lv' := [(2, .int v5), (0, .ref (B 6 x0)), (1, .int x1)]) F.1 F.2.1 dX6_thankTo_24 hl (k := 0) rfl (by rw [ev5]; rfl) (by decide) rfl (fun ls hl => ?_)
    exact bX6_thankTo_27 hst F hA E  x0 v5 hx0 hr (lv_sub hl [1, 0] rfl) h
end SX6_thankTo
set_option maxRecDepth 100000 in
theorem okX6_thankTo (l : Launch) (D : va_G) (cy : Nat → ClassId) (B : Nat → Nat → Nat) (ids : List (Nat × Nat)) (hst : zSt B ids) (N : Nat) (x0 : Nat) (hx0 : (6, x0) ∈ ids) (x1 : Int32) {z : St} {r : Int32} {z' : St} (hW : zWf ids z) (h : fX6_thankTo N x0 x1 z = some (r, z')) : zM l yX6_thankTo (zws yX6_thankTo cX6_thankTo 4 none) rmX6_thankTo D cy B ids [.ref (B 6 x0), .int x1] none True z z' :=
  zM_of hst hW (by decide +kernel) (Nat.le_of_ble_eq_true rfl) (fun p e s m args below meth c A ls F hA hret hlocks hr hl => bX6_thankTo_0 hst F hA (zEnd_v F hret hlocks) x0 x1 hx0 hr hl h)
abbrev rmX3_thankedTo : Room := { frames := 2, cells := 0, slots := 0, locals := 84 }
theorem hdX3_thankedTo : yX3_thankedTo.cls ≠ "java/lang/invoke/MethodHandle" ∧ yX3_thankedTo.cls ≠ "java/lang/invoke/VarHandle" ∧ (parseMethodDescriptor yX3_thankedTo.desc).map (fun d => d.parameters.length) = some 2 := by decide +kernel
theorem hroX3_thankedTo_X10_thanked : rmX10_thanked.frames + 1 ≤ rmX3_thankedTo.frames ∧ 8 + (5 + 11) + rmX10_thanked.locals ≤ rmX3_thankedTo.locals := by decide
theorem hroX3_thankedTo_X6_hasUnthanked : rmX6_hasUnthanked.frames + 1 ≤ rmX3_thankedTo.frames ∧ 8 + (1 + 11) + rmX6_hasUnthanked.locals ≤ rmX3_thankedTo.locals := by decide
theorem hroX3_thankedTo_X6_thankTo : rmX6_thankTo.frames + 1 ≤ rmX3_thankedTo.frames ∧ 8 + (4 + 11) + rmX6_thankTo.locals ≤ rmX3_thankedTo.locals := by decide
section SX3_thankedTo
variable {p : Program} {l : Launch} {e : Env} {s : State} {m : MethodId} {args : Array Value} {below : List Frame} {meth : Method} {c : Code} {Q : State → Prop} {D : va_G} {cy : Nat → ClassId} {B : Nat → Nat → Nat} {ids : List (Nat × Nat)} {A : Nat → Prop}
def fX3_thankedTo_44 (N : Nat)  (x0 : Nat) (s0 : Option Nat) (s1 : Int32) (z : St) : Option (Int32 × St) := zd s0 fun a1 => zl (zsI z 10 0 a1 s1) fun z2 => zl (zsI z2 3 11 x0 (0 : Int32)) fun z3 => some (0, z3)
set_option maxHeartbeats 4000000 in
set_option maxRecDepth 100000 in
theorem bX3_thankedTo_44 (hst : zSt B ids) (F : zFx p m c cX3_thankedTo 3 s args RX3 D cy B ids A) (hA : ∀ q : Nat, s.heap.size ≤ q → A q) {r : Int32} {z' : St} (E : zEnd p l e rmX3_thankedTo s m args below meth c cX3_thankedTo D cy B ids A Q none z' .return_ True) {N : Nat}  (x0 : Nat) (s0 : Option Nat) (s1 : Int32) (hx0 : (3, x0) ∈ ids) (hs0 : ∀ t, s0 = some t → (10, t) ∈ ids) {z : St} {H : Heap} {locs : List Loc} {ls : Array Slot} (hr : zRep D cy B ids A s.heap z H locs) (hl : lv_has ls 3 [(0, .ref (B 3 x0))]) (h : fX3_thankedTo_44 N x0 s0 s1 z = some (r, z')) : W p l e rmX3_thankedTo s m args below meth c H locs 0 0 Q (F0 m 44 ls [.int s1, va_rf (Option.map (B 10) s0)]) := by
  unfold fX3_thankedTo_44 at h
  replace h := zd_some h
  obtain ⟨a1, rfl, h⟩ := h
  refine pf3_89 F (hs0 _ rfl) hr dX3_thankedTo_44 s1 (fun H locs z2 ez2 hr => ?_)
  replace h := zl_sub ez2 h
  clear ez2
  refine lv_aload_n F.1 F.2.1 dX3_thankedTo_47 rfl (lv_at hl 0 rfl) ?_
  refine lv_iconst (v := (0 : Int32)) F.1 F.2.1 dX3_thankedTo_48 (by decide) ?_
  refine pf3_65 F hx0 hr dX3_thankedTo_49 (0 : Int32) (by decide) (fun H locs z3 ez3 hr => ?_)
  replace h := zl_sub ez3 h
  clear ez3
  obtain ⟨rfl, rfl⟩ := zret h
  exact E _ _ _ _ dX3_thankedTo_52 trivial hr
def fX3_thankedTo (N : Nat)  (x0 : Nat) (x1 : Int32) (x2 : Int32) (z : St) : Option (Int32 × St) := zl (zgR z 3 16 x0) fun y1 => zd y1 fun a2 => zc (fX6_thankTo N a2 x1 z) fun _ z4 => zl (zgR z4 3 18 x0) fun y7 => zd y7 fun a8 => zc (fX10_thanked N a8 x1 x2 z4) fun _ z10 => zl (zgR z10 3 18 x0) fun y13 => zl (zgR z10 3 16 x0) fun y14 => zd y14 fun a15 => zc (fX6_hasUnthanked N a15 z10) fun r16 z17 => if r16 = 0 then (fX3_thankedTo_44 N x0 y13 (0 : Int32) z17) else (zl (zgR z17 3 18 x0) fun y21 => zd y21 fun a22 => fX3_thankedTo_44 N x0 y13 (x2 + (zgI z17 10 2 a22)) z17)
set_option maxHeartbeats 4000000 in
set_option maxRecDepth 100000 in
theorem bX3_thankedTo_0 (hst : zSt B ids) (F : zFx p m c cX3_thankedTo 3 s args RX3 D cy B ids A) (hA : ∀ q : Nat, s.heap.size ≤ q → A q) {r : Int32} {z' : St} (E : zEnd p l e rmX3_thankedTo s m args below meth c cX3_thankedTo D cy B ids A Q none z' .return_ True) {N : Nat}  (x0 : Nat) (x1 : Int32) (x2 : Int32) (hx0 : (3, x0) ∈ ids) {z : St} {H : Heap} {locs : List Loc} {ls : Array Slot} (hr : zRep D cy B ids A s.heap z H locs) (hl : lv_has ls 3 [(0, .ref (B 3 x0)), (1, .int x1), (2, .int x2)]) (h : fX3_thankedTo N x0 x1 x2 z = some (r, z')) : W p l e rmX3_thankedTo s m args below meth c H locs 0 0 Q (F0 m 0 ls []) := by
  unfold fX3_thankedTo at h
  refine lv_aload_n F.1 F.2.1 dX3_thankedTo_0 rfl (lv_at hl 0 rfl) ?_
  refine gf3_12 F hx0 hr dX3_thankedTo_1 (fun y1 ey1 => ?_)
  replace h := zl_sub ey1 h
  have hy1 := zal_g hr hx0 (j := 16) rfl ey1
  clear ey1
  refine lv_iload_n F.1 F.2.1 dX3_thankedTo_4 rfl (lv_at hl 1 rfl) ?_
  replace h := zd_some h
  obtain ⟨a2, rfl, h⟩ := h
  replace h := zc_some h
  obtain ⟨r3, z4, hc5, h⟩ := h
  refine zr_callv (zrun_VN (As := [.int x1]) (rest := []) zn_1343 zq_1345 zs_X6_thankTo zq_1346 zq_14 hdX6_thankTo (by decide) (T := TX6) (N := 14) rfl (okX6_thankTo l D cy B ids hst N a2 (hy1 _ rfl) x1  hr.2.2 hc5) F hr (hy1 _ rfl) hl.1 rfl (by decide) dX3_thankedTo_5 rfl rfl hroX3_thankedTo_X6_thankTo ⟨Nat.zero_le _, Nat.zero_le _⟩) F hA hr (fun H locs hw6 hr => ?_)
  clear hc5
  refine lv_aload_n F.1 F.2.1 dX3_thankedTo_8 rfl (lv_at hl 0 rfl) ?_
  refine gf3_28 F hx0 hr dX3_thankedTo_9 (fun y7 ey7 => ?_)
  replace h := zl_sub ey7 h
  have hy7 := zal_g hr hx0 (j := 18) rfl ey7
  clear ey7
  refine lv_iload_n F.1 F.2.1 dX3_thankedTo_12 rfl (lv_at hl 1 rfl) ?_
  refine lv_iload_n F.1 F.2.1 dX3_thankedTo_13 rfl (lv_at hl 2 rfl) ?_
  replace h := zd_some h
  obtain ⟨a8, rfl, h⟩ := h
  replace h := zc_some h
  obtain ⟨r9, z10, hc11, h⟩ := h
  refine zr_callv (zrun_VN (As := [.int x1, .int x2]) (rest := []) zn_1349 zq_1351 zs_X10_thanked zq_1352 zq_16 hdX10_thanked (by decide) (T := TX10) (N := 9) rfl (okX10_thanked l D cy B ids hst N a8 (hy7 _ rfl) x1  x2  hr.2.2 hc11) F hr (hy7 _ rfl) hl.1 rfl (by decide) dX3_thankedTo_14 rfl rfl hroX3_thankedTo_X10_thanked ⟨Nat.zero_le _, Nat.zero_le _⟩) F hA hr (fun H locs hw12 hr => ?_)
  clear hc11
  refine lv_aload_n F.1 F.2.1 dX3_thankedTo_17 rfl (lv_at hl 0 rfl) ?_
  refine gf3_28 F hx0 hr dX3_thankedTo_18 (fun y13 ey13 => ?_)
  replace h := zl_sub ey13 h
  have hy13 := zal_g hr hx0 (j := 18) rfl ey13
  clear ey13
  refine lv_aload_n F.1 F.2.1 dX3_thankedTo_21 rfl (lv_at hl 0 rfl) ?_
  refine gf3_12 F hx0 hr dX3_thankedTo_22 (fun y14 ey14 => ?_)
  replace h := zl_sub ey14 h
  have hy14 := zal_g hr hx0 (j := 16) rfl ey14
  clear ey14
  replace h := zd_some h
  obtain ⟨a15, rfl, h⟩ := h
  replace h := zc_some h
  obtain ⟨r16, z17, hc18, h⟩ := h
  refine zr_calli (zrun_VN (As := []) (rest := [va_rf (Option.map (B 10) y13)]) zn_1361 zq_1363 zs_X6_hasUnthanked zq_1364 zq_14 hdX6_hasUnthanked (by decide) (T := TX6) (N := 14) rfl (okX6_hasUnthanked l D cy B ids hst N a15 (hy14 _ rfl) hr.2.2 hc18) F hr (hy14 _ rfl) hl.1 rfl (by simp only [List.map, zrf_cat]; exact Nat.le_of_ble_eq_true rfl) dX3_thankedTo_25 rfl rfl hroX3_thankedTo_X6_hasUnthanked ⟨Nat.zero_le _, Nat.zero_le _⟩) F hA hr (fun H locs hw19 hr => ?_)
  clear hc18
  refine lv_if_eq (tgt := 43) F.1 F.2.1 dX3_thankedTo_28 (by decide) (fun c20 => ?_) (fun c20 => ?_)
  · replace h := zi_t c20 h
    refine lv_iconst (v := (0 : Int32)) F.1 F.2.1 dX3_thankedTo_43 (by decide) ?_
    exact bX3_thankedTo_44 hst F hA E  x0 y13 (0 : Int32) hx0 hy13 hr (lv_sub hl [0] rfl) h
  · replace h := zi_f c20 h
    refine lv_iload_n F.1 F.2.1 dX3_thankedTo_31 rfl (lv_at hl 2 rfl) ?_
    refine lv_aload_n F.1 F.2.1 dX3_thankedTo_32 rfl (lv_at hl 0 rfl) ?_
    refine gf3_28 F hx0 hr dX3_thankedTo_33 (fun y21 ey21 => ?_)
    replace h := zl_sub ey21 h
    have hy21 := zal_g hr hx0 (j := 18) rfl ey21
    clear ey21
    replace h := zd_some h
    obtain ⟨a22, rfl, h⟩ := h
    refine gf3_133 F (hy21 _ rfl) hr dX3_thankedTo_36 ?_
    refine lv_iadd F.1 F.2.1 dX3_thankedTo_39 ?_
    refine lv_goto (tgt := 44) F.1 F.2.1 dX3_thankedTo_40 (by decide) ?_
    exact bX3_thankedTo_44 hst F hA E  x0 y13 (x2 + (zgI z17 10 2 a22)) hx0 hy13 hr (lv_sub hl [0] rfl) h
end SX3_thankedTo
set_option maxRecDepth 100000 in
theorem okX3_thankedTo (l : Launch) (D : va_G) (cy : Nat → ClassId) (B : Nat → Nat → Nat) (ids : List (Nat × Nat)) (hst : zSt B ids) (N : Nat) (x0 : Nat) (hx0 : (3, x0) ∈ ids) (x1 : Int32) (x2 : Int32) {z : St} {r : Int32} {z' : St} (hW : zWf ids z) (h : fX3_thankedTo N x0 x1 x2 z = some (r, z')) : zM l yX3_thankedTo (zws yX3_thankedTo cX3_thankedTo 3 none) rmX3_thankedTo D cy B ids [.ref (B 3 x0), .int x1, .int x2] none True z z' :=
  zM_of hst hW (by decide +kernel) (Nat.le_of_ble_eq_true rfl) (fun p e s m args below meth c A ls F hA hret hlocks hr hl => bX3_thankedTo_0 hst F hA (zEnd_v F hret hlocks) x0 x1 x2 hx0 hr hl h)
abbrev rmX3_takeAsking : Room := { frames := 3, cells := 0, slots := 0, locals := 106 }
theorem hdX3_takeAsking : yX3_takeAsking.cls ≠ "java/lang/invoke/MethodHandle" ∧ yX3_takeAsking.cls ≠ "java/lang/invoke/VarHandle" ∧ (parseMethodDescriptor yX3_takeAsking.desc).map (fun d => d.parameters.length) = some 2 := by decide +kernel
theorem hroX3_takeAsking_X3_finish : rmX3_finish.frames + 1 ≤ rmX3_takeAsking.frames ∧ 8 + (2 + 11) + rmX3_finish.locals ≤ rmX3_takeAsking.locals := by decide
theorem hroX3_takeAsking_X3_resets : rmX3_resets.frames + 1 ≤ rmX3_takeAsking.frames ∧ 8 + (2 + 11) + rmX3_resets.locals ≤ rmX3_takeAsking.locals := by decide
theorem hroX3_takeAsking_X3_takeOpen : rmX3_takeOpen.frames + 1 ≤ rmX3_takeAsking.frames ∧ 8 + (3 + 11) + rmX3_takeOpen.locals ≤ rmX3_takeAsking.locals := by decide
theorem hroX3_takeAsking_X3_thankedTo : rmX3_thankedTo.frames + 1 ≤ rmX3_takeAsking.frames ∧ 8 + (3 + 11) + rmX3_thankedTo.locals ≤ rmX3_takeAsking.locals := by decide
theorem hroX3_takeAsking_X7_has : rmX7_has.frames + 1 ≤ rmX3_takeAsking.frames ∧ 8 + (2 + 11) + rmX7_has.locals ≤ rmX3_takeAsking.locals := by decide
section SX3_takeAsking
variable {p : Program} {l : Launch} {e : Env} {s : State} {m : MethodId} {args : Array Value} {below : List Frame} {meth : Method} {c : Code} {Q : State → Prop} {D : va_G} {cy : Nat → ClassId} {B : Nat → Nat → Nat} {ids : List (Nat × Nat)} {A : Nat → Prop}
def fX3_takeAsking_31 (N : Nat)  (x0 : Nat) (x1 : Nat) (x2 : Int32) (x3 : Int32) (z : St) : Option (Int32 × St) := zc (fX7_has N x1 (4 : Int32) z) fun r1 z2 => if r1 = 0 then (zc (fX7_has N x1 (1 : Int32) z2) fun r6 z7 => if ¬ r6 = 0 then (zc (fX3_takeOpen N x0 x1 z7) fun _ z12 => if x3 = 0 then (zl (zsI z12 3 0 x0 (3 : Int32)) fun z16 => zl (zsI z16 3 9 x0 (1 : Int32)) fun z17 => some (0, z17)) else (zl (zsI z12 3 0 x0 (4 : Int32)) fun z18 => zl (zsI z18 3 9 x0 (0 : Int32)) fun z19 => zc (fX3_thankedTo N x0 (zgI z19 7 17 x1) x2 z19) fun _ z21 => zl (zsI z21 3 13 x0 (1 : Int32)) fun z24 => some (0, z24))) else (some (0, z7))) else (if x3 = 0 then (some (0, z2)) else (zc (fX3_finish N x0 (11 : Int32) z2) fun _ z27 => some (0, z27)))
set_option maxHeartbeats 4000000 in
set_option maxRecDepth 100000 in
theorem bX3_takeAsking_31 (hst : zSt B ids) (F : zFx p m c cX3_takeAsking 4 s args RX3 D cy B ids A) (hA : ∀ q : Nat, s.heap.size ≤ q → A q) {r : Int32} {z' : St} (E : zEnd p l e rmX3_takeAsking s m args below meth c cX3_takeAsking D cy B ids A Q none z' .return_ True) {N : Nat}  (x0 : Nat) (x1 : Nat) (x2 : Int32) (x3 : Int32) (hx0 : (3, x0) ∈ ids) (hx1 : (7, x1) ∈ ids) {z : St} {H : Heap} {locs : List Loc} {ls : Array Slot} (hr : zRep D cy B ids A s.heap z H locs) (hl : lv_has ls 4 [(0, .ref (B 3 x0)), (1, .ref (B 7 x1)), (2, .int x2), (3, .int x3)]) (h : fX3_takeAsking_31 N x0 x1 x2 x3 z = some (r, z')) : W p l e rmX3_takeAsking s m args below meth c H locs 0 0 Q (F0 m 31 ls []) := by
  unfold fX3_takeAsking_31 at h
  refine lv_aload_n F.1 F.2.1 dX3_takeAsking_31 rfl (lv_at hl 1 rfl) ?_
  refine lv_iconst (v := (4 : Int32)) F.1 F.2.1 dX3_takeAsking_32 (by decide) ?_
  replace h := zc_some h
  obtain ⟨r1, z2, hc3, h⟩ := h
  refine zr_calli (zrun_VN (As := [.int (4 : Int32)]) (rest := []) zn_1317 zq_1276 zs_X7_has zq_1277 zq_2 hdX7_has (by decide) (T := TX7) (N := 20) rfl (okX7_has l D cy B ids hst N x1 hx1 (4 : Int32)  hr.2.2 hc3) F hr hx1 hl.1 rfl (by decide) dX3_takeAsking_33 rfl rfl hroX3_takeAsking_X7_has ⟨Nat.zero_le _, Nat.zero_le _⟩) F hA hr (fun H locs hw4 hr => ?_)
  clear hc3
  refine lv_if_eq (tgt := 50) F.1 F.2.1 dX3_takeAsking_36 (by decide) (fun c5 => ?_) (fun c5 => ?_)
  · replace h := zi_t c5 h
    refine lv_aload_n F.1 F.2.1 dX3_takeAsking_50 rfl (lv_at hl 1 rfl) ?_
    refine lv_iconst (v := (1 : Int32)) F.1 F.2.1 dX3_takeAsking_51 (by decide) ?_
    replace h := zc_some h
    obtain ⟨r6, z7, hc8, h⟩ := h
    refine zr_calli (zrun_VN (As := [.int (1 : Int32)]) (rest := []) zn_1317 zq_1276 zs_X7_has zq_1277 zq_2 hdX7_has (by decide) (T := TX7) (N := 20) rfl (okX7_has l D cy B ids hst N x1 hx1 (1 : Int32)  hr.2.2 hc8) F hr hx1 hl.1 rfl (by decide) dX3_takeAsking_52 rfl rfl hroX3_takeAsking_X7_has ⟨Nat.zero_le _, Nat.zero_le _⟩) F hA hr (fun H locs hw9 hr => ?_)
    clear hc8
    refine lv_if_ne (tgt := 59) F.1 F.2.1 dX3_takeAsking_55 (by decide) (fun c10 => ?_) (fun c10 => ?_)
    · replace h := zi_t c10 h
      refine lv_aload_n F.1 F.2.1 dX3_takeAsking_59 rfl (lv_at hl 0 rfl) ?_
      refine lv_aload_n F.1 F.2.1 dX3_takeAsking_60 rfl (lv_at hl 1 rfl) ?_
      replace h := zc_some h
      obtain ⟨r11, z12, hc13, h⟩ := h
      refine zr_callv (zrun_V (As := [.ref (B 7 x1)]) (rest := []) zq_1325 zq_1327 zs_X3_takeOpen zq_1328 zq_13 hdX3_takeOpen (by decide) (T := TX3) (N := 19) rfl (okX3_takeOpen l D cy B ids hst N x0 hx0 x1 hx1 hr.2.2 hc13) F hr hx0 hl.1 rfl (by decide) dX3_takeAsking_61 rfl rfl hroX3_takeAsking_X3_takeOpen ⟨Nat.zero_le _, Nat.zero_le _⟩) F hA hr (fun H locs hw14 hr => ?_)
      clear hc13
      refine lv_iload_n F.1 F.2.1 dX3_takeAsking_64 rfl (lv_at hl 3 rfl) ?_
      refine lv_if_eq (tgt := 95) F.1 F.2.1 dX3_takeAsking_65 (by decide) (fun c15 => ?_) (fun c15 => ?_)
      · replace h := zi_t c15 h
        refine lv_aload_n F.1 F.2.1 dX3_takeAsking_95 rfl (lv_at hl 0 rfl) ?_
        refine lv_iconst (v := (3 : Int32)) F.1 F.2.1 dX3_takeAsking_96 (by decide) ?_
        refine pf3_32 F hx0 hr dX3_takeAsking_97 (3 : Int32) (fun H locs z16 ez16 hr => ?_)
        replace h := zl_sub ez16 h
        clear ez16
        refine lv_aload_n F.1 F.2.1 dX3_takeAsking_100 rfl (lv_at hl 0 rfl) ?_
        refine lv_iconst (v := (1 : Int32)) F.1 F.2.1 dX3_takeAsking_101 (by decide) ?_
        refine pf3_59 F hx0 hr dX3_takeAsking_102 (1 : Int32) (by decide) (fun H locs z17 ez17 hr => ?_)
        replace h := zl_sub ez17 h
        clear ez17
        obtain ⟨rfl, rfl⟩ := zret h
        exact E _ _ _ _ dX3_takeAsking_105 trivial hr
      · replace h := zi_f c15 h
        refine lv_aload_n F.1 F.2.1 dX3_takeAsking_68 rfl (lv_at hl 0 rfl) ?_
        refine lv_iconst (v := (4 : Int32)) F.1 F.2.1 dX3_takeAsking_69 (by decide) ?_
        refine pf3_32 F hx0 hr dX3_takeAsking_70 (4 : Int32) (fun H locs z18 ez18 hr => ?_)
        replace h := zl_sub ez18 h
        clear ez18
        refine lv_aload_n F.1 F.2.1 dX3_takeAsking_73 rfl (lv_at hl 0 rfl) ?_
        refine lv_iconst (v := (0 : Int32)) F.1 F.2.1 dX3_takeAsking_74 (by decide) ?_
        refine pf3_59 F hx0 hr dX3_takeAsking_75 (0 : Int32) (by decide) (fun H locs z19 ez19 hr => ?_)
        replace h := zl_sub ez19 h
        clear ez19
        refine lv_aload_n F.1 F.2.1 dX3_takeAsking_78 rfl (lv_at hl 0 rfl) ?_
        refine lv_aload_n F.1 F.2.1 dX3_takeAsking_79 rfl (lv_at hl 1 rfl) ?_
        refine gf3_161 F hx1 hr dX3_takeAsking_80 ?_
        refine lv_iload_n F.1 F.2.1 dX3_takeAsking_83 rfl (lv_at hl 2 rfl) ?_
        replace h := zc_some h
        obtain ⟨r20, z21, hc22, h⟩ := h
        refine zr_callv (zrun_V (As := [.int (zgI z19 7 17 x1), .int x2]) (rest := []) zq_1339 zq_1341 zs_X3_thankedTo zq_1342 zq_13 hdX3_thankedTo (by decide) (T := TX3) (N := 19) rfl (okX3_thankedTo l D cy B ids hst N x0 hx0 (zgI z19 7 17 x1)  x2  hr.2.2 hc22) F hr hx0 hl.1 rfl (by decide) dX3_takeAsking_84 rfl rfl hroX3_takeAsking_X3_thankedTo ⟨Nat.zero_le _, Nat.zero_le _⟩) F hA hr (fun H locs hw23 hr => ?_)
        clear hc22
        refine lv_aload_n F.1 F.2.1 dX3_takeAsking_87 rfl (lv_at hl 0 rfl) ?_
        refine lv_iconst (v := (1 : Int32)) F.1 F.2.1 dX3_takeAsking_88 (by decide) ?_
        refine pf3_71 F hx0 hr dX3_takeAsking_89 (1 : Int32) (by decide) (fun H locs z24 ez24 hr => ?_)
        replace h := zl_sub ez24 h
        clear ez24
        refine lv_goto (tgt := 105) F.1 F.2.1 dX3_takeAsking_92 (by decide) ?_
        obtain ⟨rfl, rfl⟩ := zret h
        exact E _ _ _ _ dX3_takeAsking_105 trivial hr
    · replace h := zi_f (fun q => q c10) h
      obtain ⟨rfl, rfl⟩ := zret h
      exact E _ _ _ _ dX3_takeAsking_58 trivial hr
  · replace h := zi_f c5 h
    refine lv_iload_n F.1 F.2.1 dX3_takeAsking_39 rfl (lv_at hl 3 rfl) ?_
    refine lv_if_eq (tgt := 49) F.1 F.2.1 dX3_takeAsking_40 (by decide) (fun c25 => ?_) (fun c25 => ?_)
    · replace h := zi_t c25 h
      obtain ⟨rfl, rfl⟩ := zret h
      exact E _ _ _ _ dX3_takeAsking_49 trivial hr
    · replace h := zi_f c25 h
      refine lv_aload_n F.1 F.2.1 dX3_takeAsking_43 rfl (lv_at hl 0 rfl) ?_
      refine lv_bipush (v := (11 : Int32)) F.1 F.2.1 dX3_takeAsking_44 (by decide) ?_
      replace h := zc_some h
      obtain ⟨r26, z27, hc28, h⟩ := h
      refine zr_callv (zrun_V (As := [.int (11 : Int32)]) (rest := []) zq_1338 zq_1151 zs_X3_finish zq_1152 zq_13 hdX3_finish (by decide) (T := TX3) (N := 19) rfl (okX3_finish l D cy B ids hst N x0 hx0 (11 : Int32)  hr.2.2 hc28) F hr hx0 hl.1 rfl (by decide) dX3_takeAsking_46 rfl rfl hroX3_takeAsking_X3_finish ⟨Nat.zero_le _, Nat.zero_le _⟩) F hA hr (fun H locs hw29 hr => ?_)
      clear hc28
      obtain ⟨rfl, rfl⟩ := zret h
      exact E _ _ _ _ dX3_takeAsking_49 trivial hr
def fX3_takeAsking (N : Nat)  (x0 : Nat) (x1 : Nat) (x2 : Int32) (z : St) : Option (Int32 × St) := zc (fX7_has N x1 (8 : Int32) z) fun r1 z2 => if r1 = 0 then (fX3_takeAsking_31 N x0 x1 x2 r1 z2) else (zl (zgR z2 3 16 x0) fun y6 => zd y6 fun a7 => if (zgI z2 7 17 x1) = (zgI z2 6 6 a7) then (fX3_takeAsking_31 N x0 x1 x2 r1 z2) else (zc (fX3_resets N x0 x1 z2) fun _ z10 => some (0, z10)))
set_option maxHeartbeats 4000000 in
set_option maxRecDepth 100000 in
theorem bX3_takeAsking_0 (hst : zSt B ids) (F : zFx p m c cX3_takeAsking 4 s args RX3 D cy B ids A) (hA : ∀ q : Nat, s.heap.size ≤ q → A q) {r : Int32} {z' : St} (E : zEnd p l e rmX3_takeAsking s m args below meth c cX3_takeAsking D cy B ids A Q none z' .return_ True) {N : Nat}  (x0 : Nat) (x1 : Nat) (x2 : Int32) (hx0 : (3, x0) ∈ ids) (hx1 : (7, x1) ∈ ids) {z : St} {H : Heap} {locs : List Loc} {ls : Array Slot} (hr : zRep D cy B ids A s.heap z H locs) (hl : lv_has ls 4 [(0, .ref (B 3 x0)), (1, .ref (B 7 x1)), (2, .int x2)]) (h : fX3_takeAsking N x0 x1 x2 z = some (r, z')) : W p l e rmX3_takeAsking s m args below meth c H locs 0 0 Q (F0 m 0 ls []) := by
  unfold fX3_takeAsking at h
  refine lv_aload_n F.1 F.2.1 dX3_takeAsking_0 rfl (lv_at hl 1 rfl) ?_
  refine lv_bipush (v := (8 : Int32)) F.1 F.2.1 dX3_takeAsking_1 (by decide) ?_
  replace h := zc_some h
  obtain ⟨r1, z2, hc3, h⟩ := h
  refine zr_calli (zrun_VN (As := [.int (8 : Int32)]) (rest := []) zn_1317 zq_1276 zs_X7_has zq_1277 zq_2 hdX7_has (by decide) (T := TX7) (N := 20) rfl (okX7_has l D cy B ids hst N x1 hx1 (8 : Int32)  hr.2.2 hc3) F hr hx1 hl.1 rfl (by decide) dX3_takeAsking_3 rfl rfl hroX3_takeAsking_X7_has ⟨Nat.zero_le _, Nat.zero_le _⟩) F hA hr (fun H locs hw4 hr => ?_)
  clear hc3
  refine lv_istore_n (lv' := [(3, .int r1), (0, .ref (B 3 x0)), (1, .ref (B 7 x1)), (2, .int x2)]) F.1 F.2.1 dX3_takeAsking_6 rfl hl (by decide) rfl (fun ls hl => ?_)
  refine lv_iload_n F.1 F.2.1 dX3_takeAsking_7 rfl (lv_at hl 0 rfl) ?_
  refine lv_if_eq (tgt := 31) F.1 F.2.1 dX3_takeAsking_8 (by decide) (fun c5 => ?_) (fun c5 => ?_)
  · replace h := zi_t c5 h
    exact bX3_takeAsking_31 hst F hA E  x0 x1 x2 r1 hx0 hx1 hr (lv_sub hl [1, 2, 3, 0] rfl) h
  · replace h := zi_f c5 h
    refine lv_aload_n F.1 F.2.1 dX3_takeAsking_11 rfl (lv_at hl 2 rfl) ?_
    refine gf3_161 F hx1 hr dX3_takeAsking_12 ?_
    refine lv_aload_n F.1 F.2.1 dX3_takeAsking_15 rfl (lv_at hl 1 rfl) ?_
    refine gf3_12 F hx0 hr dX3_takeAsking_16 (fun y6 ey6 => ?_)
    replace h := zl_sub ey6 h
    have hy6 := zal_g hr hx0 (j := 16) rfl ey6
    clear ey6
    replace h := zd_some h
    obtain ⟨a7, rfl, h⟩ := h
    refine gf3_86 F (hy6 _ rfl) hr dX3_takeAsking_19 ?_
    refine lv_icmp_eq (tgt := 31) F.1 F.2.1 dX3_takeAsking_22 (by decide) (fun c8 => ?_) (fun c8 => ?_)
    · replace h := zi_t c8 h
      exact bX3_takeAsking_31 hst F hA E  x0 x1 x2 r1 hx0 hx1 hr (lv_sub hl [1, 2, 3, 0] rfl) h
    · replace h := zi_f c8 h
      refine lv_aload_n F.1 F.2.1 dX3_takeAsking_25 rfl (lv_at hl 1 rfl) ?_
      refine lv_aload_n F.1 F.2.1 dX3_takeAsking_26 rfl (lv_at hl 2 rfl) ?_
      replace h := zc_some h
      obtain ⟨r9, z10, hc11, h⟩ := h
      refine zr_callv (zrun_V (As := [.ref (B 7 x1)]) (rest := []) zq_1318 zq_1320 zs_X3_resets zq_1321 zq_13 hdX3_resets (by decide) (T := TX3) (N := 19) rfl (okX3_resets l D cy B ids hst N x0 hx0 x1 hx1 hr.2.2 hc11) F hr hx0 hl.1 rfl (by decide) dX3_takeAsking_27 rfl rfl hroX3_takeAsking_X3_resets ⟨Nat.zero_le _, Nat.zero_le _⟩) F hA hr (fun H locs hw12 hr => ?_)
      clear hc11
      obtain ⟨rfl, rfl⟩ := zret h
      exact E _ _ _ _ dX3_takeAsking_30 trivial hr
end SX3_takeAsking
set_option maxRecDepth 100000 in
theorem okX3_takeAsking (l : Launch) (D : va_G) (cy : Nat → ClassId) (B : Nat → Nat → Nat) (ids : List (Nat × Nat)) (hst : zSt B ids) (N : Nat) (x0 : Nat) (hx0 : (3, x0) ∈ ids) (x1 : Nat) (hx1 : (7, x1) ∈ ids) (x2 : Int32) {z : St} {r : Int32} {z' : St} (hW : zWf ids z) (h : fX3_takeAsking N x0 x1 x2 z = some (r, z')) : zM l yX3_takeAsking (zws yX3_takeAsking cX3_takeAsking 4 none) rmX3_takeAsking D cy B ids [.ref (B 3 x0), .ref (B 7 x1), .int x2] none True z z' :=
  zM_of hst hW (by decide +kernel) (Nat.le_of_ble_eq_true rfl) (fun p e s m args below meth c A ls F hA hret hlocks hr hl => bX3_takeAsking_0 hst F hA (zEnd_v F hret hlocks) x0 x1 x2 hx0 hx1 hr hl h)
