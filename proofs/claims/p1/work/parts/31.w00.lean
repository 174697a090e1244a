abbrev rmX0_friendOf : Room := { frames := 0, cells := 0, slots := 0, locals := 0 }
theorem hdX0_friendOf : yX0_friendOf.cls ≠ "java/lang/invoke/MethodHandle" ∧ yX0_friendOf.cls ≠ "java/lang/invoke/VarHandle" ∧ (parseMethodDescriptor yX0_friendOf.desc).map (fun d => d.parameters.length) = some 1 := by decide +kernel
section SX0_friendOf
variable {p : Program} {l : Launch} {e : Env} {s : State} {m : MethodId} {args : Array Value} {below : List Frame} {meth : Method} {c : Code} {Q : State → Prop} {D : va_G} {cy : Nat → ClassId} {B : Nat → Nat → Nat} {ids : List (Nat × Nat)} {A : Nat → Prop}
def fX0_friendOf (N : Nat)  (x0 : Int32) (z : St) : Option (Int32 × St) := some (((x0 >>> ((20 : Int32) &&& 31)) - (1 : Int32)), z)
set_option maxHeartbeats 4000000 in
set_option maxRecDepth 100000 in
theorem bX0_friendOf_0 (hst : zSt B ids) (F : zFx p m c cX0_friendOf 1 s args RX0 D cy B ids A) (hA : ∀ q : Nat, s.heap.size ≤ q → A q) {r : Int32} {z' : St} (E : zEnd p l e rmX0_friendOf s m args below meth c cX0_friendOf D cy B ids A Q (some (.int r)) z' .ireturn True) {N : Nat}  (x0 : Int32)  {z : St} {H : Heap} {locs : List Loc} {ls : Array Slot} (hr : zRep D cy B ids A s.heap z H locs) (hl : lv_has ls 1 [(0, .int x0)]) (h : fX0_friendOf N x0 z = some (r, z')) : W p l e rmX0_friendOf s m args below meth c H locs 0 0 Q (F0 m 0 ls []) := by
  unfold fX0_friendOf at h
  refine lv_iload_n F.1 F.2.1 dX0_friendOf_0 rfl (lv_at hl 0 rfl) ?_
  refine lv_bipush (v := (20 : Int32)) F.1 F.2.1 dX0_friendOf_1 (by decide) ?_
  refine lv_ishr F.1 F.2.1 dX0_friendOf_3 ?_
  refine lv_iconst (v := (1 : Int32)) F.1 F.2.1 dX0_friendOf_4 (by decide) ?_
  refine lv_isub F.1 F.2.1 dX0_friendOf_5 ?_
  obtain ⟨rfl, rfl⟩ := zret h
  exact E _ _ _ _ dX0_friendOf_6 trivial hr
end SX0_friendOf
set_option maxRecDepth 100000 in
theorem okX0_friendOf (l : Launch) (D : va_G) (cy : Nat → ClassId) (B : Nat → Nat → Nat) (ids : List (Nat × Nat)) (hst : zSt B ids) (N : Nat) (x0 : Int32) {z : St} {r : Int32} {z' : St} (hW : zWf ids z) (h : fX0_friendOf N x0 z = some (r, z')) : zM l yX0_friendOf (zws yX0_friendOf cX0_friendOf 1 (some .int)) rmX0_friendOf D cy B ids [.int x0] (some (.int r)) True z z' :=
  zM_of hst hW (by decide +kernel) (Nat.le_of_ble_eq_true rfl) (fun p e s m args below meth c A ls F hA hret hlocks hr hl => bX0_friendOf_0 hst F hA (zEnd_i F hret hlocks) x0 hr hl h)
abbrev rmX0_netOfEntry : Room := { frames := 0, cells := 0, slots := 0, locals := 0 }
theorem hdX0_netOfEntry : yX0_netOfEntry.cls ≠ "java/lang/invoke/MethodHandle" ∧ yX0_netOfEntry.cls ≠ "java/lang/invoke/VarHandle" ∧ (parseMethodDescriptor yX0_netOfEntry.desc).map (fun d => d.parameters.length) = some 1 := by decide +kernel
section SX0_netOfEntry
variable {p : Program} {l : Launch} {e : Env} {s : State} {m : MethodId} {args : Array Value} {below : List Frame} {meth : Method} {c : Code} {Q : State → Prop} {D : va_G} {cy : Nat → ClassId} {B : Nat → Nat → Nat} {ids : List (Nat × Nat)} {A : Nat → Prop}
def fX0_netOfEntry (N : Nat)  (x0 : Int32) (z : St) : Option (Int32 × St) := some (((x0 >>> ((12 : Int32) &&& 31)) &&& (255 : Int32)), z)
set_option maxHeartbeats 4000000 in
set_option maxRecDepth 100000 in
theorem bX0_netOfEntry_0 (hst : zSt B ids) (F : zFx p m c cX0_netOfEntry 1 s args RX0 D cy B ids A) (hA : ∀ q : Nat, s.heap.size ≤ q → A q) {r : Int32} {z' : St} (E : zEnd p l e rmX0_netOfEntry s m args below meth c cX0_netOfEntry D cy B ids A Q (some (.int r)) z' .ireturn True) {N : Nat}  (x0 : Int32)  {z : St} {H : Heap} {locs : List Loc} {ls : Array Slot} (hr : zRep D cy B ids A s.heap z H locs) (hl : lv_has ls 1 [(0, .int x0)]) (h : fX0_netOfEntry N x0 z = some (r, z')) : W p l e rmX0_netOfEntry s m args below meth c H locs 0 0 Q (F0 m 0 ls []) := by
  unfold fX0_netOfEntry at h
  refine lv_iload_n F.1 F.2.1 dX0_netOfEntry_0 rfl (lv_at hl 0 rfl) ?_
  refine lv_bipush (v := (12 : Int32)) F.1 F.2.1 dX0_netOfEntry_1 (by decide) ?_
  refine lv_ishr F.1 F.2.1 dX0_netOfEntry_3 ?_
  refine lv_sipush (v := (255 : Int32)) F.1 F.2.1 dX0_netOfEntry_4 (by decide) ?_
  refine lv_iand F.1 F.2.1 dX0_netOfEntry_7 ?_
  obtain ⟨rfl, rfl⟩ := zret h
  exact E _ _ _ _ dX0_netOfEntry_8 trivial hr
end SX0_netOfEntry
set_option maxRecDepth 100000 in
theorem okX0_netOfEntry (l : Launch) (D : va_G) (cy : Nat → ClassId) (B : Nat → Nat → Nat) (ids : List (Nat × Nat)) (hst : zSt B ids) (N : Nat) (x0 : Int32) {z : St} {r : Int32} {z' : St} (hW : zWf ids z) (h : fX0_netOfEntry N x0 z = some (r, z')) : zM l yX0_netOfEntry (zws yX0_netOfEntry cX0_netOfEntry 1 (some .int)) rmX0_netOfEntry D cy B ids [.int x0] (some (.int r)) True z z' :=
  zM_of hst hW (by decide +kernel) (Nat.le_of_ble_eq_true rfl) (fun p e s m args below meth c A ls F hA hret hlocks hr hl => bX0_netOfEntry_0 hst F hA (zEnd_i F hret hlocks) x0 hr hl h)
abbrev rmX0_tollOf : Room := { frames := 0, cells := 0, slots := 0, locals := 0 }
theorem hdX0_tollOf : yX0_tollOf.cls ≠ "java/lang/invoke/MethodHandle" ∧ yX0_tollOf.cls ≠ "java/lang/invoke/VarHandle" ∧ (parseMethodDescriptor yX0_tollOf.desc).map (fun d => d.parameters.length) = some 1 := by decide +kernel
section SX0_tollOf
variable {p : Program} {l : Launch} {e : Env} {s : State} {m : MethodId} {args : Array Value} {below : List Frame} {meth : Method} {c : Code} {Q : State → Prop} {D : va_G} {cy : Nat → ClassId} {B : Nat → Nat → Nat} {ids : List (Nat × Nat)} {A : Nat → Prop}
def fX0_tollOf (N : Nat)  (x0 : Int32) (z : St) : Option (Int32 × St) := some ((x0 &&& (4095 : Int32)), z)
set_option maxHeartbeats 4000000 in
set_option maxRecDepth 100000 in
theorem bX0_tollOf_0 (hst : zSt B ids) (F : zFx p m c cX0_tollOf 1 s args RX0 D cy B ids A) (hA : ∀ q : Nat, s.heap.size ≤ q → A q) {r : Int32} {z' : St} (E : zEnd p l e rmX0_tollOf s m args below meth c cX0_tollOf D cy B ids A Q (some (.int r)) z' .ireturn True) {N : Nat}  (x0 : Int32)  {z : St} {H : Heap} {locs : List Loc} {ls : Array Slot} (hr : zRep D cy B ids A s.heap z H locs) (hl : lv_has ls 1 [(0, .int x0)]) (h : fX0_tollOf N x0 z = some (r, z')) : W p l e rmX0_tollOf s m args below meth c H locs 0 0 Q (F0 m 0 ls []) := by
  unfold fX0_tollOf at h
  refine lv_iload_n F.1 F.2.1 dX0_tollOf_0 rfl (lv_at hl 0 rfl) ?_
  refine lv_sipush (v := (4095 : Int32)) F.1 F.2.1 dX0_tollOf_1 (by decide) ?_
  refine lv_iand F.1 F.2.1 dX0_tollOf_4 ?_
  obtain ⟨rfl, rfl⟩ := zret h
  exact E _ _ _ _ dX0_tollOf_5 trivial hr
end SX0_tollOf
set_option maxRecDepth 100000 in
theorem okX0_tollOf (l : Launch) (D : va_G) (cy : Nat → ClassId) (B : Nat → Nat → Nat) (ids : List (Nat × Nat)) (hst : zSt B ids) (N : Nat) (x0 : Int32) {z : St} {r : Int32} {z' : St} (hW : zWf ids z) (h : fX0_tollOf N x0 z = some (r, z')) : zM l yX0_tollOf (zws yX0_tollOf cX0_tollOf 1 (some .int)) rmX0_tollOf D cy B ids [.int x0] (some (.int r)) True z z' :=
  zM_of hst hW (by decide +kernel) (Nat.le_of_ble_eq_true rfl) (fun p e s m args below meth c A ls F hA hret hlocks hr hl => bX0_tollOf_0 hst F hA (zEnd_i F hret hlocks) x0 hr hl h)
abbrev rmX0_addToDraft : Room := { frames := 0, cells := 0, slots := 0, locals := 0 }
theorem hdX0_addToDraft : yX0_addToDraft.cls ≠ "java/lang/invoke/MethodHandle" ∧ yX0_addToDraft.cls ≠ "java/lang/invoke/VarHandle" ∧ (parseMethodDescriptor yX0_addToDraft.desc).map (fun d => d.parameters.length) = some 3 := by decide +kernel
section SX0_addToDraft
variable {p : Program} {l : Launch} {e : Env} {s : State} {m : MethodId} {args : Array Value} {below : List Frame} {meth : Method} {c : Code} {Q : State → Prop} {D : va_G} {cy : Nat → ClassId} {B : Nat → Nat → Nat} {ids : List (Nat × Nat)} {A : Nat → Prop}
def fX0_addToDraft (N : Nat)  (x0 : Nat) (x1 : Int32) (x2 : Int32) (x3 : Int32) (z : St) : Option (Int32 × St) := if (zgI z 0 6 x0) < (24 : Int32) then (zk (zgI z 0 6 x0) 24 <| zl (zsA z 105 x0 (Int32.toNatClampNeg (zgI z 0 6 x0)) (((x1 <<< ((20 : Int32) &&& 31)) ||| (x2 <<< ((12 : Int32) &&& 31))) ||| x3)) fun z3 => zl (zsI z3 0 6 x0 ((zgI z3 0 6 x0) + (1 : Int32))) fun z4 => some (0, z4)) else (some (0, z))
set_option maxHeartbeats 4000000 in
set_option maxRecDepth 100000 in
theorem bX0_addToDraft_0 (hst : zSt B ids) (F : zFx p m c cX0_addToDraft 4 s args RX0 D cy B ids A) (hA : ∀ q : Nat, s.heap.size ≤ q → A q) {r : Int32} {z' : St} (E : zEnd p l e rmX0_addToDraft s m args below meth c cX0_addToDraft D cy B ids A Q none z' .return_ True) {N : Nat}  (x0 : Nat) (x1 : Int32) (x2 : Int32) (x3 : Int32) (hx0 : (0, x0) ∈ ids) {z : St} {H : Heap} {locs : List Loc} {ls : Array Slot} (hr : zRep D cy B ids A s.heap z H locs) (hl : lv_has ls 4 [(0, .ref (B 0 x0)), (1, .int x1), (2, .int x2), (3, .int x3)]) (h : fX0_addToDraft N x0 x1 x2 x3 z = some (r, z')) : W p l e rmX0_addToDraft s m args below meth c H locs 0 0 Q (F0 m 0 ls []) := by
  unfold fX0_addToDraft at h
  refine lv_aload_n F.1 F.2.1 dX0_addToDraft_0 rfl (lv_at hl 0 rfl) ?_
  refine gf0_56 F hx0 hr dX0_addToDraft_1 ?_
  refine lv_bipush (v := (24 : Int32)) F.1 F.2.1 dX0_addToDraft_4 (by decide) ?_
  refine lv_icmp_lt (tgt := 10) F.1 F.2.1 dX0_addToDraft_6 (by decide) (fun c1 => ?_) (fun c1 => ?_)
  · replace h := zi_t c1 h
    refine lv_aload_n F.1 F.2.1 dX0_addToDraft_10 rfl (lv_at hl 0 rfl) ?_
    refine gf0_26 F hx0 hr dX0_addToDraft_11 ?_
    refine lv_aload_n F.1 F.2.1 dX0_addToDraft_14 rfl (lv_at hl 0 rfl) ?_
    refine gf0_56 F hx0 hr dX0_addToDraft_15 ?_
    refine lv_iload_n F.1 F.2.1 dX0_addToDraft_18 rfl (lv_at hl 1 rfl) ?_
    refine lv_bipush (v := (20 : Int32)) F.1 F.2.1 dX0_addToDraft_19 (by decide) ?_
    refine lv_ishl F.1 F.2.1 dX0_addToDraft_21 ?_
    refine lv_iload_n F.1 F.2.1 dX0_addToDraft_22 rfl (lv_at hl 2 rfl) ?_
    refine lv_bipush (v := (12 : Int32)) F.1 F.2.1 dX0_addToDraft_23 (by decide) ?_
    refine lv_ishl F.1 F.2.1 dX0_addToDraft_25 ?_
    refine lv_ior F.1 F.2.1 dX0_addToDraft_26 ?_
    refine lv_iload_n F.1 F.2.1 dX0_addToDraft_27 rfl (lv_at hl 3 rfl) ?_
    refine lv_ior F.1 F.2.1 dX0_addToDraft_28 ?_
    replace h := zk_some h
    obtain ⟨c2, h⟩ := h
    refine zr_iast (k := 105) (by decide) rfl (by decide) F (zal_a F hx0 (j := 5) rfl) hr dX0_addToDraft_29 c2 (fun H locs z3 ez3 hr => ?_)
    replace h := zl_sub ez3 h
    clear ez3
    refine lv_aload_n F.1 F.2.1 dX0_addToDraft_30 rfl (lv_at hl 0 rfl) ?_
    refine lv_dup F.1 F.2.1 dX0_addToDraft_31 rfl ?_
    refine gf0_56 F hx0 hr dX0_addToDraft_32 ?_
    refine lv_iconst (v := (1 : Int32)) F.1 F.2.1 dX0_addToDraft_35 (by decide) ?_
    refine lv_iadd F.1 F.2.1 dX0_addToDraft_36 ?_
    refine pf0_56 F hx0 hr dX0_addToDraft_37 ((zgI z3 0 6 x0) + (1 : Int32)) (fun H locs z4 ez4 hr => ?_)
    replace h := zl_sub ez4 h
    clear ez4
    obtain ⟨rfl, rfl⟩ := zret h
    exact E _ _ _ _ dX0_addToDraft_40 trivial hr
  · replace h := zi_f c1 h
    obtain ⟨rfl, rfl⟩ := zret h
    exact E _ _ _ _ dX0_addToDraft_9 trivial hr
end SX0_addToDraft
set_option maxRecDepth 100000 in
theorem okX0_addToDraft (l : Launch) (D : va_G) (cy : Nat → ClassId) (B : Nat → Nat → Nat) (ids : List (Nat × Nat)) (hst : zSt B ids) (N : Nat) (x0 : Nat) (hx0 : (0, x0) ∈ ids) (x1 : Int32) (x2 : Int32) (x3 : Int32) {z : St} {r : Int32} {z' : St} (hW : zWf ids z) (h : fX0_addToDraft N x0 x1 x2 x3 z = some (r, z')) : zM l yX0_addToDraft (zws yX0_addToDraft cX0_addToDraft 4 none) rmX0_addToDraft D cy B ids [.ref (B 0 x0), .int x1, .int x2, .int x3] none True z z' :=
  zM_of hst hW (by decide +kernel) (Nat.le_of_ble_eq_true rfl) (fun p e s m args below meth c A ls F hA hret hlocks hr hl => bX0_addToDraft_0 hst F hA (zEnd_v F hret hlocks) x0 x1 x2 x3 hx0 hr hl h)
abbrev rmX0_tellsDraft : Room := { frames := 0, cells := 0, slots := 0, locals := 0 }
theorem hdX0_tellsDraft : yX0_tellsDraft.cls ≠ "java/lang/invoke/MethodHandle" ∧ yX0_tellsDraft.cls ≠ "java/lang/invoke/VarHandle" ∧ (parseMethodDescriptor yX0_tellsDraft.desc).map (fun d => d.parameters.length) = some 1 := by decide +kernel
section SX0_tellsDraft
variable {p : Program} {l : Launch} {e : Env} {s : State} {m : MethodId} {args : Array Value} {below : List Frame} {meth : Method} {c : Code} {Q : State → Prop} {D : va_G} {cy : Nat → ClassId} {B : Nat → Nat → Nat} {ids : List (Nat × Nat)} {A : Nat → Prop}
def fX0_tellsDraft_17b (N : Nat) (K17 : Nat → Int32 → Int32 → St → Option (Int32 × St)) (x0 : Nat) (x1 : Int32) (x2 : Int32) (z : St) : Option (Int32 × St) := if (zgI z 0 6 x0) ≤ x2 then (some ((1 : Int32), z)) else (zk x1 16 <| zk x2 24 <| zk x2 24 <| if (zgA z 104 (x0 * 16 + (Int32.toNatClampNeg x1)) (Int32.toNatClampNeg x2)) = (zgA z 105 x0 (Int32.toNatClampNeg x2)) then (zl (x2 + 1) fun v6 => K17 x0 x1 v6 z) else (some ((0 : Int32), z)))
def fX0_tellsDraft_17 (N : Nat)  : Nat → Nat → Int32 → Int32 → St → Option (Int32 × St)
  | 0 => fun _ _ _ _ => none
  | n + 1 => fX0_tellsDraft_17b N (fX0_tellsDraft_17 N  n)
set_option maxHeartbeats 4000000 in
set_option maxRecDepth 100000 in
theorem bX0_tellsDraft_17 (hst : zSt B ids) (F : zFx p m c cX0_tellsDraft 3 s args RX0 D cy B ids A) (hA : ∀ q : Nat, s.heap.size ≤ q → A q) {r : Int32} {z' : St} (E : zEnd p l e rmX0_tellsDraft s m args below meth c cX0_tellsDraft D cy B ids A Q (some (.int r)) z' .ireturn (r = 0 ∨ r = 1)) {N : Nat} {K17 : Nat → Int32 → Int32 → St → Option (Int32 × St)} (hK17 : ∀ (x0 : Nat) (x1 : Int32) (x2 : Int32) (hx0 : (0, x0) ∈ ids) {z : St} {H : Heap} {locs : List Loc} {ls : Array Slot} (hr : zRep D cy B ids A s.heap z H locs) (hl : lv_has ls 3 [(0, .ref (B 0 x0)), (1, .int x1), (2, .int x2)]), K17 x0 x1 x2 z = some (r, z') → W p l e rmX0_tellsDraft s m args below meth c H locs 0 0 Q (F0 m 17 ls [])) (x0 : Nat) (x1 : Int32) (x2 : Int32) (hx0 : (0, x0) ∈ ids) {z : St} {H : Heap} {locs : List Loc} {ls : Array Slot} (hr : zRep D cy B ids A s.heap z H locs) (hl : lv_has ls 3 [(0, .ref (B 0 x0)), (1, .int x1), (2, .int x2)]) (h : fX0_tellsDraft_17b N K17 x0 x1 x2 z = some (r, z')) : W p l e rmX0_tellsDraft s m args below meth c H locs 0 0 Q (F0 m 17 ls []) := by
  unfold fX0_tellsDraft_17b at h
  refine lv_iload_n F.1 F.2.1 dX0_tellsDraft_17 rfl (lv_at hl 2 rfl) ?_
  refine lv_aload_n F.1 F.2.1 dX0_tellsDraft_18 rfl (lv_at hl 0 rfl) ?_
  refine gf0_56 F hx0 hr dX0_tellsDraft_19 ?_
  refine lv_icmp_ge (tgt := 50) F.1 F.2.1 dX0_tellsDraft_22 (by decide) (fun c1 => ?_) (fun c1 => ?_)
  · replace h := zi_t c1 h
    refine lv_iconst (v := (1 : Int32)) F.1 F.2.1 dX0_tellsDraft_50 (by decide) ?_
    obtain ⟨rfl, rfl⟩ := zret h
    exact E _ _ _ _ dX0_tellsDraft_51 (by decide) hr
  · replace h := zi_f c1 h
    refine lv_aload_n F.1 F.2.1 dX0_tellsDraft_25 rfl (lv_at hl 0 rfl) ?_
    refine gf0_23 F hx0 hr dX0_tellsDraft_26 ?_
    refine lv_iload_n F.1 F.2.1 dX0_tellsDraft_29 rfl (lv_at hl 1 rfl) ?_
    replace h := zk_some h
    obtain ⟨c2, h⟩ := h
    refine zr_rald (k := 103) (by decide) rfl (by decide) rfl F (zal_a F hx0 (j := 4) rfl) hr dX0_tellsDraft_30 c2 ?_
    refine lv_iload_n F.1 F.2.1 dX0_tellsDraft_31 rfl (lv_at hl 2 rfl) ?_
    replace h := zk_some h
    obtain ⟨c3, h⟩ := h
    refine zr_iald (k := 104) (by decide) rfl (by decide) F (zal_w F (zal_a F hx0 (j := 4) rfl) (k := 103) rfl c2) hr dX0_tellsDraft_32 c3 ?_
    refine lv_aload_n F.1 F.2.1 dX0_tellsDraft_33 rfl (lv_at hl 0 rfl) ?_
    refine gf0_26 F hx0 hr dX0_tellsDraft_34 ?_
    refine lv_iload_n F.1 F.2.1 dX0_tellsDraft_37 rfl (lv_at hl 2 rfl) ?_
    replace h := zk_some h
    obtain ⟨c4, h⟩ := h
    refine zr_iald (k := 105) (by decide) rfl (by decide) F (zal_a F hx0 (j := 5) rfl) hr dX0_tellsDraft_38 c4 ?_
    refine lv_icmp_eq (tgt := 44) F.1 F.2.1 dX0_tellsDraft_39 (by decide) (fun c5 => ?_) (fun c5 => ?_)
    · replace h := zi_t c5 h
      obtain ⟨v6, ev6⟩ : ∃ y : Int32, y = (x2 + 1) := ⟨_, rfl⟩
      replace h := zl_sub ev6 h
      refine lv_iinc (v := v6) (lv' := [(2, .int v6), (0, .ref (B 0 x0)), (1, .int x1)]) F.1 F.2.1 dX0_tellsDraft_44 hl (k := 2) rfl (by rw [ev6]; rfl) (by decide) rfl (fun ls hl => ?_)
      refine lv_goto (tgt := 17) F.1 F.2.1 dX0_tellsDraft_47 (by decide) ?_
      exact hK17 x0 x1 v6 hx0 hr (lv_sub hl [1, 2, 0] rfl) h
    · replace h := zi_f c5 h
      refine lv_iconst (v := (0 : Int32)) F.1 F.2.1 dX0_tellsDraft_42 (by decide) ?_
      obtain ⟨rfl, rfl⟩ := zret h
      exact E _ _ _ _ dX0_tellsDraft_43 (by decide) hr
theorem lX0_tellsDraft_17 (hst : zSt B ids) (F : zFx p m c cX0_tellsDraft 3 s args RX0 D cy B ids A) (hA : ∀ q : Nat, s.heap.size ≤ q → A q) {r : Int32} {z' : St} (E : zEnd p l e rmX0_tellsDraft s m args below meth c cX0_tellsDraft D cy B ids A Q (some (.int r)) z' .ireturn (r = 0 ∨ r = 1)) {N : Nat}  : ∀ (n : Nat) (x0 : Nat) (x1 : Int32) (x2 : Int32) (hx0 : (0, x0) ∈ ids) {z : St} {H : Heap} {locs : List Loc} {ls : Array Slot} (hr : zRep D cy B ids A s.heap z H locs) (hl : lv_has ls 3 [(0, .ref (B 0 x0)), (1, .int x1), (2, .int x2)]), fX0_tellsDraft_17 N  n x0 x1 x2 z = some (r, z') → W p l e rmX0_tellsDraft s m args below meth c H locs 0 0 Q (F0 m 17 ls []) := by
  intro n
  induction n with
  | zero => intro x0 x1 x2 hx0 z H locs ls hr hl h; cases h
  | succ n ih => intro x0 x1 x2 hx0 z H locs ls hr hl h; exact bX0_tellsDraft_17 hst F hA E ih x0 x1 x2 hx0 hr hl h
def fX0_tellsDraft (N : Nat)  (x0 : Nat) (x1 : Int32) (z : St) : Option (Int32 × St) := zk x1 16 <| if (zgA z 102 x0 (Int32.toNatClampNeg x1)) = (zgI z 0 6 x0) then (fX0_tellsDraft_17 N N x0 x1 (0 : Int32) z) else (some ((0 : Int32), z))
set_option maxHeartbeats 4000000 in
set_option maxRecDepth 100000 in
theorem bX0_tellsDraft_0 (hst : zSt B ids) (F : zFx p m c cX0_tellsDraft 3 s args RX0 D cy B ids A) (hA : ∀ q : Nat, s.heap.size ≤ q → A q) {r : Int32} {z' : St} (E : zEnd p l e rmX0_tellsDraft s m args below meth c cX0_tellsDraft D cy B ids A Q (some (.int r)) z' .ireturn (r = 0 ∨ r = 1)) {N : Nat}  (x0 : Nat) (x1 : Int32) (hx0 : (0, x0) ∈ ids) {z : St} {H : Heap} {locs : List Loc} {ls : Array Slot} (hr : zRep D cy B ids A s.heap z H locs) (hl : lv_has ls 3 [(0, .ref (B 0 x0)), (1, .int x1)]) (h : fX0_tellsDraft N x0 x1 z = some (r, z')) : W p l e rmX0_tellsDraft s m args below meth c H locs 0 0 Q (F0 m 0 ls []) := by
  unfold fX0_tellsDraft at h
  refine lv_aload_n F.1 F.2.1 dX0_tellsDraft_0 rfl (lv_at hl 0 rfl) ?_
  refine gf0_18 F hx0 hr dX0_tellsDraft_1 ?_
  refine lv_iload_n F.1 F.2.1 dX0_tellsDraft_4 rfl (lv_at hl 1 rfl) ?_
  replace h := zk_some h
  obtain ⟨c1, h⟩ := h
  refine zr_iald (k := 102) (by decide) rfl (by decide) F (zal_a F hx0 (j := 3) rfl) hr dX0_tellsDraft_5 c1 ?_
  refine lv_aload_n F.1 F.2.1 dX0_tellsDraft_6 rfl (lv_at hl 0 rfl) ?_
  refine gf0_56 F hx0 hr dX0_tellsDraft_7 ?_
  refine lv_icmp_eq (tgt := 15) F.1 F.2.1 dX0_tellsDraft_10 (by decide) (fun c2 => ?_) (fun c2 => ?_)
  · replace h := zi_t c2 h
    refine lv_iconst (v := (0 : Int32)) F.1 F.2.1 dX0_tellsDraft_15 (by decide) ?_
    refine lv_istore_n (lv' := [(2, .int (0 : Int32)), (0, .ref (B 0 x0)), (1, .int x1)]) F.1 F.2.1 dX0_tellsDraft_16 rfl hl (by decide) rfl (fun ls hl => ?_)
    exact lX0_tellsDraft_17 hst F hA E  _ x0 x1 (0 : Int32) hx0 hr (lv_sub hl [1, 2, 0] rfl) h
  · replace h := zi_f c2 h
    refine lv_iconst (v := (0 : Int32)) F.1 F.2.1 dX0_tellsDraft_13 (by decide) ?_
    obtain ⟨rfl, rfl⟩ := zret h
    exact E _ _ _ _ dX0_tellsDraft_14 (by decide) hr
end SX0_tellsDraft
set_option maxRecDepth 100000 in
theorem okX0_tellsDraft (l : Launch) (D : va_G) (cy : Nat → ClassId) (B : Nat → Nat → Nat) (ids : List (Nat × Nat)) (hst : zSt B ids) (N : Nat) (x0 : Nat) (hx0 : (0, x0) ∈ ids) (x1 : Int32) {z : St} {r : Int32} {z' : St} (hW : zWf ids z) (h : fX0_tellsDraft N x0 x1 z = some (r, z')) : zM l yX0_tellsDraft (zws yX0_tellsDraft cX0_tellsDraft 3 (some .boolean)) rmX0_tellsDraft D cy B ids [.ref (B 0 x0), .int x1] (some (.int r)) (r = 0 ∨ r = 1) z z' :=
  zM_of hst hW (by decide +kernel) (Nat.le_of_ble_eq_true rfl) (fun p e s m args below meth c A ls F hA hret hlocks hr hl => bX0_tellsDraft_0 hst F hA (zEnd_z F hret hlocks) x0 x1 hx0 hr hl h)
abbrev rmX0_takeDraft : Room := { frames := 0, cells := 0, slots := 0, locals := 0 }
theorem hdX0_takeDraft : yX0_takeDraft.cls ≠ "java/lang/invoke/MethodHandle" ∧ yX0_takeDraft.cls ≠ "java/lang/invoke/VarHandle" ∧ (parseMethodDescriptor yX0_takeDraft.desc).map (fun d => d.parameters.length) = some 3 := by decide +kernel
section SX0_takeDraft
variable {p : Program} {l : Launch} {e : Env} {s : State} {m : MethodId} {args : Array Value} {below : List Frame} {meth : Method} {c : Code} {Q : State → Prop} {D : va_G} {cy : Nat → ClassId} {B : Nat → Nat → Nat} {ids : List (Nat × Nat)} {A : Nat → Prop}
def fX0_takeDraft_27b (N : Nat) (K27 : Nat → Int32 → Int32 → St → Option (Int32 × St)) (x0 : Nat) (x1 : Int32) (x4 : Int32) (z : St) : Option (Int32 × St) := if (zgI z 0 6 x0) ≤ x4 then (zl (zsI z 0 9 x0 (1 : Int32)) fun z2 => some (0, z2)) else (zk x1 16 <| zk x4 24 <| zk x4 24 <| zl (zsA z 104 (x0 * 16 + (Int32.toNatClampNeg x1)) (Int32.toNatClampNeg x4) (zgA z 105 x0 (Int32.toNatClampNeg x4))) fun z6 => zl (x4 + 1) fun v7 => K27 x0 x1 v7 z6)
def fX0_takeDraft_27 (N : Nat)  : Nat → Nat → Int32 → Int32 → St → Option (Int32 × St)
  | 0 => fun _ _ _ _ => none
  | n + 1 => fX0_takeDraft_27b N (fX0_takeDraft_27 N  n)
set_option maxHeartbeats 4000000 in
set_option maxRecDepth 100000 in
theorem bX0_takeDraft_27 (hst : zSt B ids) (F : zFx p m c cX0_takeDraft 5 s args RX0 D cy B ids A) (hA : ∀ q : Nat, s.heap.size ≤ q → A q) {r : Int32} {z' : St} (E : zEnd p l e rmX0_takeDraft s m args below meth c cX0_takeDraft D cy B ids A Q none z' .return_ True) {N : Nat} {K27 : Nat → Int32 → Int32 → St → Option (Int32 × St)} (hK27 : ∀ (x0 : Nat) (x1 : Int32) (x4 : Int32) (hx0 : (0, x0) ∈ ids) {z : St} {H : Heap} {locs : List Loc} {ls : Array Slot} (hr : zRep D cy B ids A s.heap z H locs) (hl : lv_has ls 5 [(0, .ref (B 0 x0)), (1, .int x1), (4, .int x4)]), K27 x0 x1 x4 z = some (r, z') → W p l e rmX0_takeDraft s m args below meth c H locs 0 0 Q (F0 m 27 ls [])) (x0 : Nat) (x1 : Int32) (x4 : Int32) (hx0 : (0, x0) ∈ ids) {z : St} {H : Heap} {locs : List Loc} {ls : Array Slot} (hr : zRep D cy B ids A s.heap z H locs) (hl : lv_has ls 5 [(0, .ref (B 0 x0)), (1, .int x1), (4, .int x4)]) (h : fX0_takeDraft_27b N K27 x0 x1 x4 z = some (r, z')) : W p l e rmX0_takeDraft s m args below meth c H locs 0 0 Q (F0 m 27 ls []) := by
  unfold fX0_takeDraft_27b at h
  refine lv_iload F.1 F.2.1 dX0_takeDraft_27 (lv_at hl 2 rfl) ?_
  refine lv_aload_n F.1 F.2.1 dX0_takeDraft_29 rfl (lv_at hl 0 rfl) ?_
  refine gf0_56 F hx0 hr dX0_takeDraft_30 ?_
  refine lv_icmp_ge (tgt := 58) F.1 F.2.1 dX0_takeDraft_33 (by decide) (fun c1 => ?_) (fun c1 => ?_)
  · replace h := zi_t c1 h
    refine lv_aload_n F.1 F.2.1 dX0_takeDraft_58 rfl (lv_at hl 0 rfl) ?_
    refine lv_iconst (v := (1 : Int32)) F.1 F.2.1 dX0_takeDraft_59 (by decide) ?_
    refine pf0_29 F hx0 hr dX0_takeDraft_60 (1 : Int32) (by decide) (fun H locs z2 ez2 hr => ?_)
    replace h := zl_sub ez2 h
    clear ez2
    obtain ⟨rfl, rfl⟩ := zret h
    exact E _ _ _ _ dX0_takeDraft_63 trivial hr
  · replace h := zi_f c1 h
    refine lv_aload_n F.1 F.2.1 dX0_takeDraft_36 rfl (lv_at hl 0 rfl) ?_
    refine gf0_23 F hx0 hr dX0_takeDraft_37 ?_
    refine lv_iload_n F.1 F.2.1 dX0_takeDraft_40 rfl (lv_at hl 1 rfl) ?_
    replace h := zk_some h
    obtain ⟨c3, h⟩ := h
    refine zr_rald (k := 103) (by decide) rfl (by decide) rfl F (zal_a F hx0 (j := 4) rfl) hr dX0_takeDraft_41 c3 ?_
    refine lv_iload F.1 F.2.1 dX0_takeDraft_42 (lv_at hl 2 rfl) ?_
    refine lv_aload_n F.1 F.2.1 dX0_takeDraft_44 rfl (lv_at hl 0 rfl) ?_
    refine gf0_26 F hx0 hr dX0_takeDraft_45 ?_
    refine lv_iload F.1 F.2.1 dX0_takeDraft_48 (lv_at hl 2 rfl) ?_
    replace h := zk_some h
    obtain ⟨c4, h⟩ := h
    refine zr_iald (k := 105) (by decide) rfl (by decide) F (zal_a F hx0 (j := 5) rfl) hr dX0_takeDraft_50 c4 ?_
    replace h := zk_some h
    obtain ⟨c5, h⟩ := h
    refine zr_iast (k := 104) (by decide) rfl (by decide) F (zal_w F (zal_a F hx0 (j := 4) rfl) (k := 103) rfl c3) hr dX0_takeDraft_51 c5 (fun H locs z6 ez6 hr => ?_)
    replace h := zl_sub ez6 h
    clear ez6
    obtain ⟨v7, ev7⟩ : ∃ y : Int32, y = (x4 + 1) := ⟨_, rfl⟩
    replace h := zl_sub ev7 h
    refine lv_iinc (v := v7) (lv' := [(4, .int v7), (0, .ref (B 0 x0)), (1, .int x1)]) F.1 F.2.1 dX0_takeDraft_52 hl (k := 2) rfl (by rw [ev7]; rfl) (by decide) rfl (fun ls hl => ?_)
    refine lv_goto (tgt := 27) F.1 F.2.1 dX0_takeDraft_55 (by decide) ?_
    exact hK27 x0 x1 v7 hx0 hr (lv_sub hl [1, 2, 0] rfl) h
theorem lX0_takeDraft_27 (hst : zSt B ids) (F : zFx p m c cX0_takeDraft 5 s args RX0 D cy B ids A) (hA : ∀ q : Nat, s.heap.size ≤ q → A q) {r : Int32} {z' : St} (E : zEnd p l e rmX0_takeDraft s m args below meth c cX0_takeDraft D cy B ids A Q none z' .return_ True) {N : Nat}  : ∀ (n : Nat) (x0 : Nat) (x1 : Int32) (x4 : Int32) (hx0 : (0, x0) ∈ ids) {z : St} {H : Heap} {locs : List Loc} {ls : Array Slot} (hr : zRep D cy B ids A s.heap z H locs) (hl : lv_has ls 5 [(0, .ref (B 0 x0)), (1, .int x1), (4, .int x4)]), fX0_takeDraft_27 N  n x0 x1 x4 z = some (r, z') → W p l e rmX0_takeDraft s m args below meth c H locs 0 0 Q (F0 m 27 ls []) := by
  intro n
  induction n with
  | zero => intro x0 x1 x4 hx0 z H locs ls hr hl h; cases h
  | succ n ih => intro x0 x1 x4 hx0 z H locs ls hr hl h; exact bX0_takeDraft_27 hst F hA E ih x0 x1 x4 hx0 hr hl h
def fX0_takeDraft (N : Nat)  (x0 : Nat) (x1 : Int32) (x2 : Int32) (x3 : Int32) (z : St) : Option (Int32 × St) := zk x1 16 <| zl (zsA z 100 x0 (Int32.toNatClampNeg x1) x2) fun z2 => zk x1 16 <| zl (zsA z2 101 x0 (Int32.toNatClampNeg x1) x3) fun z4 => zk x1 16 <| zl (zsA z4 102 x0 (Int32.toNatClampNeg x1) (zgI z4 0 6 x0)) fun z6 => fX0_takeDraft_27 N N x0 x1 (0 : Int32) z6
set_option maxHeartbeats 4000000 in
set_option maxRecDepth 100000 in
theorem bX0_takeDraft_0 (hst : zSt B ids) (F : zFx p m c cX0_takeDraft 5 s args RX0 D cy B ids A) (hA : ∀ q : Nat, s.heap.size ≤ q → A q) {r : Int32} {z' : St} (E : zEnd p l e rmX0_takeDraft s m args below meth c cX0_takeDraft D cy B ids A Q none z' .return_ True) {N : Nat}  (x0 : Nat) (x1 : Int32) (x2 : Int32) (x3 : Int32) (hx0 : (0, x0) ∈ ids) {z : St} {H : Heap} {locs : List Loc} {ls : Array Slot} (hr : zRep D cy B ids A s.heap z H locs) (hl : lv_has ls 5 [(0, .ref (B 0 x0)), (1, .int x1), (2, .int x2), (3, .int x3)]) (h : fX0_takeDraft N x0 x1 x2 x3 z = some (r, z')) : W p l e rmX0_takeDraft s m args below meth c H locs 0 0 Q (F0 m 0 ls []) := by
  unfold fX0_takeDraft at h
  refine lv_aload_n F.1 F.2.1 dX0_takeDraft_0 rfl (lv_at hl 0 rfl) ?_
  refine gf0_9 F hx0 hr dX0_takeDraft_1 ?_
  refine lv_iload_n F.1 F.2.1 dX0_takeDraft_4 rfl (lv_at hl 1 rfl) ?_
  refine lv_iload_n F.1 F.2.1 dX0_takeDraft_5 rfl (lv_at hl 2 rfl) ?_
  replace h := zk_some h
  obtain ⟨c1, h⟩ := h
  refine zr_iast (k := 100) (by decide) rfl (by decide) F (zal_a F hx0 (j := 1) rfl) hr dX0_takeDraft_6 c1 (fun H locs z2 ez2 hr => ?_)
  replace h := zl_sub ez2 h
  clear ez2
  refine lv_aload_n F.1 F.2.1 dX0_takeDraft_7 rfl (lv_at hl 0 rfl) ?_
  refine gf0_15 F hx0 hr dX0_takeDraft_8 ?_
  refine lv_iload_n F.1 F.2.1 dX0_takeDraft_11 rfl (lv_at hl 1 rfl) ?_
  refine lv_iload_n F.1 F.2.1 dX0_takeDraft_12 rfl (lv_at hl 3 rfl) ?_
  replace h := zk_some h
  obtain ⟨c3, h⟩ := h
  refine zr_iast (k := 101) (by decide) rfl (by decide) F (zal_a F hx0 (j := 2) rfl) hr dX0_takeDraft_13 c3 (fun H locs z4 ez4 hr => ?_)
  replace h := zl_sub ez4 h
  clear ez4
  refine lv_aload_n F.1 F.2.1 dX0_takeDraft_14 rfl (lv_at hl 0 rfl) ?_
  refine gf0_18 F hx0 hr dX0_takeDraft_15 ?_
  refine lv_iload_n F.1 F.2.1 dX0_takeDraft_18 rfl (lv_at hl 1 rfl) ?_
  refine lv_aload_n F.1 F.2.1 dX0_takeDraft_19 rfl (lv_at hl 0 rfl) ?_
  refine gf0_56 F hx0 hr dX0_takeDraft_20 ?_
  replace h := zk_some h
  obtain ⟨c5, h⟩ := h
  refine zr_iast (k := 102) (by decide) rfl (by decide) F (zal_a F hx0 (j := 3) rfl) hr dX0_takeDraft_23 c5 (fun H locs z6 ez6 hr => ?_)
  replace h := zl_sub ez6 h
  clear ez6
  refine lv_iconst (v := (0 : Int32)) F.1 F.2.1 dX0_takeDraft_24 (by decide) ?_
  refine lv_istore (lv' := [(4, .int (0 : Int32)), (0, .ref (B 0 x0)), (1, .int x1), (2, .int x2), (3, .int x3)]) F.1 F.2.1 dX0_takeDraft_25 hl (by decide) rfl (fun ls hl => ?_)
  exact lX0_takeDraft_27 hst F hA E  _ x0 x1 (0 : Int32) hx0 hr (lv_sub hl [1, 2, 0] rfl) h
end SX0_takeDraft
set_option maxRecDepth 100000 in
theorem okX0_takeDraft (l : Launch) (D : va_G) (cy : Nat → ClassId) (B : Nat → Nat → Nat) (ids : List (Nat × Nat)) (hst : zSt B ids) (N : Nat) (x0 : Nat) (hx0 : (0, x0) ∈ ids) (x1 : Int32) (x2 : Int32) (x3 : Int32) {z : St} {r : Int32} {z' : St} (hW : zWf ids z) (h : fX0_takeDraft N x0 x1 x2 x3 z = some (r, z')) : zM l yX0_takeDraft (zws yX0_takeDraft cX0_takeDraft 5 none) rmX0_takeDraft D cy B ids [.ref (B 0 x0), .int x1, .int x2, .int x3] none True z z' :=
  zM_of hst hW (by decide +kernel) (Nat.le_of_ble_eq_true rfl) (fun p e s m args below meth c A ls F hA hret hlocks hr hl => bX0_takeDraft_0 hst F hA (zEnd_v F hret hlocks) x0 x1 x2 x3 hx0 hr hl h)
abbrev rmX7_get2 : Room := { frames := 0, cells := 0, slots := 0, locals := 0 }
theorem hdX7_get2 : yX7_get2.cls ≠ "java/lang/invoke/MethodHandle" ∧ yX7_get2.cls ≠ "java/lang/invoke/VarHandle" ∧ (parseMethodDescriptor yX7_get2.desc).map (fun d => d.parameters.length) = some 1 := by decide +kernel
section SX7_get2
variable {p : Program} {l : Launch} {e : Env} {s : State} {m : MethodId} {args : Array Value} {below : List Frame} {meth : Method} {c : Code} {Q : State → Prop} {D : va_G} {cy : Nat → ClassId} {B : Nat → Nat → Nat} {ids : List (Nat × Nat)} {A : Nat → Prop}
def fX7_get2 (N : Nat)  (x0 : Nat) (x1 : Int32) (z : St) : Option (Int32 × St) := if x1 < 0 then (some ((0 : Int32), z)) else (if (x1 + (2 : Int32)) ≤ (1480 : Int32) then (zk x1 1480 <| zk (x1 + (1 : Int32)) 1480 <| some (((((zgA z 125 x0 (Int32.toNatClampNeg x1)) &&& (255 : Int32)) <<< ((8 : Int32) &&& 31)) ||| ((zgA z 125 x0 (Int32.toNatClampNeg (x1 + (1 : Int32)))) &&& (255 : Int32))), z)) else (some ((0 : Int32), z)))
set_option maxHeartbeats 4000000 in
set_option maxRecDepth 100000 in
theorem bX7_get2_0 (hst : zSt B ids) (F : zFx p m c cX7_get2 2 s args RX7 D cy B ids A) (hA : ∀ q : Nat, s.heap.size ≤ q → A q) {r : Int32} {z' : St} (E : zEnd p l e rmX7_get2 s m args below meth c cX7_get2 D cy B ids A Q (some (.int r)) z' .ireturn True) {N : Nat}  (x0 : Nat) (x1 : Int32) (hx0 : (7, x0) ∈ ids) {z : St} {H : Heap} {locs : List Loc} {ls : Array Slot} (hr : zRep D cy B ids A s.heap z H locs) (hl : lv_has ls 2 [(0, .ref (B 7 x0)), (1, .int x1)]) (h : fX7_get2 N x0 x1 z = some (r, z')) : W p l e rmX7_get2 s m args below meth c H locs 0 0 Q (F0 m 0 ls []) := by
  unfold fX7_get2 at h
  refine lv_iload_n F.1 F.2.1 dX7_get2_0 rfl (lv_at hl 1 rfl) ?_
  refine lv_if_lt (tgt := 13) F.1 F.2.1 dX7_get2_1 (by decide) (fun c1 => ?_) (fun c1 => ?_)
  · replace h := zi_t c1 h
    refine lv_iconst (v := (0 : Int32)) F.1 F.2.1 dX7_get2_13 (by decide) ?_
    obtain ⟨rfl, rfl⟩ := zret h
    exact E _ _ _ _ dX7_get2_14 trivial hr
  · replace h := zi_f c1 h
    refine lv_iload_n F.1 F.2.1 dX7_get2_4 rfl (lv_at hl 1 rfl) ?_
    refine lv_iconst (v := (2 : Int32)) F.1 F.2.1 dX7_get2_5 (by decide) ?_
    refine lv_iadd F.1 F.2.1 dX7_get2_6 ?_
    refine lv_sipush (v := (1480 : Int32)) F.1 F.2.1 dX7_get2_7 (by decide) ?_
    refine lv_icmp_le (tgt := 15) F.1 F.2.1 dX7_get2_10 (by decide) (fun c2 => ?_) (fun c2 => ?_)
    · replace h := zi_t c2 h
      refine lv_aload_n F.1 F.2.1 dX7_get2_15 rfl (lv_at hl 0 rfl) ?_
      refine gf7_9 F hx0 hr dX7_get2_16 ?_
      refine lv_iload_n F.1 F.2.1 dX7_get2_19 rfl (lv_at hl 1 rfl) ?_
      replace h := zk_some h
      obtain ⟨c3, h⟩ := h
      refine zr_bald (k := 125) (by decide) rfl (by decide) F (zal_a F hx0 (j := 8) rfl) hr dX7_get2_20 c3 ?_
      refine lv_sipush (v := (255 : Int32)) F.1 F.2.1 dX7_get2_21 (by decide) ?_
      refine lv_iand F.1 F.2.1 dX7_get2_24 ?_
      refine lv_bipush (v := (8 : Int32)) F.1 F.2.1 dX7_get2_25 (by decide) ?_
      refine lv_ishl F.1 F.2.1 dX7_get2_27 ?_
      refine lv_aload_n F.1 F.2.1 dX7_get2_28 rfl (lv_at hl 0 rfl) ?_
      refine gf7_9 F hx0 hr dX7_get2_29 ?_
      refine lv_iload_n F.1 F.2.1 dX7_get2_32 rfl (lv_at hl 1 rfl) ?_
      refine lv_iconst (v := (1 : Int32)) F.1 F.2.1 dX7_get2_33 (by decide) ?_
      refine lv_iadd F.1 F.2.1 dX7_get2_34 ?_
      replace h := zk_some h
      obtain ⟨c4, h⟩ := h
      refine zr_bald (k := 125) (by decide) rfl (by decide) F (zal_a F hx0 (j := 8) rfl) hr dX7_get2_35 c4 ?_
      refine lv_sipush (v := (255 : Int32)) F.1 F.2.1 dX7_get2_36 (by decide) ?_
      refine lv_iand F.1 F.2.1 dX7_get2_39 ?_
      refine lv_ior F.1 F.2.1 dX7_get2_40 ?_
      obtain ⟨rfl, rfl⟩ := zret h
      exact E _ _ _ _ dX7_get2_41 trivial hr
    · replace h := zi_f c2 h
      refine lv_iconst (v := (0 : Int32)) F.1 F.2.1 dX7_get2_13 (by decide) ?_
      obtain ⟨rfl, rfl⟩ := zret h
      exact E _ _ _ _ dX7_get2_14 trivial hr
end SX7_get2
set_option maxRecDepth 100000 in
theorem okX7_get2 (l : Launch) (D : va_G) (cy : Nat → ClassId) (B : Nat → Nat → Nat) (ids : List (Nat × Nat)) (hst : zSt B ids) (N : Nat) (x0 : Nat) (hx0 : (7, x0) ∈ ids) (x1 : Int32) {z : St} {r : Int32} {z' : St} (hW : zWf ids z) (h : fX7_get2 N x0 x1 z = some (r, z')) : zM l yX7_get2 (zws yX7_get2 cX7_get2 2 (some .int)) rmX7_get2 D cy B ids [.ref (B 7 x0), .int x1] (some (.int r)) True z z' :=
  zM_of hst hW (by decide +kernel) (Nat.le_of_ble_eq_true rfl) (fun p e s m args below meth c A ls F hA hret hlocks hr hl => bX7_get2_0 hst F hA (zEnd_i F hret hlocks) x0 x1 hx0 hr hl h)
abbrev rmX0_takeAdvert : Room := { frames := 1, cells := 0, slots := 0, locals := 60 }
theorem hdX0_takeAdvert : yX0_takeAdvert.cls ≠ "java/lang/invoke/MethodHandle" ∧ yX0_takeAdvert.cls ≠ "java/lang/invoke/VarHandle" ∧ (parseMethodDescriptor yX0_takeAdvert.desc).map (fun d => d.parameters.length) = some 4 := by decide +kernel
theorem hroX0_takeAdvert_X0_addToDraft : rmX0_addToDraft.frames + 1 ≤ rmX0_takeAdvert.frames ∧ 8 + (4 + 11) + rmX0_addToDraft.locals ≤ rmX0_takeAdvert.locals := by decide
theorem hroX0_takeAdvert_X0_takeDraft : rmX0_takeDraft.frames + 1 ≤ rmX0_takeAdvert.frames ∧ 8 + (5 + 11) + rmX0_takeDraft.locals ≤ rmX0_takeAdvert.locals := by decide
theorem hroX0_takeAdvert_X7_get2 : rmX7_get2.frames + 1 ≤ rmX0_takeAdvert.frames ∧ 8 + (2 + 11) + rmX7_get2.locals ≤ rmX0_takeAdvert.locals := by decide
section SX0_takeAdvert
variable {p : Program} {l : Launch} {e : Env} {s : State} {m : MethodId} {args : Array Value} {below : List Frame} {meth : Method} {c : Code} {Q : State → Prop} {D : va_G} {cy : Nat → ClassId} {B : Nat → Nat → Nat} {ids : List (Nat × Nat)} {A : Nat → Prop}
def fX0_takeAdvert_21b (N : Nat) (K21 : Nat → Nat → Int32 → Int32 → Int32 → Int32 → Int32 → St → Option (Int32 × St)) (x0 : Nat) (x1 : Nat) (x2 : Int32) (x3 : Int32) (x4 : Int32) (x5 : Int32) (x6 : Int32) (z : St) : Option (Int32 × St) := if x5 ≤ x6 then (zc (fX0_takeDraft N x0 x2 x3 x4 z) fun _ z3 => some (0, z3)) else (zl ((12 : Int32) + ((6 : Int32) * x6)) fun v6 => zc (fX7_get2 N x1 v6 z) fun r7 z8 => zc (fX7_get2 N x1 (v6 + (2 : Int32)) z8) fun r11 z12 => zc (fX7_get2 N x1 (v6 + (4 : Int32)) z12) fun r15 z16 => zc (fX0_addToDraft N x0 r7 r11 r15 z16) fun _ z20 => zl (x6 + 1) fun v23 => K21 x0 x1 x2 x3 x4 x5 v23 z20)
def fX0_takeAdvert_21 (N : Nat)  : Nat → Nat → Nat → Int32 → Int32 → Int32 → Int32 → Int32 → St → Option (Int32 × St)
  | 0 => fun _ _ _ _ _ _ _ _ => none
  | n + 1 => fX0_takeAdvert_21b N (fX0_takeAdvert_21 N  n)
set_option maxHeartbeats 4000000 in
set_option maxRecDepth 100000 in
theorem bX0_takeAdvert_21 (hst : zSt B ids) (F : zFx p m c cX0_takeAdvert 8 s args RX0 D cy B ids A) (hA : ∀ q : Nat, s.heap.size ≤ q → A q) {r : Int32} {z' : St} (E : zEnd p l e rmX0_takeAdvert s m args below meth c cX0_takeAdvert D cy B ids A Q none z' .return_ True) {N : Nat} {K21 : Nat → Nat → Int32 → Int32 → Int32 → Int32 → Int32 → St → Option (Int32 × St)} (hK21 : ∀ (x0 : Nat) (x1 : Nat) (x2 : Int32) (x3 : Int32) (x4 : Int32) (x5 : Int32) (x6 : Int32) (hx0 : (0, x0) ∈ ids) (hx1 : (7, x1) ∈ ids) {z : St} {H : Heap} {locs : List Loc} {ls : Array Slot} (hr : zRep D cy B ids A s.heap z H locs) (hl : lv_has ls 8 [(0, .ref (B 0 x0)), (1, .ref (B 7 x1)), (2, .int x2), (3, .int x3), (4, .int x4), (5, .int x5), (6, .int x6)]), K21 x0 x1 x2 x3 x4 x5 x6 z = some (r, z') → W p l e rmX0_takeAdvert s m args below meth c H locs 0 0 Q (F0 m 21 ls [])) (x0 : Nat) (x1 : Nat) (x2 : Int32) (x3 : Int32) (x4 : Int32) (x5 : Int32) (x6 : Int32) (hx0 : (0, x0) ∈ ids) (hx1 : (7, x1) ∈ ids) {z : St} {H : Heap} {locs : List Loc} {ls : Array Slot} (hr : zRep D cy B ids A s.heap z H locs) (hl : lv_has ls 8 [(0, .ref (B 0 x0)), (1, .ref (B 7 x1)), (2, .int x2), (3, .int x3), (4, .int x4), (5, .int x5), (6, .int x6)]) (h : fX0_takeAdvert_21b N K21 x0 x1 x2 x3 x4 x5 x6 z = some (r, z')) : W p l e rmX0_takeAdvert s m args below meth c H locs 0 0 Q (F0 m 21 ls []) := by
  unfold fX0_takeAdvert_21b at h
  refine lv_iload F.1 F.2.1 dX0_takeAdvert_21 (lv_at hl 6 rfl) ?_
  refine lv_iload F.1 F.2.1 dX0_takeAdvert_23 (lv_at hl 5 rfl) ?_
  refine lv_icmp_ge (tgt := 70) F.1 F.2.1 dX0_takeAdvert_25 (by decide) (fun c1 => ?_) (fun c1 => ?_)
  · replace h := zi_t c1 h
    refine lv_aload_n F.1 F.2.1 dX0_takeAdvert_70 rfl (lv_at hl 0 rfl) ?_
    refine lv_iload_n F.1 F.2.1 dX0_takeAdvert_71 rfl (lv_at hl 2 rfl) ?_
    refine lv_iload_n F.1 F.2.1 dX0_takeAdvert_72 rfl (lv_at hl 3 rfl) ?_
    refine lv_iload F.1 F.2.1 dX0_takeAdvert_73 (lv_at hl 4 rfl) ?_
    replace h := zc_some h
    obtain ⟨r2, z3, hc4, h⟩ := h
    refine zr_callv (zrun_V (As := [.int x2, .int x3, .int x4]) (rest := []) zq_1199 zq_1201 zs_X0_takeDraft zq_1202 zq_11 hdX0_takeDraft (by decide) (T := TX0) (N := 16) rfl (okX0_takeDraft l D cy B ids hst N x0 hx0 x2  x3  x4  hr.2.2 hc4) F hr hx0 hl.1 rfl (by decide) dX0_takeAdvert_75 rfl rfl hroX0_takeAdvert_X0_takeDraft ⟨Nat.zero_le _, Nat.zero_le _⟩) F hA hr (fun H locs hw5 hr => ?_)
    clear hc4
    obtain ⟨rfl, rfl⟩ := zret h
    exact E _ _ _ _ dX0_takeAdvert_78 trivial hr
  · replace h := zi_f c1 h
    refine lv_bipush (v := (12 : Int32)) F.1 F.2.1 dX0_takeAdvert_28 (by decide) ?_
    refine lv_bipush (v := (6 : Int32)) F.1 F.2.1 dX0_takeAdvert_30 (by decide) ?_
    refine lv_iload F.1 F.2.1 dX0_takeAdvert_32 (lv_at hl 6 rfl) ?_
    refine lv_imul F.1 F.2.1 dX0_takeAdvert_34 ?_
    refine lv_iadd F.1 F.2.1 dX0_takeAdvert_35 ?_
    refine lv_topi (fun v6 ev6 => ?_)
    replace h := zl_sub ev6 h
    refine lv_istore (lv' := [(7, .int v6), (0, .ref (B 0 x0)), (1, .ref (B 7 x1)), (2, .int x2), (3, .int x3), (4, .int x4), (5, .int x5), (6, .int x6)]) F.1 F.2.1 dX0_takeAdvert_36 hl (by decide) rfl (fun ls hl => ?_)
    refine lv_aload_n F.1 F.2.1 dX0_takeAdvert_38 rfl (lv_at hl 1 rfl) ?_
    refine lv_aload_n F.1 F.2.1 dX0_takeAdvert_39 rfl (lv_at hl 2 rfl) ?_
    refine lv_iload F.1 F.2.1 dX0_takeAdvert_40 (lv_at hl 0 rfl) ?_
    replace h := zc_some h
    obtain ⟨r7, z8, hc9, h⟩ := h
    refine zr_calli (zrun_VN (As := [.int v6]) (rest := [.ref (B 0 x0)]) zn_1193 zq_1138 zs_X7_get2 zq_1139 zq_2 hdX7_get2 (by decide) (T := TX7) (N := 20) rfl (okX7_get2 l D cy B ids hst N x1 hx1 v6  hr.2.2 hc9) F hr hx1 hl.1 rfl (Nat.le_of_ble_eq_true rfl) dX0_takeAdvert_42 rfl rfl hroX0_takeAdvert_X7_get2 ⟨Nat.zero_le _, Nat.zero_le _⟩) F hA hr (fun H locs hw10 hr => ?_)
    clear hc9
    refine lv_aload_n F.1 F.2.1 dX0_takeAdvert_45 rfl (lv_at hl 2 rfl) ?_
    refine lv_iload F.1 F.2.1 dX0_takeAdvert_46 (lv_at hl 0 rfl) ?_
    refine lv_iconst (v := (2 : Int32)) F.1 F.2.1 dX0_takeAdvert_48 (by decide) ?_
    refine lv_iadd F.1 F.2.1 dX0_takeAdvert_49 ?_
    replace h := zc_some h
    obtain ⟨r11, z12, hc13, h⟩ := h
    refine zr_calli (zrun_VN (As := [.int (v6 + (2 : Int32))]) (rest := [.int r7, .ref (B 0 x0)]) zn_1193 zq_1138 zs_X7_get2 zq_1139 zq_2 hdX7_get2 (by decide) (T := TX7) (N := 20) rfl (okX7_get2 l D cy B ids hst N x1 hx1 (v6 + (2 : Int32))  hr.2.2 hc13) F hr hx1 hl.1 rfl (Nat.le_of_ble_eq_true rfl) dX0_takeAdvert_50 rfl rfl hroX0_takeAdvert_X7_get2 ⟨Nat.zero_le _, Nat.zero_le _⟩) F hA hr (fun H locs hw14 hr => ?_)
    clear hc13
    refine lv_aload_n F.1 F.2.1 dX0_takeAdvert_53 rfl (lv_at hl 2 rfl) ?_
    refine lv_iload F.1 F.2.1 dX0_takeAdvert_54 (lv_at hl 0 rfl) ?_
    refine lv_iconst (v := (4 : Int32)) F.1 F.2.1 dX0_takeAdvert_56 (by decide) ?_
    refine lv_iadd F.1 F.2.1 dX0_takeAdvert_57 ?_
    replace h := zc_some h
    obtain ⟨r15, z16, hc17, h⟩ := h
    refine zr_calli (zrun_VN (As := [.int (v6 + (4 : Int32))]) (rest := [.int r11, .int r7, .ref (B 0 x0)]) zn_1193 zq_1138 zs_X7_get2 zq_1139 zq_2 hdX7_get2 (by decide) (T := TX7) (N := 20) rfl (okX7_get2 l D cy B ids hst N x1 hx1 (v6 + (4 : Int32))  hr.2.2 hc17) F hr hx1 hl.1 rfl (Nat.le_of_ble_eq_true rfl) dX0_takeAdvert_58 rfl rfl hroX0_takeAdvert_X7_get2 ⟨Nat.zero_le _, Nat.zero_le _⟩) F hA hr (fun H locs hw18 hr => ?_)
    clear hc17
    replace h := zc_some h
    obtain ⟨r19, z20, hc21, h⟩ := h
    refine zr_callv (zrun_V (As := [.int r7, .int r11, .int r15]) (rest := []) zq_1195 zq_1197 zs_X0_addToDraft zq_1198 zq_11 hdX0_addToDraft (by decide) (T := TX0) (N := 16) rfl (okX0_addToDraft l D cy B ids hst N x0 hx0 r7  r11  r15  hr.2.2 hc21) F hr hx0 hl.1 rfl (by decide) dX0_takeAdvert_61 rfl rfl hroX0_takeAdvert_X0_addToDraft ⟨Nat.zero_le _, Nat.zero_le _⟩) F hA hr (fun H locs hw22 hr => ?_)
    clear hc21
    obtain ⟨v23, ev23⟩ : ∃ y : Int32, y = (x6 + 1) := ⟨_, rfl⟩
    replace h := zl_sub ev23 h
    refine lv_iinc (v := v23) (lv' := [(6, .int v23), (7, .int v6), (0, .ref (B 0 x0)), (1, .ref (B 7 x1)), (2, .int x2), (3, .int x3), (4, .int x4), (5, .int x5)]) F.1 F.2.1 dX0_takeAdvert_64 hl (k := 7) rfl (by rw [ev23]; rfl) (by decide) rfl (fun ls hl => ?_)
    refine lv_goto (tgt := 21) F.1 F.2.1 dX0_takeAdvert_67 (by decide) ?_
    exact hK21 x0 x1 x2 x3 x4 x5 v23 hx0 hx1 hr (lv_sub hl [2, 3, 4, 5, 6, 7, 0] rfl) h
theorem lX0_takeAdvert_21 (hst : zSt B ids) (F : zFx p m c cX0_takeAdvert 8 s args RX0 D cy B ids A) (hA : ∀ q : Nat, s.heap.size ≤ q → A q) {r : Int32} {z' : St} (E : zEnd p l e rmX0_takeAdvert s m args below meth c cX0_takeAdvert D cy B ids A Q none z' .return_ True) {N : Nat}  : ∀ (n : Nat) (x0 : Nat) (x1 : Nat) (x2 : Int32) (x3 : Int32) (x4 : Int32) (x5 : Int32) (x6 : Int32) (hx0 : (0, x0) ∈ ids) (hx1 : (7, x1) ∈ ids) {z : St} {H : Heap} {locs : List Loc} {ls : Array Slot} (hr : zRep D cy B ids A s.heap z H locs) (hl : lv_has ls 8 [(0, .ref (B 0 x0)), (1, .ref (B 7 x1)), (2, .int x2), (3, .int x3), (4, .int x4), (5, .int x5), (6, .int x6)]), fX0_takeAdvert_21 N  n x0 x1 x2 x3 x4 x5 x6 z = some (r, z') → W p l e rmX0_takeAdvert s m args below meth c H locs 0 0 Q (F0 m 21 ls []) := by
  intro n
  induction n with
  | zero => intro x0 x1 x2 x3 x4 x5 x6 hx0 hx1 z H locs ls hr hl h; cases h
  | succ n ih => intro x0 x1 x2 x3 x4 x5 x6 hx0 hx1 z H locs ls hr hl h; exact bX0_takeAdvert_21 hst F hA E ih x0 x1 x2 x3 x4 x5 x6 hx0 hx1 hr hl h
def fX0_takeAdvert (N : Nat)  (x0 : Nat) (x1 : Nat) (x2 : Int32) (x3 : Int32) (x4 : Int32) (z : St) : Option (Int32 × St) := zl (zsI z 0 6 x0 (0 : Int32)) fun z1 => zc (fX7_get2 N x1 (6 : Int32) z1) fun r2 z3 => zl (if (24 : Int32) < r2 then (24 : Int32) else r2) fun v6 => fX0_takeAdvert_21 N N x0 x1 x2 x3 x4 v6 (0 : Int32) z3
set_option maxHeartbeats 4000000 in
set_option maxRecDepth 100000 in
theorem bX0_takeAdvert_0 (hst : zSt B ids) (F : zFx p m c cX0_takeAdvert 8 s args RX0 D cy B ids A) (hA : ∀ q : Nat, s.heap.size ≤ q → A q) {r : Int32} {z' : St} (E : zEnd p l e rmX0_takeAdvert s m args below meth c cX0_takeAdvert D cy B ids A Q none z' .return_ True) {N : Nat}  (x0 : Nat) (x1 : Nat) (x2 : Int32) (x3 : Int32) (x4 : Int32) (hx0 : (0, x0) ∈ ids) (hx1 : (7, x1) ∈ ids) {z : St} {H : Heap} {locs : List Loc} {ls : Array Slot} (hr : zRep D cy B ids A s.heap z H locs) (hl : lv_has ls 8 [(0, .ref (B 0 x0)), (1, .ref (B 7 x1)), (2, .int x2), (3, .int x3), (4, .int x4)]) (h : fX0_takeAdvert N x0 x1 x2 x3 x4 z = some (r, z')) : W p l e rmX0_takeAdvert s m args below meth c H locs 0 0 Q (F0 m 0 ls []) := by
  unfold fX0_takeAdvert at h
  refine lv_aload_n F.1 F.2.1 dX0_takeAdvert_0 rfl (lv_at hl 0 rfl) ?_
  refine lv_iconst (v := (0 : Int32)) F.1 F.2.1 dX0_takeAdvert_1 (by decide) ?_
  refine pf0_56 F hx0 hr dX0_takeAdvert_2 (0 : Int32) (fun H locs z1 ez1 hr => ?_)
  replace h := zl_sub ez1 h
  clear ez1
  refine lv_aload_n F.1 F.2.1 dX0_takeAdvert_5 rfl (lv_at hl 1 rfl) ?_
  refine lv_bipush (v := (6 : Int32)) F.1 F.2.1 dX0_takeAdvert_6 (by decide) ?_
  replace h := zc_some h
  obtain ⟨r2, z3, hc4, h⟩ := h
  refine zr_calli (zrun_VN (As := [.int (6 : Int32)]) (rest := []) zn_1193 zq_1138 zs_X7_get2 zq_1139 zq_2 hdX7_get2 (by decide) (T := TX7) (N := 20) rfl (okX7_get2 l D cy B ids hst N x1 hx1 (6 : Int32)  hr.2.2 hc4) F hr hx1 hl.1 rfl (by decide) dX0_takeAdvert_8 rfl rfl hroX0_takeAdvert_X7_get2 ⟨Nat.zero_le _, Nat.zero_le _⟩) F hA hr (fun H locs hw5 hr => ?_)
  clear hc4
  refine lv_bipush (v := (24 : Int32)) F.1 F.2.1 dX0_takeAdvert_11 (by decide) ?_
  refine va_mmin F.1 F.2.1 (F.2.2.1.trans hl.1.symm) F.2.2.2.1 (F.2.2.2.2.1 _ zq_1194) (F.2.2.2.2.1 _ zq_304) (F.2.2.2.2.1 _ zq_27) (F.2.2.2.2.1 _ zq_305) (Nat.le_of_ble_eq_true rfl) (Nat.le_of_ble_eq_true rfl) (Nat.zero_le _) (Nat.zero_le _) dX0_takeAdvert_13 ?_
  refine lv_topi (fun v6 ev6 => ?_)
  replace h := zl_sub ev6 h
  refine lv_istore (lv' := [(5, .int v6), (0, .ref (B 0 x0)), (1, .ref (B 7 x1)), (2, .int x2), (3, .int x3), (4, .int x4)]) F.1 F.2.1 dX0_takeAdvert_16 hl (by decide) rfl (fun ls hl => ?_)
  refine lv_iconst (v := (0 : Int32)) F.1 F.2.1 dX0_takeAdvert_18 (by decide) ?_
  refine lv_istore (lv' := [(6, .int (0 : Int32)), (5, .int v6), (0, .ref (B 0 x0)), (1, .ref (B 7 x1)), (2, .int x2), (3, .int x3), (4, .int x4)]) F.1 F.2.1 dX0_takeAdvert_19 hl (by decide) rfl (fun ls hl => ?_)
  exact lX0_takeAdvert_21 hst F hA E  _ x0 x1 x2 x3 x4 v6 (0 : Int32) hx0 hx1 hr (lv_sub hl [2, 3, 4, 5, 6, 1, 0] rfl) h
end SX0_takeAdvert
set_option maxRecDepth 100000 in
theorem okX0_takeAdvert (l : Launch) (D : va_G) (cy : Nat → ClassId) (B : Nat → Nat → Nat) (ids : List (Nat × Nat)) (hst : zSt B ids) (N : Nat) (x0 : Nat) (hx0 : (0, x0) ∈ ids) (x1 : Nat) (hx1 : (7, x1) ∈ ids) (x2 : Int32) (x3 : Int32) (x4 : Int32) {z : St} {r : Int32} {z' : St} (hW : zWf ids z) (h : fX0_takeAdvert N x0 x1 x2 x3 x4 z = some (r, z')) : zM l yX0_takeAdvert (zws yX0_takeAdvert cX0_takeAdvert 8 none) rmX0_takeAdvert D cy B ids [.ref (B 0 x0), .ref (B 7 x1), .int x2, .int x3, .int x4] none True z z' :=
  zM_of hst hW (by decide +kernel) (Nat.le_of_ble_eq_true rfl) (fun p e s m args below meth c A ls F hA hret hlocks hr hl => bX0_takeAdvert_0 hst F hA (zEnd_v F hret hlocks) x0 x1 x2 x3 x4 hx0 hx1 hr hl h)
abbrev rmX7_begin : Room := { frames := 0, cells := 0, slots := 0, locals := 0 }
theorem hdX7_begin : yX7_begin.cls ≠ "java/lang/invoke/MethodHandle" ∧ yX7_begin.cls ≠ "java/lang/invoke/VarHandle" ∧ (parseMethodDescriptor yX7_begin.desc).map (fun d => d.parameters.length) = some 2 := by decide +kernel
section SX7_begin
variable {p : Program} {l : Launch} {e : Env} {s : State} {m : MethodId} {args : Array Value} {below : List Frame} {meth : Method} {c : Code} {Q : State → Prop} {D : va_G} {cy : Nat → ClassId} {B : Nat → Nat → Nat} {ids : List (Nat × Nat)} {A : Nat → Prop}
def fX7_begin_21 (N : Nat)  (x0 : Nat) (x2 : Int32) (s0 : Nat) (s1 : Int32) (z : St) : Option (Int32 × St) := zl (zsI z 7 4 s0 s1) fun z1 => zl (zsI z1 7 5 x0 (0 : Int32)) fun z2 => zl (zsI z2 7 9 x0 (0 : Int32)) fun z3 => zl (zsI z3 7 10 x0 (0 : Int32)) fun z4 => zl (zsI z4 7 6 x0 x2) fun z5 => zl (zsI z5 7 7 x0 x2) fun z6 => some (0, z6)
set_option maxHeartbeats 4000000 in
set_option maxRecDepth 100000 in
theorem bX7_begin_21 (hst : zSt B ids) (F : zFx p m c cX7_begin 3 s args RX7 D cy B ids A) (hA : ∀ q : Nat, s.heap.size ≤ q → A q) {r : Int32} {z' : St} (E : zEnd p l e rmX7_begin s m args below meth c cX7_begin D cy B ids A Q none z' .return_ True) {N : Nat}  (x0 : Nat) (x2 : Int32) (s0 : Nat) (s1 : Int32) (hx0 : (7, x0) ∈ ids) (hs0 : (7, s0) ∈ ids) {z : St} {H : Heap} {locs : List Loc} {ls : Array Slot} (hr : zRep D cy B ids A s.heap z H locs) (hl : lv_has ls 3 [(0, .ref (B 7 x0)), (2, .int x2)]) (h : fX7_begin_21 N x0 x2 s0 s1 z = some (r, z')) : W p l e rmX7_begin s m args below meth c H locs 0 0 Q (F0 m 21 ls [.int s1, .ref (B 7 s0)]) := by
  unfold fX7_begin_21 at h
  refine pf7_19 F hs0 hr dX7_begin_21 s1 (fun H locs z1 ez1 hr => ?_)
  replace h := zl_sub ez1 h
  clear ez1
  refine lv_aload_n F.1 F.2.1 dX7_begin_24 rfl (lv_at hl 0 rfl) ?_
  refine lv_iconst (v := (0 : Int32)) F.1 F.2.1 dX7_begin_25 (by decide) ?_
  refine pf7_22 F hx0 hr dX7_begin_26 (0 : Int32) (fun H locs z2 ez2 hr => ?_)
  replace h := zl_sub ez2 h
  clear ez2
  refine lv_aload_n F.1 F.2.1 dX7_begin_29 rfl (lv_at hl 0 rfl) ?_
  refine lv_iconst (v := (0 : Int32)) F.1 F.2.1 dX7_begin_30 (by decide) ?_
  refine pf7_25 F hx0 hr dX7_begin_31 (0 : Int32) (fun H locs z3 ez3 hr => ?_)
  replace h := zl_sub ez3 h
  clear ez3
  refine lv_aload_n F.1 F.2.1 dX7_begin_34 rfl (lv_at hl 0 rfl) ?_
  refine lv_iconst (v := (0 : Int32)) F.1 F.2.1 dX7_begin_35 (by decide) ?_
  refine pf7_28 F hx0 hr dX7_begin_36 (0 : Int32) (fun H locs z4 ez4 hr => ?_)
  replace h := zl_sub ez4 h
  clear ez4
  refine lv_aload_n F.1 F.2.1 dX7_begin_39 rfl (lv_at hl 0 rfl) ?_
  refine lv_iload_n F.1 F.2.1 dX7_begin_40 rfl (lv_at hl 1 rfl) ?_
  refine pf7_31 F hx0 hr dX7_begin_41 x2 (fun H locs z5 ez5 hr => ?_)
  replace h := zl_sub ez5 h
  clear ez5
  refine lv_aload_n F.1 F.2.1 dX7_begin_44 rfl (lv_at hl 0 rfl) ?_
  refine lv_iload_n F.1 F.2.1 dX7_begin_45 rfl (lv_at hl 1 rfl) ?_
  refine pf7_34 F hx0 hr dX7_begin_46 x2 (fun H locs z6 ez6 hr => ?_)
  replace h := zl_sub ez6 h
  clear ez6
  obtain ⟨rfl, rfl⟩ := zret h
  exact E _ _ _ _ dX7_begin_49 trivial hr
def fX7_begin_15 (N : Nat)  (x0 : Nat) (x2 : Int32) (s0 : Nat) (z : St) : Option (Int32 × St) := fX7_begin_21 N x0 x2 s0 (64 : Int32) z
set_option maxHeartbeats 4000000 in
set_option maxRecDepth 100000 in
theorem bX7_begin_15 (hst : zSt B ids) (F : zFx p m c cX7_begin 3 s args RX7 D cy B ids A) (hA : ∀ q : Nat, s.heap.size ≤ q → A q) {r : Int32} {z' : St} (E : zEnd p l e rmX7_begin s m args below meth c cX7_begin D cy B ids A Q none z' .return_ True) {N : Nat}  (x0 : Nat) (x2 : Int32) (s0 : Nat) (hx0 : (7, x0) ∈ ids) (hs0 : (7, s0) ∈ ids) {z : St} {H : Heap} {locs : List Loc} {ls : Array Slot} (hr : zRep D cy B ids A s.heap z H locs) (hl : lv_has ls 3 [(0, .ref (B 7 x0)), (2, .int x2)]) (h : fX7_begin_15 N x0 x2 s0 z = some (r, z')) : W p l e rmX7_begin s m args below meth c H locs 0 0 Q (F0 m 15 ls [.ref (B 7 s0)]) := by
  unfold fX7_begin_15 at h
  refine lv_bipush (v := (64 : Int32)) F.1 F.2.1 dX7_begin_15 (by decide) ?_
  refine lv_goto (tgt := 21) F.1 F.2.1 dX7_begin_17 (by decide) ?_
  exact bX7_begin_21 hst F hA E  x0 x2 s0 (64 : Int32) hx0 hs0 hr (lv_sub hl [0, 1] rfl) h
def fX7_begin (N : Nat)  (x0 : Nat) (x1 : Int32) (x2 : Int32) (z : St) : Option (Int32 × St) := zl (zsI z 7 2 x0 x1) fun z1 => if x1 = 0 then (fX7_begin_15 N x0 x2 x0 z1) else (if ¬ x1 = (1 : Int32) then (fX7_begin_21 N x0 x2 x0 (1 : Int32) z1) else (fX7_begin_15 N x0 x2 x0 z1))
set_option maxHeartbeats 4000000 in
set_option maxRecDepth 100000 in
theorem bX7_begin_0 (hst : zSt B ids) (F : zFx p m c cX7_begin 3 s args RX7 D cy B ids A) (hA : ∀ q : Nat, s.heap.size ≤ q → A q) {r : Int32} {z' : St} (E : zEnd p l e rmX7_begin s m args below meth c cX7_begin D cy B ids A Q none z' .return_ True) {N : Nat}  (x0 : Nat) (x1 : Int32) (x2 : Int32) (hx0 : (7, x0) ∈ ids) {z : St} {H : Heap} {locs : List Loc} {ls : Array Slot} (hr : zRep D cy B ids A s.heap z H locs) (hl : lv_has ls 3 [(0, .ref (B 7 x0)), (1, .int x1), (2, .int x2)]) (h : fX7_begin N x0 x1 x2 z = some (r, z')) : W p l e rmX7_begin s m args below meth c H locs 0 0 Q (F0 m 0 ls []) := by
  unfold fX7_begin at h
  refine lv_aload_n F.1 F.2.1 dX7_begin_0 rfl (lv_at hl 0 rfl) ?_
  refine lv_iload_n F.1 F.2.1 dX7_begin_1 rfl (lv_at hl 1 rfl) ?_
  refine pf7_15 F hx0 hr dX7_begin_2 x1 (fun H locs z1 ez1 hr => ?_)
  replace h := zl_sub ez1 h
  clear ez1
  refine lv_aload_n F.1 F.2.1 dX7_begin_5 rfl (lv_at hl 0 rfl) ?_
  refine lv_iload_n F.1 F.2.1 dX7_begin_6 rfl (lv_at hl 1 rfl) ?_
  refine lv_if_eq (tgt := 15) F.1 F.2.1 dX7_begin_7 (by decide) (fun c2 => ?_) (fun c2 => ?_)
  · replace h := zi_t c2 h
    exact bX7_begin_15 hst F hA E  x0 x2 x0 hx0 hx0 hr (lv_sub hl [0, 2] rfl) h
  · replace h := zi_f c2 h
    refine lv_iload_n F.1 F.2.1 dX7_begin_10 rfl (lv_at hl 1 rfl) ?_
    refine lv_iconst (v := (1 : Int32)) F.1 F.2.1 dX7_begin_11 (by decide) ?_
    refine lv_icmp_ne (tgt := 20) F.1 F.2.1 dX7_begin_12 (by decide) (fun c3 => ?_) (fun c3 => ?_)
    · replace h := zi_t c3 h
      refine lv_iconst (v := (1 : Int32)) F.1 F.2.1 dX7_begin_20 (by decide) ?_
      exact bX7_begin_21 hst F hA E  x0 x2 x0 (1 : Int32) hx0 hx0 hr (lv_sub hl [0, 2] rfl) h
    · replace h := zi_f (fun q => q c3) h
      exact bX7_begin_15 hst F hA E  x0 x2 x0 hx0 hx0 hr (lv_sub hl [0, 2] rfl) h
end SX7_begin
set_option maxRecDepth 100000 in
theorem okX7_begin (l : Launch) (D : va_G) (cy : Nat → ClassId) (B : Nat → Nat → Nat) (ids : List (Nat × Nat)) (hst : zSt B ids) (N : Nat) (x0 : Nat) (hx0 : (7, x0) ∈ ids) (x1 : Int32) (x2 : Int32) {z : St} {r : Int32} {z' : St} (hW : zWf ids z) (h : fX7_begin N x0 x1 x2 z = some (r, z')) : zM l yX7_begin (zws yX7_begin cX7_begin 3 none) rmX7_begin D cy B ids [.ref (B 7 x0), .int x1, .int x2] none True z z' :=
  zM_of hst hW (by decide +kernel) (Nat.le_of_ble_eq_true rfl) (fun p e s m args below meth c A ls F hA hret hlocks hr hl => bX7_begin_0 hst F hA (zEnd_v F hret hlocks) x0 x1 x2 hx0 hr hl h)
abbrev rmX7_put2 : Room := { frames := 0, cells := 0, slots := 0, locals := 0 }
theorem hdX7_put2 : yX7_put2.cls ≠ "java/lang/invoke/MethodHandle" ∧ yX7_put2.cls ≠ "java/lang/invoke/VarHandle" ∧ (parseMethodDescriptor yX7_put2.desc).map (fun d => d.parameters.length) = some 2 := by decide +kernel
section SX7_put2
variable {p : Program} {l : Launch} {e : Env} {s : State} {m : MethodId} {args : Array Value} {below : List Frame} {meth : Method} {c : Code} {Q : State → Prop} {D : va_G} {cy : Nat → ClassId} {B : Nat → Nat → Nat} {ids : List (Nat × Nat)} {A : Nat → Prop}
def fX7_put2 (N : Nat)  (x0 : Nat) (x1 : Int32) (x2 : Int32) (z : St) : Option (Int32 × St) := if x1 < 0 then (some (0, z)) else (if (x1 + (2 : Int32)) ≤ (1480 : Int32) then (zk x1 1480 <| zl (zsA z 125 x0 (Int32.toNatClampNeg x1) (vp_nar .byte ((Int32.toInt8 (x2 >>> ((8 : Int32) &&& 31))).toInt32))) fun z4 => zk (x1 + (1 : Int32)) 1480 <| zl (zsA z4 125 x0 (Int32.toNatClampNeg (x1 + (1 : Int32))) (vp_nar .byte ((Int32.toInt8 x2).toInt32))) fun z6 => some (0, z6)) else (some (0, z)))
set_option maxHeartbeats 4000000 in
set_option maxRecDepth 100000 in
theorem bX7_put2_0 (hst : zSt B ids) (F : zFx p m c cX7_put2 3 s args RX7 D cy B ids A) (hA : ∀ q : Nat, s.heap.size ≤ q → A q) {r : Int32} {z' : St} (E : zEnd p l e rmX7_put2 s m args below meth c cX7_put2 D cy B ids A Q none z' .return_ True) {N : Nat}  (x0 : Nat) (x1 : Int32) (x2 : Int32) (hx0 : (7, x0) ∈ ids) {z : St} {H : Heap} {locs : List Loc} {ls : Array Slot} (hr : zRep D cy B ids A s.heap z H locs) (hl : lv_has ls 3 [(0, .ref (B 7 x0)), (1, .int x1), (2, .int x2)]) (h : fX7_put2 N x0 x1 x2 z = some (r, z')) : W p l e rmX7_put2 s m args below meth c H locs 0 0 Q (F0 m 0 ls []) := by
  unfold fX7_put2 at h
  refine lv_iload_n F.1 F.2.1 dX7_put2_0 rfl (lv_at hl 1 rfl) ?_
  refine lv_if_lt (tgt := 13) F.1 F.2.1 dX7_put2_1 (by decide) (fun c1 => ?_) (fun c1 => ?_)
  · replace h := zi_t c1 h
    obtain ⟨rfl, rfl⟩ := zret h
    exact E _ _ _ _ dX7_put2_13 trivial hr
  · replace h := zi_f c1 h
    refine lv_iload_n F.1 F.2.1 dX7_put2_4 rfl (lv_at hl 1 rfl) ?_
    refine lv_iconst (v := (2 : Int32)) F.1 F.2.1 dX7_put2_5 (by decide) ?_
    refine lv_iadd F.1 F.2.1 dX7_put2_6 ?_
    refine lv_sipush (v := (1480 : Int32)) F.1 F.2.1 dX7_put2_7 (by decide) ?_
    refine lv_icmp_le (tgt := 14) F.1 F.2.1 dX7_put2_10 (by decide) (fun c2 => ?_) (fun c2 => ?_)
    · replace h := zi_t c2 h
      refine lv_aload_n F.1 F.2.1 dX7_put2_14 rfl (lv_at hl 0 rfl) ?_
      refine gf7_9 F hx0 hr dX7_put2_15 ?_
      refine lv_iload_n F.1 F.2.1 dX7_put2_18 rfl (lv_at hl 1 rfl) ?_
      refine lv_iload_n F.1 F.2.1 dX7_put2_19 rfl (lv_at hl 2 rfl) ?_
      refine lv_bipush (v := (8 : Int32)) F.1 F.2.1 dX7_put2_20 (by decide) ?_
      refine lv_ishr F.1 F.2.1 dX7_put2_22 ?_
      refine lv_i2b F.1 F.2.1 dX7_put2_23 rfl ?_
      replace h := zk_some h
      obtain ⟨c3, h⟩ := h
      refine zr_bast (k := 125) (by decide) rfl (by decide) F (zal_a F hx0 (j := 8) rfl) hr dX7_put2_24 c3 (fun H locs z4 ez4 hr => ?_)
      replace h := zl_sub ez4 h
      clear ez4
      refine lv_aload_n F.1 F.2.1 dX7_put2_25 rfl (lv_at hl 0 rfl) ?_
      refine gf7_9 F hx0 hr dX7_put2_26 ?_
      refine lv_iload_n F.1 F.2.1 dX7_put2_29 rfl (lv_at hl 1 rfl) ?_
      refine lv_iconst (v := (1 : Int32)) F.1 F.2.1 dX7_put2_30 (by decide) ?_
      refine lv_iadd F.1 F.2.1 dX7_put2_31 ?_
      refine lv_iload_n F.1 F.2.1 dX7_put2_32 rfl (lv_at hl 2 rfl) ?_
      refine lv_i2b F.1 F.2.1 dX7_put2_33 rfl ?_
      replace h := zk_some h
      obtain ⟨c5, h⟩ := h
      refine zr_bast (k := 125) (by decide) rfl (by decide) F (zal_a F hx0 (j := 8) rfl) hr dX7_put2_34 c5 (fun H locs z6 ez6 hr => ?_)
      replace h := zl_sub ez6 h
      clear ez6
      obtain ⟨rfl, rfl⟩ := zret h
      exact E _ _ _ _ dX7_put2_35 trivial hr
    · replace h := zi_f c2 h
      obtain ⟨rfl, rfl⟩ := zret h
      exact E _ _ _ _ dX7_put2_13 trivial hr
end SX7_put2
set_option maxRecDepth 100000 in
theorem okX7_put2 (l : Launch) (D : va_G) (cy : Nat → ClassId) (B : Nat → Nat → Nat) (ids : List (Nat × Nat)) (hst : zSt B ids) (N : Nat) (x0 : Nat) (hx0 : (7, x0) ∈ ids) (x1 : Int32) (x2 : Int32) {z : St} {r : Int32} {z' : St} (hW : zWf ids z) (h : fX7_put2 N x0 x1 x2 z = some (r, z')) : zM l yX7_put2 (zws yX7_put2 cX7_put2 3 none) rmX7_put2 D cy B ids [.ref (B 7 x0), .int x1, .int x2] none True z z' :=
  zM_of hst hW (by decide +kernel) (Nat.le_of_ble_eq_true rfl) (fun p e s m args below meth c A ls F hA hret hlocks hr hl => bX7_put2_0 hst F hA (zEnd_v F hret hlocks) x0 x1 x2 hx0 hr hl h)
abbrev rmX7_put4 : Room := { frames := 0, cells := 0, slots := 0, locals := 0 }
theorem hdX7_put4 : yX7_put4.cls ≠ "java/lang/invoke/MethodHandle" ∧ yX7_put4.cls ≠ "java/lang/invoke/VarHandle" ∧ (parseMethodDescriptor yX7_put4.desc).map (fun d => d.parameters.length) = some 2 := by decide +kernel
section SX7_put4
variable {p : Program} {l : Launch} {e : Env} {s : State} {m : MethodId} {args : Array Value} {below : List Frame} {meth : Method} {c : Code} {Q : State → Prop} {D : va_G} {cy : Nat → ClassId} {B : Nat → Nat → Nat} {ids : List (Nat × Nat)} {A : Nat → Prop}
def fX7_put4_16b (N : Nat) (K16 : Nat → Int32 → Int32 → Int32 → St → Option (Int32 × St)) (x0 : Nat) (x1 : Int32) (x2 : Int32) (x3 : Int32) (z : St) : Option (Int32 × St) := if (4 : Int32) ≤ x3 then (some (0, z)) else (zk (x1 + x3) 1480 <| zl (zsA z 125 x0 (Int32.toNatClampNeg (x1 + x3)) (vp_nar .byte ((Int32.toInt8 (x2 >>> (((24 : Int32) - ((8 : Int32) * x3)) &&& 31))).toInt32))) fun z3 => zl (x3 + 1) fun v4 => K16 x0 x1 x2 v4 z3)
def fX7_put4_16 (N : Nat)  : Nat → Nat → Int32 → Int32 → Int32 → St → Option (Int32 × St)
  | 0 => fun _ _ _ _ _ => none
  | n + 1 => fX7_put4_16b N (fX7_put4_16 N  n)
set_option maxHeartbeats 4000000 in
set_option maxRecDepth 100000 in
theorem bX7_put4_16 (hst : zSt B ids) (F : zFx p m c cX7_put4 4 s args RX7 D cy B ids A) (hA : ∀ q : Nat, s.heap.size ≤ q → A q) {r : Int32} {z' : St} (E : zEnd p l e rmX7_put4 s m args below meth c cX7_put4 D cy B ids A Q none z' .return_ True) {N : Nat} {K16 : Nat → Int32 → Int32 → Int32 → St → Option (Int32 × St)} (hK16 : ∀ (x0 : Nat) (x1 : Int32) (x2 : Int32) (x3 : Int32) (hx0 : (7, x0) ∈ ids) {z : St} {H : Heap} {locs : List Loc} {ls : Array Slot} (hr : zRep D cy B ids A s.heap z H locs) (hl : lv_has ls 4 [(0, .ref (B 7 x0)), (1, .int x1), (2, .int x2), (3, .int x3)]), K16 x0 x1 x2 x3 z = some (r, z') → W p l e rmX7_put4 s m args below meth c H locs 0 0 Q (F0 m 16 ls [])) (x0 : Nat) (x1 : Int32) (x2 : Int32) (x3 : Int32) (hx0 : (7, x0) ∈ ids) {z : St} {H : Heap} {locs : List Loc} {ls : Array Slot} (hr : zRep D cy B ids A s.heap z H locs) (hl : lv_has ls 4 [(0, .ref (B 7 x0)), (1, .int x1), (2, .int x2), (3, .int x3)]) (h : fX7_put4_16b N K16 x0 x1 x2 x3 z = some (r, z')) : W p l e rmX7_put4 s m args below meth c H locs 0 0 Q (F0 m 16 ls []) := by
  unfold fX7_put4_16b at h
  refine lv_iload_n F.1 F.2.1 dX7_put4_16 rfl (lv_at hl 3 rfl) ?_
  refine lv_iconst (v := (4 : Int32)) F.1 F.2.1 dX7_put4_17 (by decide) ?_
  refine lv_icmp_ge (tgt := 45) F.1 F.2.1 dX7_put4_18 (by decide) (fun c1 => ?_) (fun c1 => ?_)
  · replace h := zi_t c1 h
    obtain ⟨rfl, rfl⟩ := zret h
    exact E _ _ _ _ dX7_put4_45 trivial hr
  · replace h := zi_f c1 h
    refine lv_aload_n F.1 F.2.1 dX7_put4_21 rfl (lv_at hl 0 rfl) ?_
    refine gf7_9 F hx0 hr dX7_put4_22 ?_
    refine lv_iload_n F.1 F.2.1 dX7_put4_25 rfl (lv_at hl 1 rfl) ?_
    refine lv_iload_n F.1 F.2.1 dX7_put4_26 rfl (lv_at hl 3 rfl) ?_
    refine lv_iadd F.1 F.2.1 dX7_put4_27 ?_
    refine lv_iload_n F.1 F.2.1 dX7_put4_28 rfl (lv_at hl 2 rfl) ?_
    refine lv_bipush (v := (24 : Int32)) F.1 F.2.1 dX7_put4_29 (by decide) ?_
    refine lv_bipush (v := (8 : Int32)) F.1 F.2.1 dX7_put4_31 (by decide) ?_
    refine lv_iload_n F.1 F.2.1 dX7_put4_33 rfl (lv_at hl 3 rfl) ?_
    refine lv_imul F.1 F.2.1 dX7_put4_34 ?_
    refine lv_isub F.1 F.2.1 dX7_put4_35 ?_
    refine lv_ishr F.1 F.2.1 dX7_put4_36 ?_
    refine lv_i2b F.1 F.2.1 dX7_put4_37 rfl ?_
    replace h := zk_some h
    obtain ⟨c2, h⟩ := h
    refine zr_bast (k := 125) (by decide) rfl (by decide) F (zal_a F hx0 (j := 8) rfl) hr dX7_put4_38 c2 (fun H locs z3 ez3 hr => ?_)
    replace h := zl_sub ez3 h
    clear ez3
    obtain ⟨v4, ev4⟩ : ∃ y : Int32, y = (x3 + 1) := ⟨_, rfl⟩
    replace h := zl_sub ev4 h
    refine lv_iinc (v := v4) (lv' := [(3, .int v4), (0, .ref (B 7 x0)), (1, .int x1), (2, .int x2)]) F.1 F.2.1 dX7_put4_39 hl (k := 3) rfl (by rw [ev4]; rfl) (by decide) rfl (fun ls hl => ?_)
    refine lv_goto (tgt := 16) F.1 F.2.1 dX7_put4_42 (by decide) ?_
    exact hK16 x0 x1 x2 v4 hx0 hr (lv_sub hl [1, 2, 3, 0] rfl) h
theorem lX7_put4_16 (hst : zSt B ids) (F : zFx p m c cX7_put4 4 s args RX7 D cy B ids A) (hA : ∀ q : Nat, s.heap.size ≤ q → A q) {r : Int32} {z' : St} (E : zEnd p l e rmX7_put4 s m args below meth c cX7_put4 D cy B ids A Q none z' .return_ True) {N : Nat}  : ∀ (n : Nat) (x0 : Nat) (x1 : Int32) (x2 : Int32) (x3 : Int32) (hx0 : (7, x0) ∈ ids) {z : St} {H : Heap} {locs : List Loc} {ls : Array Slot} (hr : zRep D cy B ids A s.heap z H locs) (hl : lv_has ls 4 [(0, .ref (B 7 x0)), (1, .int x1), (2, .int x2), (3, .int x3)]), fX7_put4_16 N  n x0 x1 x2 x3 z = some (r, z') → W p l e rmX7_put4 s m args below meth c H locs 0 0 Q (F0 m 16 ls []) := by
  intro n
  induction n with
  | zero => intro x0 x1 x2 x3 hx0 z H locs ls hr hl h; cases h
  | succ n ih => intro x0 x1 x2 x3 hx0 z H locs ls hr hl h; exact bX7_put4_16 hst F hA E ih x0 x1 x2 x3 hx0 hr hl h
def fX7_put4 (N : Nat)  (x0 : Nat) (x1 : Int32) (x2 : Int32) (z : St) : Option (Int32 × St) := if x1 < 0 then (some (0, z)) else (if (x1 + (4 : Int32)) ≤ (1480 : Int32) then (fX7_put4_16 N N x0 x1 x2 (0 : Int32) z) else (some (0, z)))
set_option maxHeartbeats 4000000 in
set_option maxRecDepth 100000 in
theorem bX7_put4_0 (hst : zSt B ids) (F : zFx p m c cX7_put4 4 s args RX7 D cy B ids A) (hA : ∀ q : Nat, s.heap.size ≤ q → A q) {r : Int32} {z' : St} (E : zEnd p l e rmX7_put4 s m args below meth c cX7_put4 D cy B ids A Q none z' .return_ True) {N : Nat}  (x0 : Nat) (x1 : Int32) (x2 : Int32) (hx0 : (7, x0) ∈ ids) {z : St} {H : Heap} {locs : List Loc} {ls : Array Slot} (hr : zRep D cy B ids A s.heap z H locs) (hl : lv_has ls 4 [(0, .ref (B 7 x0)), (1, .int x1), (2, .int x2)]) (h : fX7_put4 N x0 x1 x2 z = some (r, z')) : W p l e rmX7_put4 s m args below meth c H locs 0 0 Q (F0 m 0 ls []) := by
  unfold fX7_put4 at h
  refine lv_iload_n F.1 F.2.1 dX7_put4_0 rfl (lv_at hl 1 rfl) ?_
  refine lv_if_lt (tgt := 13) F.1 F.2.1 dX7_put4_1 (by decide) (fun c1 => ?_) (fun c1 => ?_)
  · replace h := zi_t c1 h
    obtain ⟨rfl, rfl⟩ := zret h
    exact E _ _ _ _ dX7_put4_13 trivial hr
  · replace h := zi_f c1 h
    refine lv_iload_n F.1 F.2.1 dX7_put4_4 rfl (lv_at hl 1 rfl) ?_
    refine lv_iconst (v := (4 : Int32)) F.1 F.2.1 dX7_put4_5 (by decide) ?_
    refine lv_iadd F.1 F.2.1 dX7_put4_6 ?_
    refine lv_sipush (v := (1480 : Int32)) F.1 F.2.1 dX7_put4_7 (by decide) ?_
    refine lv_icmp_le (tgt := 14) F.1 F.2.1 dX7_put4_10 (by decide) (fun c2 => ?_) (fun c2 => ?_)
    · replace h := zi_t c2 h
      refine lv_iconst (v := (0 : Int32)) F.1 F.2.1 dX7_put4_14 (by decide) ?_
      refine lv_istore_n (lv' := [(3, .int (0 : Int32)), (0, .ref (B 7 x0)), (1, .int x1), (2, .int x2)]) F.1 F.2.1 dX7_put4_15 rfl hl (by decide) rfl (fun ls hl => ?_)
      exact lX7_put4_16 hst F hA E  _ x0 x1 x2 (0 : Int32) hx0 hr (lv_sub hl [1, 2, 3, 0] rfl) h
    · replace h := zi_f c2 h
      obtain ⟨rfl, rfl⟩ := zret h
      exact E _ _ _ _ dX7_put4_13 trivial hr
end SX7_put4
set_option maxRecDepth 100000 in
theorem okX7_put4 (l : Launch) (D : va_G) (cy : Nat → ClassId) (B : Nat → Nat → Nat) (ids : List (Nat × Nat)) (hst : zSt B ids) (N : Nat) (x0 : Nat) (hx0 : (7, x0) ∈ ids) (x1 : Int32) (x2 : Int32) {z : St} {r : Int32} {z' : St} (hW : zWf ids z) (h : fX7_put4 N x0 x1 x2 z = some (r, z')) : zM l yX7_put4 (zws yX7_put4 cX7_put4 4 none) rmX7_put4 D cy B ids [.ref (B 7 x0), .int x1, .int x2] none True z z' :=
  zM_of hst hW (by decide +kernel) (Nat.le_of_ble_eq_true rfl) (fun p e s m args below meth c A ls F hA hret hlocks hr hl => bX7_put4_0 hst F hA (zEnd_v F hret hlocks) x0 x1 x2 hx0 hr hl h)
abbrev rmX0_putAdvert : Room := { frames := 1, cells := 0, slots := 0, locals := 23 }
theorem hdX0_putAdvert : yX0_putAdvert.cls ≠ "java/lang/invoke/MethodHandle" ∧ yX0_putAdvert.cls ≠ "java/lang/invoke/VarHandle" ∧ (parseMethodDescriptor yX0_putAdvert.desc).map (fun d => d.parameters.length) = some 2 := by decide +kernel
theorem hroX0_putAdvert_X0_friendOf : rmX0_friendOf.frames + 1 ≤ rmX0_putAdvert.frames ∧ 8 + (1 + 11) + rmX0_friendOf.locals ≤ rmX0_putAdvert.locals := by decide
theorem hroX0_putAdvert_X0_netOfEntry : rmX0_netOfEntry.frames + 1 ≤ rmX0_putAdvert.frames ∧ 8 + (1 + 11) + rmX0_netOfEntry.locals ≤ rmX0_putAdvert.locals := by decide
theorem hroX0_putAdvert_X0_tollOf : rmX0_tollOf.frames + 1 ≤ rmX0_putAdvert.frames ∧ 8 + (1 + 11) + rmX0_tollOf.locals ≤ rmX0_putAdvert.locals := by decide
theorem hroX0_putAdvert_X7_begin : rmX7_begin.frames + 1 ≤ rmX0_putAdvert.frames ∧ 8 + (3 + 11) + rmX7_begin.locals ≤ rmX0_putAdvert.locals := by decide
theorem hroX0_putAdvert_X7_put2 : rmX7_put2.frames + 1 ≤ rmX0_putAdvert.frames ∧ 8 + (3 + 11) + rmX7_put2.locals ≤ rmX0_putAdvert.locals := by decide
theorem hroX0_putAdvert_X7_put4 : rmX7_put4.frames + 1 ≤ rmX0_putAdvert.frames ∧ 8 + (4 + 11) + rmX7_put4.locals ≤ rmX0_putAdvert.locals := by decide
section SX0_putAdvert
variable {p : Program} {l : Launch} {e : Env} {s : State} {m : MethodId} {args : Array Value} {below : List Frame} {meth : Method} {c : Code} {Q : State → Prop} {D : va_G} {cy : Nat → ClassId} {B : Nat → Nat → Nat} {ids : List (Nat × Nat)} {A : Nat → Prop}
def fX0_putAdvert_48b (N : Nat) (K48 : Nat → Nat → Int32 → Int32 → St → Option (Int32 × St)) (x0 : Nat) (x1 : Nat) (x2 : Int32) (x3 : Int32) (z : St) : Option (Int32 × St) := zk x2 16 <| if (zgA z 102 x0 (Int32.toNatClampNeg x2)) ≤ x3 then (some (0, z)) else (zl ((12 : Int32) + ((6 : Int32) * x3)) fun v3 => zk x2 16 <| zk x3 24 <| zc (fX0_friendOf N (zgA z 104 (x0 * 16 + (Int32.toNatClampNeg x2)) (Int32.toNatClampNeg x3)) z) fun r6 z7 => zc (fX7_put2 N x1 v3 (r6 + (1 : Int32)) z7) fun _ z11 => zk x2 16 <| zk x3 24 <| zc (fX0_netOfEntry N (zgA z11 104 (x0 * 16 + (Int32.toNatClampNeg x2)) (Int32.toNatClampNeg x3)) z11) fun r16 z17 => zc (fX7_put2 N x1 (v3 + (2 : Int32)) r16 z17) fun _ z21 => zk x2 16 <| zk x3 24 <| zc (fX0_tollOf N (zgA z21 104 (x0 * 16 + (Int32.toNatClampNeg x2)) (Int32.toNatClampNeg x3)) z21) fun r26 z27 => zc (fX7_put2 N x1 (v3 + (4 : Int32)) r26 z27) fun _ z31 => zl (x3 + 1) fun v34 => K48 x0 x1 x2 v34 z31)
def fX0_putAdvert_48 (N : Nat)  : Nat → Nat → Nat → Int32 → Int32 → St → Option (Int32 × St)
  | 0 => fun _ _ _ _ _ => none
  | n + 1 => fX0_putAdvert_48b N (fX0_putAdvert_48 N  n)
set_option maxHeartbeats 4000000 in
set_option maxRecDepth 100000 in
theorem bX0_putAdvert_48 (hst : zSt B ids) (F : zFx p m c cX0_putAdvert 5 s args RX0 D cy B ids A) (hA : ∀ q : Nat, s.heap.size ≤ q → A q) {r : Int32} {z' : St} (E : zEnd p l e rmX0_putAdvert s m args below meth c cX0_putAdvert D cy B ids A Q none z' .return_ True) {N : Nat} {K48 : Nat → Nat → Int32 → Int32 → St → Option (Int32 × St)} (hK48 : ∀ (x0 : Nat) (x1 : Nat) (x2 : Int32) (x3 : Int32) (hx0 : (0, x0) ∈ ids) (hx1 : (7, x1) ∈ ids) {z : St} {H : Heap} {locs : List Loc} {ls : Array Slot} (hr : zRep D cy B ids A s.heap z H locs) (hl : lv_has ls 5 [(0, .ref (B 0 x0)), (1, .ref (B 7 x1)), (2, .int x2), (3, .int x3)]), K48 x0 x1 x2 x3 z = some (r, z') → W p l e rmX0_putAdvert s m args below meth c H locs 0 0 Q (F0 m 48 ls [])) (x0 : Nat) (x1 : Nat) (x2 : Int32) (x3 : Int32) (hx0 : (0, x0) ∈ ids) (hx1 : (7, x1) ∈ ids) {z : St} {H : Heap} {locs : List Loc} {ls : Array Slot} (hr : zRep D cy B ids A s.heap z H locs) (hl : lv_has ls 5 [(0, .ref (B 0 x0)), (1, .ref (B 7 x1)), (2, .int x2), (3, .int x3)]) (h : fX0_putAdvert_48b N K48 x0 x1 x2 x3 z = some (r, z')) : W p l e rmX0_putAdvert s m args below meth c H locs 0 0 Q (F0 m 48 ls []) := by
  unfold fX0_putAdvert_48b at h
  refine lv_iload_n F.1 F.2.1 dX0_putAdvert_48 rfl (lv_at hl 3 rfl) ?_
  refine lv_aload_n F.1 F.2.1 dX0_putAdvert_49 rfl (lv_at hl 0 rfl) ?_
  refine gf0_18 F hx0 hr dX0_putAdvert_50 ?_
  refine lv_iload_n F.1 F.2.1 dX0_putAdvert_53 rfl (lv_at hl 2 rfl) ?_
  replace h := zk_some h
  obtain ⟨c1, h⟩ := h
  refine zr_iald (k := 102) (by decide) rfl (by decide) F (zal_a F hx0 (j := 3) rfl) hr dX0_putAdvert_54 c1 ?_
  refine lv_icmp_ge (tgt := 130) F.1 F.2.1 dX0_putAdvert_55 (by decide) (fun c2 => ?_) (fun c2 => ?_)
  · replace h := zi_t c2 h
    obtain ⟨rfl, rfl⟩ := zret h
    exact E _ _ _ _ dX0_putAdvert_130 trivial hr
  · replace h := zi_f c2 h
    refine lv_bipush (v := (12 : Int32)) F.1 F.2.1 dX0_putAdvert_58 (by decide) ?_
    refine lv_bipush (v := (6 : Int32)) F.1 F.2.1 dX0_putAdvert_60 (by decide) ?_
    refine lv_iload_n F.1 F.2.1 dX0_putAdvert_62 rfl (lv_at hl 3 rfl) ?_
    refine lv_imul F.1 F.2.1 dX0_putAdvert_63 ?_
    refine lv_iadd F.1 F.2.1 dX0_putAdvert_64 ?_
    refine lv_topi (fun v3 ev3 => ?_)
    replace h := zl_sub ev3 h
    refine lv_istore (lv' := [(4, .int v3), (0, .ref (B 0 x0)), (1, .ref (B 7 x1)), (2, .int x2), (3, .int x3)]) F.1 F.2.1 dX0_putAdvert_65 hl (by decide) rfl (fun ls hl => ?_)
    refine lv_aload_n F.1 F.2.1 dX0_putAdvert_67 rfl (lv_at hl 2 rfl) ?_
    refine lv_iload F.1 F.2.1 dX0_putAdvert_68 (lv_at hl 0 rfl) ?_
    refine lv_aload_n F.1 F.2.1 dX0_putAdvert_70 rfl (lv_at hl 1 rfl) ?_
    refine gf0_23 F hx0 hr dX0_putAdvert_71 ?_
    refine lv_iload_n F.1 F.2.1 dX0_putAdvert_74 rfl (lv_at hl 3 rfl) ?_
    replace h := zk_some h
    obtain ⟨c4, h⟩ := h
    refine zr_rald (k := 103) (by decide) rfl (by decide) rfl F (zal_a F hx0 (j := 4) rfl) hr dX0_putAdvert_75 c4 ?_
    refine lv_iload_n F.1 F.2.1 dX0_putAdvert_76 rfl (lv_at hl 4 rfl) ?_
    replace h := zk_some h
    obtain ⟨c5, h⟩ := h
    refine zr_iald (k := 104) (by decide) rfl (by decide) F (zal_w F (zal_a F hx0 (j := 4) rfl) (k := 103) rfl c4) hr dX0_putAdvert_77 c5 ?_
    replace h := zc_some h
    obtain ⟨r6, z7, hc8, h⟩ := h
    refine zr_calli (zrun_S (As := [.int (zgA z 104 (x0 * 16 + (Int32.toNatClampNeg x2)) (Int32.toNatClampNeg x3))]) (rest := [.int v3, .ref (B 7 x1)]) zq_1548 zq_1549 zq_1550 zq_11 hdX0_friendOf (okX0_friendOf l D cy B ids hst N (zgA z 104 (x0 * 16 + (Int32.toNatClampNeg x2)) (Int32.toNatClampNeg x3))  hr.2.2 hc8) F hr hl.1 rfl (Nat.le_of_ble_eq_true rfl) dX0_putAdvert_78 rfl rfl hroX0_putAdvert_X0_friendOf ⟨Nat.zero_le _, Nat.zero_le _⟩) F hA hr (fun H locs hw9 hr => ?_)
    clear hc8
    refine lv_iconst (v := (1 : Int32)) F.1 F.2.1 dX0_putAdvert_81 (by decide) ?_
    refine lv_iadd F.1 F.2.1 dX0_putAdvert_82 ?_
    replace h := zc_some h
    obtain ⟨r10, z11, hc12, h⟩ := h
    refine zr_callv (zrun_VN (As := [.int v3, .int (r6 + (1 : Int32))]) (rest := []) zn_1546 zq_1306 zs_X7_put2 zq_1307 zq_2 hdX7_put2 (by decide) (T := TX7) (N := 20) rfl (okX7_put2 l D cy B ids hst N x1 hx1 v3  (r6 + (1 : Int32))  hr.2.2 hc12) F hr hx1 hl.1 rfl (by decide) dX0_putAdvert_83 rfl rfl hroX0_putAdvert_X7_put2 ⟨Nat.zero_le _, Nat.zero_le _⟩) F hA hr (fun H locs hw13 hr => ?_)
    clear hc12
    refine lv_aload_n F.1 F.2.1 dX0_putAdvert_86 rfl (lv_at hl 2 rfl) ?_
    refine lv_iload F.1 F.2.1 dX0_putAdvert_87 (lv_at hl 0 rfl) ?_
    refine lv_iconst (v := (2 : Int32)) F.1 F.2.1 dX0_putAdvert_89 (by decide) ?_
    refine lv_iadd F.1 F.2.1 dX0_putAdvert_90 ?_
    refine lv_aload_n F.1 F.2.1 dX0_putAdvert_91 rfl (lv_at hl 1 rfl) ?_
    refine gf0_23 F hx0 hr dX0_putAdvert_92 ?_
    refine lv_iload_n F.1 F.2.1 dX0_putAdvert_95 rfl (lv_at hl 3 rfl) ?_
    replace h := zk_some h
    obtain ⟨c14, h⟩ := h
    refine zr_rald (k := 103) (by decide) rfl (by decide) rfl F (zal_a F hx0 (j := 4) rfl) hr dX0_putAdvert_96 c14 ?_
    refine lv_iload_n F.1 F.2.1 dX0_putAdvert_97 rfl (lv_at hl 4 rfl) ?_
    replace h := zk_some h
    obtain ⟨c15, h⟩ := h
    refine zr_iald (k := 104) (by decide) rfl (by decide) F (zal_w F (zal_a F hx0 (j := 4) rfl) (k := 103) rfl c14) hr dX0_putAdvert_98 c15 ?_
    replace h := zc_some h
    obtain ⟨r16, z17, hc18, h⟩ := h
    refine zr_calli (zrun_S (As := [.int (zgA z11 104 (x0 * 16 + (Int32.toNatClampNeg x2)) (Int32.toNatClampNeg x3))]) (rest := [.int (v3 + (2 : Int32)), .ref (B 7 x1)]) zq_1551 zq_1552 zq_1553 zq_11 hdX0_netOfEntry (okX0_netOfEntry l D cy B ids hst N (zgA z11 104 (x0 * 16 + (Int32.toNatClampNeg x2)) (Int32.toNatClampNeg x3))  hr.2.2 hc18) F hr hl.1 rfl (Nat.le_of_ble_eq_true rfl) dX0_putAdvert_99 rfl rfl hroX0_putAdvert_X0_netOfEntry ⟨Nat.zero_le _, Nat.zero_le _⟩) F hA hr (fun H locs hw19 hr => ?_)
    clear hc18
    replace h := zc_some h
    obtain ⟨r20, z21, hc22, h⟩ := h
    refine zr_callv (zrun_VN (As := [.int (v3 + (2 : Int32)), .int r16]) (rest := []) zn_1546 zq_1306 zs_X7_put2 zq_1307 zq_2 hdX7_put2 (by decide) (T := TX7) (N := 20) rfl (okX7_put2 l D cy B ids hst N x1 hx1 (v3 + (2 : Int32))  r16  hr.2.2 hc22) F hr hx1 hl.1 rfl (by decide) dX0_putAdvert_102 rfl rfl hroX0_putAdvert_X7_put2 ⟨Nat.zero_le _, Nat.zero_le _⟩) F hA hr (fun H locs hw23 hr => ?_)
    clear hc22
    refine lv_aload_n F.1 F.2.1 dX0_putAdvert_105 rfl (lv_at hl 2 rfl) ?_
    refine lv_iload F.1 F.2.1 dX0_putAdvert_106 (lv_at hl 0 rfl) ?_
    refine lv_iconst (v := (4 : Int32)) F.1 F.2.1 dX0_putAdvert_108 (by decide) ?_
    refine lv_iadd F.1 F.2.1 dX0_putAdvert_109 ?_
    refine lv_aload_n F.1 F.2.1 dX0_putAdvert_110 rfl (lv_at hl 1 rfl) ?_
    refine gf0_23 F hx0 hr dX0_putAdvert_111 ?_
    refine lv_iload_n F.1 F.2.1 dX0_putAdvert_114 rfl (lv_at hl 3 rfl) ?_
    replace h := zk_some h
    obtain ⟨c24, h⟩ := h
    refine zr_rald (k := 103) (by decide) rfl (by decide) rfl F (zal_a F hx0 (j := 4) rfl) hr dX0_putAdvert_115 c24 ?_
    refine lv_iload_n F.1 F.2.1 dX0_putAdvert_116 rfl (lv_at hl 4 rfl) ?_
    replace h := zk_some h
    obtain ⟨c25, h⟩ := h
    refine zr_iald (k := 104) (by decide) rfl (by decide) F (zal_w F (zal_a F hx0 (j := 4) rfl) (k := 103) rfl c24) hr dX0_putAdvert_117 c25 ?_
    replace h := zc_some h
    obtain ⟨r26, z27, hc28, h⟩ := h
    refine zr_calli (zrun_S (As := [.int (zgA z21 104 (x0 * 16 + (Int32.toNatClampNeg x2)) (Int32.toNatClampNeg x3))]) (rest := [.int (v3 + (4 : Int32)), .ref (B 7 x1)]) zq_1554 zq_1555 zq_1556 zq_11 hdX0_tollOf (okX0_tollOf l D cy B ids hst N (zgA z21 104 (x0 * 16 + (Int32.toNatClampNeg x2)) (Int32.toNatClampNeg x3))  hr.2.2 hc28) F hr hl.1 rfl (Nat.le_of_ble_eq_true rfl) dX0_putAdvert_118 rfl rfl hroX0_putAdvert_X0_tollOf ⟨Nat.zero_le _, Nat.zero_le _⟩) F hA hr (fun H locs hw29 hr => ?_)
    clear hc28
    replace h := zc_some h
    obtain ⟨r30, z31, hc32, h⟩ := h
    refine zr_callv (zrun_VN (As := [.int (v3 + (4 : Int32)), .int r26]) (rest := []) zn_1546 zq_1306 zs_X7_put2 zq_1307 zq_2 hdX7_put2 (by decide) (T := TX7) (N := 20) rfl (okX7_put2 l D cy B ids hst N x1 hx1 (v3 + (4 : Int32))  r26  hr.2.2 hc32) F hr hx1 hl.1 rfl (by decide) dX0_putAdvert_121 rfl rfl hroX0_putAdvert_X7_put2 ⟨Nat.zero_le _, Nat.zero_le _⟩) F hA hr (fun H locs hw33 hr => ?_)
    clear hc32
    obtain ⟨v34, ev34⟩ : ∃ y : Int32, y = (x3 + 1) := ⟨_, rfl⟩
    replace h := zl_sub ev34 h
    refine lv_iinc (v := v34) (lv' := [(3, .int v34), (4, .int v3), (0, .ref (B 0 x0)), (1, .ref (B 7 x1)), (2, .int x2)]) F.1 F.2.1 dX0_putAdvert_124 hl (k := 4) rfl (by rw [ev34]; rfl) (by decide) rfl (fun ls hl => ?_)
    refine lv_goto (tgt := 48) F.1 F.2.1 dX0_putAdvert_127 (by decide) ?_
    exact hK48 x0 x1 x2 v34 hx0 hx1 hr (lv_sub hl [2, 3, 4, 0] rfl) h
theorem lX0_putAdvert_48 (hst : zSt B ids) (F : zFx p m c cX0_putAdvert 5 s args RX0 D cy B ids A) (hA : ∀ q : Nat, s.heap.size ≤ q → A q) {r : Int32} {z' : St} (E : zEnd p l e rmX0_putAdvert s m args below meth c cX0_putAdvert D cy B ids A Q none z' .return_ True) {N : Nat}  : ∀ (n : Nat) (x0 : Nat) (x1 : Nat) (x2 : Int32) (x3 : Int32) (hx0 : (0, x0) ∈ ids) (hx1 : (7, x1) ∈ ids) {z : St} {H : Heap} {locs : List Loc} {ls : Array Slot} (hr : zRep D cy B ids A s.heap z H locs) (hl : lv_has ls 5 [(0, .ref (B 0 x0)), (1, .ref (B 7 x1)), (2, .int x2), (3, .int x3)]), fX0_putAdvert_48 N  n x0 x1 x2 x3 z = some (r, z') → W p l e rmX0_putAdvert s m args below meth c H locs 0 0 Q (F0 m 48 ls []) := by
  intro n
  induction n with
  | zero => intro x0 x1 x2 x3 hx0 hx1 z H locs ls hr hl h; cases h
  | succ n ih => intro x0 x1 x2 x3 hx0 hx1 z H locs ls hr hl h; exact bX0_putAdvert_48 hst F hA E ih x0 x1 x2 x3 hx0 hx1 hr hl h
def fX0_putAdvert (N : Nat)  (x0 : Nat) (x1 : Nat) (x2 : Int32) (z : St) : Option (Int32 × St) := zk x2 16 <| zc (fX7_begin N x1 (3 : Int32) ((12 : Int32) + ((6 : Int32) * (zgA z 102 x0 (Int32.toNatClampNeg x2)))) z) fun _ z3 => zc (fX7_put2 N x1 (0 : Int32) x2 z3) fun _ z7 => zk x2 16 <| zc (fX7_put4 N x1 (2 : Int32) (zgA z7 100 x0 (Int32.toNatClampNeg x2)) z7) fun _ z12 => zk x2 16 <| zc (fX7_put2 N x1 (6 : Int32) (zgA z12 102 x0 (Int32.toNatClampNeg x2)) z12) fun _ z17 => fX0_putAdvert_48 N N x0 x1 x2 (0 : Int32) z17
set_option maxHeartbeats 4000000 in
set_option maxRecDepth 100000 in
theorem bX0_putAdvert_0 (hst : zSt B ids) (F : zFx p m c cX0_putAdvert 5 s args RX0 D cy B ids A) (hA : ∀ q : Nat, s.heap.size ≤ q → A q) {r : Int32} {z' : St} (E : zEnd p l e rmX0_putAdvert s m args below meth c cX0_putAdvert D cy B ids A Q none z' .return_ True) {N : Nat}  (x0 : Nat) (x1 : Nat) (x2 : Int32) (hx0 : (0, x0) ∈ ids) (hx1 : (7, x1) ∈ ids) {z : St} {H : Heap} {locs : List Loc} {ls : Array Slot} (hr : zRep D cy B ids A s.heap z H locs) (hl : lv_has ls 5 [(0, .ref (B 0 x0)), (1, .ref (B 7 x1)), (2, .int x2)]) (h : fX0_putAdvert N x0 x1 x2 z = some (r, z')) : W p l e rmX0_putAdvert s m args below meth c H locs 0 0 Q (F0 m 0 ls []) := by
  unfold fX0_putAdvert at h
  refine lv_aload_n F.1 F.2.1 dX0_putAdvert_0 rfl (lv_at hl 1 rfl) ?_
  refine lv_iconst (v := (3 : Int32)) F.1 F.2.1 dX0_putAdvert_1 (by decide) ?_
  refine lv_bipush (v := (12 : Int32)) F.1 F.2.1 dX0_putAdvert_2 (by decide) ?_
  refine lv_bipush (v := (6 : Int32)) F.1 F.2.1 dX0_putAdvert_4 (by decide) ?_
  refine lv_aload_n F.1 F.2.1 dX0_putAdvert_6 rfl (lv_at hl 0 rfl) ?_
  refine gf0_18 F hx0 hr dX0_putAdvert_7 ?_
  refine lv_iload_n F.1 F.2.1 dX0_putAdvert_10 rfl (lv_at hl 2 rfl) ?_
  replace h := zk_some h
  obtain ⟨c1, h⟩ := h
  refine zr_iald (k := 102) (by decide) rfl (by decide) F (zal_a F hx0 (j := 3) rfl) hr dX0_putAdvert_11 c1 ?_
  refine lv_imul F.1 F.2.1 dX0_putAdvert_12 ?_
  refine lv_iadd F.1 F.2.1 dX0_putAdvert_13 ?_
  replace h := zc_some h
  obtain ⟨r2, z3, hc4, h⟩ := h
  refine zr_callv (zrun_VN (As := [.int (3 : Int32), .int ((12 : Int32) + ((6 : Int32) * (zgA z 102 x0 (Int32.toNatClampNeg x2))))]) (rest := []) zn_1545 zq_1088 zs_X7_begin zq_1089 zq_2 hdX7_begin (by decide) (T := TX7) (N := 20) rfl (okX7_begin l D cy B ids hst N x1 hx1 (3 : Int32)  ((12 : Int32) + ((6 : Int32) * (zgA z 102 x0 (Int32.toNatClampNeg x2))))  hr.2.2 hc4) F hr hx1 hl.1 rfl (by decide) dX0_putAdvert_14 rfl rfl hroX0_putAdvert_X7_begin ⟨Nat.zero_le _, Nat.zero_le _⟩) F hA hr (fun H locs hw5 hr => ?_)
  clear hc4
  refine lv_aload_n F.1 F.2.1 dX0_putAdvert_17 rfl (lv_at hl 1 rfl) ?_
  refine lv_iconst (v := (0 : Int32)) F.1 F.2.1 dX0_putAdvert_18 (by decide) ?_
  refine lv_iload_n F.1 F.2.1 dX0_putAdvert_19 rfl (lv_at hl 2 rfl) ?_
  replace h := zc_some h
  obtain ⟨r6, z7, hc8, h⟩ := h
  refine zr_callv (zrun_VN (As := [.int (0 : Int32), .int x2]) (rest := []) zn_1546 zq_1306 zs_X7_put2 zq_1307 zq_2 hdX7_put2 (by decide) (T := TX7) (N := 20) rfl (okX7_put2 l D cy B ids hst N x1 hx1 (0 : Int32)  x2  hr.2.2 hc8) F hr hx1 hl.1 rfl (by decide) dX0_putAdvert_20 rfl rfl hroX0_putAdvert_X7_put2 ⟨Nat.zero_le _, Nat.zero_le _⟩) F hA hr (fun H locs hw9 hr => ?_)
  clear hc8
  refine lv_aload_n F.1 F.2.1 dX0_putAdvert_23 rfl (lv_at hl 1 rfl) ?_
  refine lv_iconst (v := (2 : Int32)) F.1 F.2.1 dX0_putAdvert_24 (by decide) ?_
  refine lv_aload_n F.1 F.2.1 dX0_putAdvert_25 rfl (lv_at hl 0 rfl) ?_
  refine gf0_9 F hx0 hr dX0_putAdvert_26 ?_
  refine lv_iload_n F.1 F.2.1 dX0_putAdvert_29 rfl (lv_at hl 2 rfl) ?_
  replace h := zk_some h
  obtain ⟨c10, h⟩ := h
  refine zr_iald (k := 100) (by decide) rfl (by decide) F (zal_a F hx0 (j := 1) rfl) hr dX0_putAdvert_30 c10 ?_
  replace h := zc_some h
  obtain ⟨r11, z12, hc13, h⟩ := h
  refine zr_callv (zrun_VN (As := [.int (2 : Int32), .int (zgA z7 100 x0 (Int32.toNatClampNeg x2))]) (rest := []) zn_1547 zq_1302 zs_X7_put4 zq_1303 zq_2 hdX7_put4 (by decide) (T := TX7) (N := 20) rfl (okX7_put4 l D cy B ids hst N x1 hx1 (2 : Int32)  (zgA z7 100 x0 (Int32.toNatClampNeg x2))  hr.2.2 hc13) F hr hx1 hl.1 rfl (by decide) dX0_putAdvert_31 rfl rfl hroX0_putAdvert_X7_put4 ⟨Nat.zero_le _, Nat.zero_le _⟩) F hA hr (fun H locs hw14 hr => ?_)
  clear hc13
  refine lv_aload_n F.1 F.2.1 dX0_putAdvert_34 rfl (lv_at hl 1 rfl) ?_
  refine lv_bipush (v := (6 : Int32)) F.1 F.2.1 dX0_putAdvert_35 (by decide) ?_
  refine lv_aload_n F.1 F.2.1 dX0_putAdvert_37 rfl (lv_at hl 0 rfl) ?_
  refine gf0_18 F hx0 hr dX0_putAdvert_38 ?_
  refine lv_iload_n F.1 F.2.1 dX0_putAdvert_41 rfl (lv_at hl 2 rfl) ?_
  replace h := zk_some h
  obtain ⟨c15, h⟩ := h
  refine zr_iald (k := 102) (by decide) rfl (by decide) F (zal_a F hx0 (j := 3) rfl) hr dX0_putAdvert_42 c15 ?_
  replace h := zc_some h
  obtain ⟨r16, z17, hc18, h⟩ := h
  refine zr_callv (zrun_VN (As := [.int (6 : Int32), .int (zgA z12 102 x0 (Int32.toNatClampNeg x2))]) (rest := []) zn_1546 zq_1306 zs_X7_put2 zq_1307 zq_2 hdX7_put2 (by decide) (T := TX7) (N := 20) rfl (okX7_put2 l D cy B ids hst N x1 hx1 (6 : Int32)  (zgA z12 102 x0 (Int32.toNatClampNeg x2))  hr.2.2 hc18) F hr hx1 hl.1 rfl (by decide) dX0_putAdvert_43 rfl rfl hroX0_putAdvert_X7_put2 ⟨Nat.zero_le _, Nat.zero_le _⟩) F hA hr (fun H locs hw19 hr => ?_)
  clear hc18
  refine lv_iconst (v := (0 : Int32)) F.1 F.2.1 dX0_putAdvert_46 (by decide) ?_
  refine lv_istore_n (lv' := [(3, .int (0 : Int32)), (0, .ref (B 0 x0)), (1, .ref (B 7 x1)), (2, .int x2)]) F.1 F.2.1 dX0_putAdvert_47 rfl hl (by decide) rfl (fun ls hl => ?_)
  exact lX0_putAdvert_48 hst F hA E  _ x0 x1 x2 (0 : Int32) hx0 hx1 hr (lv_sub hl [1, 2, 3, 0] rfl) h
end SX0_putAdvert
set_option maxRecDepth 100000 in
theorem okX0_putAdvert (l : Launch) (D : va_G) (cy : Nat → ClassId) (B : Nat → Nat → Nat) (ids : List (Nat × Nat)) (hst : zSt B ids) (N : Nat) (x0 : Nat) (hx0 : (0, x0) ∈ ids) (x1 : Nat) (hx1 : (7, x1) ∈ ids) (x2 : Int32) {z : St} {r : Int32} {z' : St} (hW : zWf ids z) (h : fX0_putAdvert N x0 x1 x2 z = some (r, z')) : zM l yX0_putAdvert (zws yX0_putAdvert cX0_putAdvert 5 none) rmX0_putAdvert D cy B ids [.ref (B 0 x0), .ref (B 7 x1), .int x2] none True z z' :=
  zM_of hst hW (by decide +kernel) (Nat.le_of_ble_eq_true rfl) (fun p e s m args below meth c A ls F hA hret hlocks hr hl => bX0_putAdvert_0 hst F hA (zEnd_v F hret hlocks) x0 x1 x2 hx0 hx1 hr hl h)
abbrev rmX0_takeOut : Room := { frames := 0, cells := 0, slots := 0, locals := 0 }
theorem hdX0_takeOut : yX0_takeOut.cls ≠ "java/lang/invoke/MethodHandle" ∧ yX0_takeOut.cls ≠ "java/lang/invoke/VarHandle" ∧ (parseMethodDescriptor yX0_takeOut.desc).map (fun d => d.parameters.length) = some 1 := by decide +kernel
section SX0_takeOut
variable {p : Program} {l : Launch} {e : Env} {s : State} {m : MethodId} {args : Array Value} {below : List Frame} {meth : Method} {c : Code} {Q : State → Prop} {D : va_G} {cy : Nat → ClassId} {B : Nat → Nat → Nat} {ids : List (Nat × Nat)} {A : Nat → Prop}
def fX0_takeOut (N : Nat)  (x0 : Nat) (x1 : Int32) (z : St) : Option (Int32 × St) := zk x1 16 <| zl (zsA z 100 x0 (Int32.toNatClampNeg x1) (0 : Int32)) fun z2 => zk x1 16 <| zl (zsA z2 102 x0 (Int32.toNatClampNeg x1) (0 : Int32)) fun z4 => zl (zsI z4 0 9 x0 (1 : Int32)) fun z5 => some (0, z5)
set_option maxHeartbeats 4000000 in
set_option maxRecDepth 100000 in
theorem bX0_takeOut_0 (hst : zSt B ids) (F : zFx p m c cX0_takeOut 2 s args RX0 D cy B ids A) (hA : ∀ q : Nat, s.heap.size ≤ q → A q) {r : Int32} {z' : St} (E : zEnd p l e rmX0_takeOut s m args below meth c cX0_takeOut D cy B ids A Q none z' .return_ True) {N : Nat}  (x0 : Nat) (x1 : Int32) (hx0 : (0, x0) ∈ ids) {z : St} {H : Heap} {locs : List Loc} {ls : Array Slot} (hr : zRep D cy B ids A s.heap z H locs) (hl : lv_has ls 2 [(0, .ref (B 0 x0)), (1, .int x1)]) (h : fX0_takeOut N x0 x1 z = some (r, z')) : W p l e rmX0_takeOut s m args below meth c H locs 0 0 Q (F0 m 0 ls []) := by
  unfold fX0_takeOut at h
  refine lv_aload_n F.1 F.2.1 dX0_takeOut_0 rfl (lv_at hl 0 rfl) ?_
  refine gf0_9 F hx0 hr dX0_takeOut_1 ?_
  refine lv_iload_n F.1 F.2.1 dX0_takeOut_4 rfl (lv_at hl 1 rfl) ?_
  refine lv_iconst (v := (0 : Int32)) F.1 F.2.1 dX0_takeOut_5 (by decide) ?_
  replace h := zk_some h
  obtain ⟨c1, h⟩ := h
  refine zr_iast (k := 100) (by decide) rfl (by decide) F (zal_a F hx0 (j := 1) rfl) hr dX0_takeOut_6 c1 (fun H locs z2 ez2 hr => ?_)
  replace h := zl_sub ez2 h
  clear ez2
  refine lv_aload_n F.1 F.2.1 dX0_takeOut_7 rfl (lv_at hl 0 rfl) ?_
  refine gf0_18 F hx0 hr dX0_takeOut_8 ?_
  refine lv_iload_n F.1 F.2.1 dX0_takeOut_11 rfl (lv_at hl 1 rfl) ?_
  refine lv_iconst (v := (0 : Int32)) F.1 F.2.1 dX0_takeOut_12 (by decide) ?_
  replace h := zk_some h
  obtain ⟨c3, h⟩ := h
  refine zr_iast (k := 102) (by decide) rfl (by decide) F (zal_a F hx0 (j := 3) rfl) hr dX0_takeOut_13 c3 (fun H locs z4 ez4 hr => ?_)
  replace h := zl_sub ez4 h
  clear ez4
  refine lv_aload_n F.1 F.2.1 dX0_takeOut_14 rfl (lv_at hl 0 rfl) ?_
  refine lv_iconst (v := (1 : Int32)) F.1 F.2.1 dX0_takeOut_15 (by decide) ?_
  refine pf0_29 F hx0 hr dX0_takeOut_16 (1 : Int32) (by decide) (fun H locs z5 ez5 hr => ?_)
  replace h := zl_sub ez5 h
  clear ez5
  obtain ⟨rfl, rfl⟩ := zret h
  exact E _ _ _ _ dX0_takeOut_19 trivial hr
end SX0_takeOut
set_option maxRecDepth 100000 in
theorem okX0_takeOut (l : Launch) (D : va_G) (cy : Nat → ClassId) (B : Nat → Nat → Nat) (ids : List (Nat × Nat)) (hst : zSt B ids) (N : Nat) (x0 : Nat) (hx0 : (0, x0) ∈ ids) (x1 : Int32) {z : St} {r : Int32} {z' : St} (hW : zWf ids z) (h : fX0_takeOut N x0 x1 z = some (r, z')) : zM l yX0_takeOut (zws yX0_takeOut cX0_takeOut 2 none) rmX0_takeOut D cy B ids [.ref (B 0 x0), .int x1] none True z z' :=
  zM_of hst hW (by decide +kernel) (Nat.le_of_ble_eq_true rfl) (fun p e s m args below meth c A ls F hA hret hlocks hr hl => bX0_takeOut_0 hst F hA (zEnd_v F hret hlocks) x0 x1 hx0 hr hl h)
abbrev rmX0_tellsOfFriend : Room := { frames := 1, cells := 0, slots := 0, locals := 20 }
theorem hdX0_tellsOfFriend : yX0_tellsOfFriend.cls ≠ "java/lang/invoke/MethodHandle" ∧ yX0_tellsOfFriend.cls ≠ "java/lang/invoke/VarHandle" ∧ (parseMethodDescriptor yX0_tellsOfFriend.desc).map (fun d => d.parameters.length) = some 3 := by decide +kernel
theorem hroX0_tellsOfFriend_X0_friendOf : rmX0_friendOf.frames + 1 ≤ rmX0_tellsOfFriend.frames ∧ 8 + (1 + 11) + rmX0_friendOf.locals ≤ rmX0_tellsOfFriend.locals := by decide
theorem hroX0_tellsOfFriend_X0_netOfEntry : rmX0_netOfEntry.frames + 1 ≤ rmX0_tellsOfFriend.frames ∧ 8 + (1 + 11) + rmX0_netOfEntry.locals ≤ rmX0_tellsOfFriend.locals := by decide
section SX0_tellsOfFriend
variable {p : Program} {l : Launch} {e : Env} {s : State} {m : MethodId} {args : Array Value} {below : List Frame} {meth : Method} {c : Code} {Q : State → Prop} {D : va_G} {cy : Nat → ClassId} {B : Nat → Nat → Nat} {ids : List (Nat × Nat)} {A : Nat → Prop}
def fX0_tellsOfFriend_48 (N : Nat) (K3 : Nat → Int32 → Int32 → Int32 → Int32 → St → Option (Int32 × St)) (x0 : Nat) (x1 : Int32) (x2 : Int32) (x3 : Int32) (x4 : Int32) (z : St) : Option (Int32 × St) := zl (x4 + 1) fun v1 => K3 x0 x1 x2 x3 v1 z
set_option maxHeartbeats 4000000 in
set_option maxRecDepth 100000 in
theorem bX0_tellsOfFriend_48 (hst : zSt B ids) (F : zFx p m c cX0_tellsOfFriend 5 s args RX0 D cy B ids A) (hA : ∀ q : Nat, s.heap.size ≤ q → A q) {r : Int32} {z' : St} (E : zEnd p l e rmX0_tellsOfFriend s m args below meth c cX0_tellsOfFriend D cy B ids A Q (some (.int r)) z' .ireturn (r = 0 ∨ r = 1)) {N : Nat} {K3 : Nat → Int32 → Int32 → Int32 → Int32 → St → Option (Int32 × St)} (hK3 : ∀ (x0 : Nat) (x1 : Int32) (x2 : Int32) (x3 : Int32) (x4 : Int32) (hx0 : (0, x0) ∈ ids) {z : St} {H : Heap} {locs : List Loc} {ls : Array Slot} (hr : zRep D cy B ids A s.heap z H locs) (hl : lv_has ls 5 [(0, .ref (B 0 x0)), (1, .int x1), (2, .int x2), (3, .int x3), (4, .int x4)]), K3 x0 x1 x2 x3 x4 z = some (r, z') → W p l e rmX0_tellsOfFriend s m args below meth c H locs 0 0 Q (F0 m 3 ls [])) (x0 : Nat) (x1 : Int32) (x2 : Int32) (x3 : Int32) (x4 : Int32) (hx0 : (0, x0) ∈ ids) {z : St} {H : Heap} {locs : List Loc} {ls : Array Slot} (hr : zRep D cy B ids A s.heap z H locs) (hl : lv_has ls 5 [(0, .ref (B 0 x0)), (1, .int x1), (2, .int x2), (3, .int x3), (4, .int x4)]) (h : fX0_tellsOfFriend_48 N K3 x0 x1 x2 x3 x4 z = some (r, z')) : W p l e rmX0_tellsOfFriend s m args below meth c H locs 0 0 Q (F0 m 48 ls []) := by
  unfold fX0_tellsOfFriend_48 at h
  obtain ⟨v1, ev1⟩ : ∃ y : Int32, y = (x4 + 1) := ⟨_, rfl⟩
  replace h := zl_sub ev1 h
  refine lv_iinc (v := v1) (lv' := [(4, .int v1), (0, .ref (B 0 x0)), (1, .int x1), (2, .int x2), (3, .int x3)]) F.1 F.2.1 dX0_tellsOfFriend_48 hl (k := 4) rfl (by rw [ev1]; rfl) (by decide) rfl (fun ls hl => ?_)
  refine lv_goto (tgt := 3) F.1 F.2.1 dX0_tellsOfFriend_51 (by decide) ?_
  exact hK3 x0 x1 x2 x3 v1 hx0 hr (lv_sub hl [1, 2, 3, 4, 0] rfl) h
def fX0_tellsOfFriend_3b (N : Nat) (K3 : Nat → Int32 → Int32 → Int32 → Int32 → St → Option (Int32 × St)) (x0 : Nat) (x1 : Int32) (x2 : Int32) (x3 : Int32) (x4 : Int32) (z : St) : Option (Int32 × St) := zk x1 16 <| if (zgA z 102 x0 (Int32.toNatClampNeg x1)) ≤ x4 then (some ((0 : Int32), z)) else (zk x1 16 <| zk x4 24 <| zc (fX0_friendOf N (zgA z 104 (x0 * 16 + (Int32.toNatClampNeg x1)) (Int32.toNatClampNeg x4)) z) fun r5 z6 => if ¬ r5 = x2 then (fX0_tellsOfFriend_48 N K3 x0 x1 x2 x3 x4 z6) else (zk x1 16 <| zk x4 24 <| zc (fX0_netOfEntry N (zgA z6 104 (x0 * 16 + (Int32.toNatClampNeg x1)) (Int32.toNatClampNeg x4)) z6) fun r12 z13 => if ¬ r12 = x3 then (fX0_tellsOfFriend_48 N K3 x0 x1 x2 x3 x4 z13) else (some ((1 : Int32), z13))))
def fX0_tellsOfFriend_3 (N : Nat)  : Nat → Nat → Int32 → Int32 → Int32 → Int32 → St → Option (Int32 × St)
  | 0 => fun _ _ _ _ _ _ => none
  | n + 1 => fX0_tellsOfFriend_3b N (fX0_tellsOfFriend_3 N  n)
set_option maxHeartbeats 4000000 in
set_option maxRecDepth 100000 in
theorem bX0_tellsOfFriend_3 (hst : zSt B ids) (F : zFx p m c cX0_tellsOfFriend 5 s args RX0 D cy B ids A) (hA : ∀ q : Nat, s.heap.size ≤ q → A q) {r : Int32} {z' : St} (E : zEnd p l e rmX0_tellsOfFriend s m args below meth c cX0_tellsOfFriend D cy B ids A Q (some (.int r)) z' .ireturn (r = 0 ∨ r = 1)) {N : Nat} {K3 : Nat → Int32 → Int32 → Int32 → Int32 → St → Option (Int32 × St)} (hK3 : ∀ (x0 : Nat) (x1 : Int32) (x2 : Int32) (x3 : Int32) (x4 : Int32) (hx0 : (0, x0) ∈ ids) {z : St} {H : Heap} {locs : List Loc} {ls : Array Slot} (hr : zRep D cy B ids A s.heap z H locs) (hl : lv_has ls 5 [(0, .ref (B 0 x0)), (1, .int x1), (2, .int x2), (3, .int x3), (4, .int x4)]), K3 x0 x1 x2 x3 x4 z = some (r, z') → W p l e rmX0_tellsOfFriend s m args below meth c H locs 0 0 Q (F0 m 3 ls [])) (x0 : Nat) (x1 : Int32) (x2 : Int32) (x3 : Int32) (x4 : Int32) (hx0 : (0, x0) ∈ ids) {z : St} {H : Heap} {locs : List Loc} {ls : Array Slot} (hr : zRep D cy B ids A s.heap z H locs) (hl : lv_has ls 5 [(0, .ref (B 0 x0)), (1, .int x1), (2, .int x2), (3, .int x3), (4, .int x4)]) (h : fX0_tellsOfFriend_3b N K3 x0 x1 x2 x3 x4 z = some (r, z')) : W p l e rmX0_tellsOfFriend s m args below meth c H locs 0 0 Q (F0 m 3 ls []) := by
  unfold fX0_tellsOfFriend_3b at h
  refine lv_iload F.1 F.2.1 dX0_tellsOfFriend_3 (lv_at hl 4 rfl) ?_
  refine lv_aload_n F.1 F.2.1 dX0_tellsOfFriend_5 rfl (lv_at hl 0 rfl) ?_
  refine gf0_18 F hx0 hr dX0_tellsOfFriend_6 ?_
  refine lv_iload_n F.1 F.2.1 dX0_tellsOfFriend_9 rfl (lv_at hl 1 rfl) ?_
  replace h := zk_some h
  obtain ⟨c1, h⟩ := h
  refine zr_iald (k := 102) (by decide) rfl (by decide) F (zal_a F hx0 (j := 3) rfl) hr dX0_tellsOfFriend_10 c1 ?_
  refine lv_icmp_ge (tgt := 54) F.1 F.2.1 dX0_tellsOfFriend_11 (by decide) (fun c2 => ?_) (fun c2 => ?_)
  · replace h := zi_t c2 h
    refine lv_iconst (v := (0 : Int32)) F.1 F.2.1 dX0_tellsOfFriend_54 (by decide) ?_
    obtain ⟨rfl, rfl⟩ := zret h
    exact E _ _ _ _ dX0_tellsOfFriend_55 (by decide) hr
  · replace h := zi_f c2 h
    refine lv_aload_n F.1 F.2.1 dX0_tellsOfFriend_14 rfl (lv_at hl 0 rfl) ?_
    refine gf0_23 F hx0 hr dX0_tellsOfFriend_15 ?_
    refine lv_iload_n F.1 F.2.1 dX0_tellsOfFriend_18 rfl (lv_at hl 1 rfl) ?_
    replace h := zk_some h
    obtain ⟨c3, h⟩ := h
    refine zr_rald (k := 103) (by decide) rfl (by decide) rfl F (zal_a F hx0 (j := 4) rfl) hr dX0_tellsOfFriend_19 c3 ?_
    refine lv_iload F.1 F.2.1 dX0_tellsOfFriend_20 (lv_at hl 4 rfl) ?_
    replace h := zk_some h
    obtain ⟨c4, h⟩ := h
    refine zr_iald (k := 104) (by decide) rfl (by decide) F (zal_w F (zal_a F hx0 (j := 4) rfl) (k := 103) rfl c3) hr dX0_tellsOfFriend_22 c4 ?_
    replace h := zc_some h
    obtain ⟨r5, z6, hc7, h⟩ := h
    refine zr_calli (zrun_S (As := [.int (zgA z 104 (x0 * 16 + (Int32.toNatClampNeg x1)) (Int32.toNatClampNeg x4))]) (rest := []) zq_1548 zq_1549 zq_1550 zq_11 hdX0_friendOf (okX0_friendOf l D cy B ids hst N (zgA z 104 (x0 * 16 + (Int32.toNatClampNeg x1)) (Int32.toNatClampNeg x4))  hr.2.2 hc7) F hr hl.1 rfl (by decide) dX0_tellsOfFriend_23 rfl rfl hroX0_tellsOfFriend_X0_friendOf ⟨Nat.zero_le _, Nat.zero_le _⟩) F hA hr (fun H locs hw8 hr => ?_)
    clear hc7
    refine lv_iload_n F.1 F.2.1 dX0_tellsOfFriend_26 rfl (lv_at hl 2 rfl) ?_
    refine lv_icmp_ne (tgt := 48) F.1 F.2.1 dX0_tellsOfFriend_27 (by decide) (fun c9 => ?_) (fun c9 => ?_)
    · replace h := zi_t c9 h
      exact bX0_tellsOfFriend_48 hst F hA E hK3 x0 x1 x2 x3 x4 hx0 hr (lv_sub hl [0, 1, 2, 3, 4] rfl) h
    · replace h := zi_f (fun q => q c9) h
      refine lv_aload_n F.1 F.2.1 dX0_tellsOfFriend_30 rfl (lv_at hl 0 rfl) ?_
      refine gf0_23 F hx0 hr dX0_tellsOfFriend_31 ?_
      refine lv_iload_n F.1 F.2.1 dX0_tellsOfFriend_34 rfl (lv_at hl 1 rfl) ?_
      replace h := zk_some h
      obtain ⟨c10, h⟩ := h
      refine zr_rald (k := 103) (by decide) rfl (by decide) rfl F (zal_a F hx0 (j := 4) rfl) hr dX0_tellsOfFriend_35 c10 ?_
      refine lv_iload F.1 F.2.1 dX0_tellsOfFriend_36 (lv_at hl 4 rfl) ?_
      replace h := zk_some h
      obtain ⟨c11, h⟩ := h
      refine zr_iald (k := 104) (by decide) rfl (by decide) F (zal_w F (zal_a F hx0 (j := 4) rfl) (k := 103) rfl c10) hr dX0_tellsOfFriend_38 c11 ?_
      replace h := zc_some h
      obtain ⟨r12, z13, hc14, h⟩ := h
      refine zr_calli (zrun_S (As := [.int (zgA z6 104 (x0 * 16 + (Int32.toNatClampNeg x1)) (Int32.toNatClampNeg x4))]) (rest := []) zq_1551 zq_1552 zq_1553 zq_11 hdX0_netOfEntry (okX0_netOfEntry l D cy B ids hst N (zgA z6 104 (x0 * 16 + (Int32.toNatClampNeg x1)) (Int32.toNatClampNeg x4))  hr.2.2 hc14) F hr hl.1 rfl (by decide) dX0_tellsOfFriend_39 rfl rfl hroX0_tellsOfFriend_X0_netOfEntry ⟨Nat.zero_le _, Nat.zero_le _⟩) F hA hr (fun H locs hw15 hr => ?_)
      clear hc14
      refine lv_iload_n F.1 F.2.1 dX0_tellsOfFriend_42 rfl (lv_at hl 3 rfl) ?_
      refine lv_icmp_ne (tgt := 48) F.1 F.2.1 dX0_tellsOfFriend_43 (by decide) (fun c16 => ?_) (fun c16 => ?_)
      · replace h := zi_t c16 h
        exact bX0_tellsOfFriend_48 hst F hA E hK3 x0 x1 x2 x3 x4 hx0 hr (lv_sub hl [0, 1, 2, 3, 4] rfl) h
      · replace h := zi_f (fun q => q c16) h
        refine lv_iconst (v := (1 : Int32)) F.1 F.2.1 dX0_tellsOfFriend_46 (by decide) ?_
        obtain ⟨rfl, rfl⟩ := zret h
        exact E _ _ _ _ dX0_tellsOfFriend_47 (by decide) hr
theorem lX0_tellsOfFriend_3 (hst : zSt B ids) (F : zFx p m c cX0_tellsOfFriend 5 s args RX0 D cy B ids A) (hA : ∀ q : Nat, s.heap.size ≤ q → A q) {r : Int32} {z' : St} (E : zEnd p l e rmX0_tellsOfFriend s m args below meth c cX0_tellsOfFriend D cy B ids A Q (some (.int r)) z' .ireturn (r = 0 ∨ r = 1)) {N : Nat}  : ∀ (n : Nat) (x0 : Nat) (x1 : Int32) (x2 : Int32) (x3 : Int32) (x4 : Int32) (hx0 : (0, x0) ∈ ids) {z : St} {H : Heap} {locs : List Loc} {ls : Array Slot} (hr : zRep D cy B ids A s.heap z H locs) (hl : lv_has ls 5 [(0, .ref (B 0 x0)), (1, .int x1), (2, .int x2), (3, .int x3), (4, .int x4)]), fX0_tellsOfFriend_3 N  n x0 x1 x2 x3 x4 z = some (r, z') → W p l e rmX0_tellsOfFriend s m args below meth c H locs 0 0 Q (F0 m 3 ls []) := by
  intro n
  induction n with
  | zero => intro x0 x1 x2 x3 x4 hx0 z H locs ls hr hl h; cases h
  | succ n ih => intro x0 x1 x2 x3 x4 hx0 z H locs ls hr hl h; exact bX0_tellsOfFriend_3 hst F hA E ih x0 x1 x2 x3 x4 hx0 hr hl h
def fX0_tellsOfFriend (N : Nat)  (x0 : Nat) (x1 : Int32) (x2 : Int32) (x3 : Int32) (z : St) : Option (Int32 × St) := fX0_tellsOfFriend_3 N N x0 x1 x2 x3 (0 : Int32) z
set_option maxHeartbeats 4000000 in
set_option maxRecDepth 100000 in
theorem bX0_tellsOfFriend_0 (hst : zSt B ids) (F : zFx p m c cX0_tellsOfFriend 5 s args RX0 D cy B ids A) (hA : ∀ q : Nat, s.heap.size ≤ q → A q) {r : Int32} {z' : St} (E : zEnd p l e rmX0_tellsOfFriend s m args below meth c cX0_tellsOfFriend D cy B ids A Q (some (.int r)) z' .ireturn (r = 0 ∨ r = 1)) {N : Nat}  (x0 : Nat) (x1 : Int32) (x2 : Int32) (x3 : Int32) (hx0 : (0, x0) ∈ ids) {z : St} {H : Heap} {locs : List Loc} {ls : Array Slot} (hr : zRep D cy B ids A s.heap z H locs) (hl : lv_has ls 5 [(0, .ref (B 0 x0)), (1, .int x1), (2, .int x2), (3, .int x3)]) (h : fX0_tellsOfFriend N x0 x1 x2 x3 z = some (r, z')) : W p l e rmX0_tellsOfFriend s m args below meth c H locs 0 0 Q (F0 m 0 ls []) := by
  unfold fX0_tellsOfFriend at h
  refine lv_iconst (v := (0 : Int32)) F.1 F.2.1 dX0_tellsOfFriend_0 (by decide) ?_
  refine lv_istore (lv' := [(4, .int (0 : Int32)), (0, .ref (B 0 x0)), (1, .int x1), (2, .int x2), (3, .int x3)]) F.1 F.2.1 dX0_tellsOfFriend_1 hl (by decide) rfl (fun ls hl => ?_)
  exact lX0_tellsOfFriend_3 hst F hA E  _ x0 x1 x2 x3 (0 : Int32) hx0 hr (lv_sub hl [1, 2, 3, 4, 0] rfl) h
end SX0_tellsOfFriend
set_option maxRecDepth 100000 in
theorem okX0_tellsOfFriend (l : Launch) (D : va_G) (cy : Nat → ClassId) (B : Nat → Nat → Nat) (ids : List (Nat × Nat)) (hst : zSt B ids) (N : Nat) (x0 : Nat) (hx0 : (0, x0) ∈ ids) (x1 : Int32) (x2 : Int32) (x3 : Int32) {z : St} {r : Int32} {z' : St} (hW : zWf ids z) (h : fX0_tellsOfFriend N x0 x1 x2 x3 z = some (r, z')) : zM l yX0_tellsOfFriend (zws yX0_tellsOfFriend cX0_tellsOfFriend 5 (some .boolean)) rmX0_tellsOfFriend D cy B ids [.ref (B 0 x0), .int x1, .int x2, .int x3] (some (.int r)) (r = 0 ∨ r = 1) z z' :=
  zM_of hst hW (by decide +kernel) (Nat.le_of_ble_eq_true rfl) (fun p e s m args below meth c A ls F hA hret hlocks hr hl => bX0_tellsOfFriend_0 hst F hA (zEnd_z F hret hlocks) x0 x1 x2 x3 hx0 hr hl h)
