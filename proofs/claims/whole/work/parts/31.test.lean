abbrev rmX8_knows : Room := { frames := 0, cells := 0, slots := 0, locals := 0 }
theorem hdX8_knows : yX8_knows.cls ≠ "java/lang/invoke/MethodHandle" ∧ yX8_knows.cls ≠ "java/lang/invoke/VarHandle" ∧ (parseMethodDescriptor yX8_knows.desc).map (fun d => d.parameters.length) = some 2 := by decide +kernel
section SX8_knows
variable {p : Program} {l : Launch} {e : Env} {s : State} {m : MethodId} {args : Array Value} {below : List Frame} {meth : Method} {c : Code} {Q : State → Prop} {D : va_G} {cy : Nat → ClassId} {B : Nat → Nat → Nat} {ids : List (Nat × Nat)} {A : Nat → Prop}
def fX8_knows (N : Nat)  (x0 : Nat) (x1 : Int32) (x2 : Int32) (z : St) : Option (Int32 × St) := zk x1 8 <| if (zgA z 126 x0 x1.toNatClampNeg) ≤ 0 then (some ((0), z)) else (zk x1 8 <| if (2500) < (x2 - (zgA z 126 x0 x1.toNatClampNeg)) then (some ((0), z)) else (some ((1), z)))
set_option maxHeartbeats 4000000 in
set_option maxRecDepth 100000 in
theorem bX8_knows_0 (hst : zSt B ids) (F : zFx p m c cX8_knows 3 s args RX8 D cy B ids A) (hA : ∀ q : Nat, s.heap.size ≤ q → A q) {r : Int32} {z' : St} (E : zEnd p l e rmX8_knows s m args below meth c cX8_knows D cy B ids A Q (some (.int r)) z' .ireturn (r = 0 ∨ r = 1)) {N : Nat}  (x0 : Nat) (x1 : Int32) (x2 : Int32) (hx0 : (8, x0) ∈ ids) {z : St} {H : Heap} {locs : List Loc} {ls : Array Slot} (hr : zRep D cy B ids A s.heap z H locs) (hl : lv_has ls 3 [(0, .ref (B 8 x0)), (1, .int x1), (2, .int x2)]) (h : fX8_knows N x0 x1 x2 z = some (r, z')) : W p l e rmX8_knows s m args below meth c H locs 0 0 Q (F0 m 0 ls []) := by
  unfold fX8_knows at h
  refine lv_aload_n F.1 F.2.1 dX8_knows_0 rfl (lv_at hl 0 rfl) ?_
  refine gf8_15 F hx0 hr dX8_knows_1 ?_
  refine lv_iload_n F.1 F.2.1 dX8_knows_4 rfl (lv_at hl 1 rfl) ?_
  obtain ⟨c1, h⟩ := zk_some h
  refine zr_iald (k := 126) (by decide) rfl (by decide) F (zal_a F hx0 (j := 6) rfl) hr dX8_knows_5 c1 ?_
  refine lv_if_le (tgt := 27) F.1 F.2.1 dX8_knows_6 (by decide) (fun c2 => ?_) (fun c2 => ?_)
  · replace h := zi_t c2 h
    refine lv_iconst (v := (0)) F.1 F.2.1 dX8_knows_27 (by decide) ?_
    obtain ⟨rfl, rfl⟩ := zret h
    exact E _ _ _ _ dX8_knows_28 (by decide) hr
  · replace h := zi_f c2 h
    refine lv_iload_n F.1 F.2.1 dX8_knows_9 rfl (lv_at hl 2 rfl) ?_
    refine lv_aload_n F.1 F.2.1 dX8_knows_10 rfl (lv_at hl 0 rfl) ?_
    refine gf8_15 F hx0 hr dX8_knows_11 ?_
    refine lv_iload_n F.1 F.2.1 dX8_knows_14 rfl (lv_at hl 1 rfl) ?_
    obtain ⟨c3, h⟩ := zk_some h
    refine zr_iald (k := 126) (by decide) rfl (by decide) F (zal_a F hx0 (j := 6) rfl) hr dX8_knows_15 c3 ?_
    refine lv_isub F.1 F.2.1 dX8_knows_16 ?_
    refine lv_sipush (v := (2500)) F.1 F.2.1 dX8_knows_17 (by decide) ?_
    refine lv_icmp_gt (tgt := 27) F.1 F.2.1 dX8_knows_20 (by decide) (fun c4 => ?_) (fun c4 => ?_)
    · replace h := zi_t c4 h
      refine lv_iconst (v := (0)) F.1 F.2.1 dX8_knows_27 (by decide) ?_
      obtain ⟨rfl, rfl⟩ := zret h
      exact E _ _ _ _ dX8_knows_28 (by decide) hr
    · replace h := zi_f c4 h
      refine lv_iconst (v := (1)) F.1 F.2.1 dX8_knows_23 (by decide) ?_
      refine lv_goto (tgt := 28) F.1 F.2.1 dX8_knows_24 (by decide) ?_
      obtain ⟨rfl, rfl⟩ := zret h
      exact E _ _ _ _ dX8_knows_28 (by decide) hr
end SX8_knows
set_option maxRecDepth 100000 in
theorem okX8_knows (l : Launch) (D : va_G) (cy : Nat → ClassId) (B : Nat → Nat → Nat) (ids : List (Nat × Nat)) (hst : zSt B ids) (N : Nat) (x0 : Nat) (hx0 : (8, x0) ∈ ids) (x1 : Int32) (x2 : Int32) {z : St} {r : Int32} {z' : St} (hW : zWf ids z) (h : fX8_knows N x0 x1 x2 z = some (r, z')) : zM l yX8_knows (zws yX8_knows cX8_knows 3 (some .boolean)) rmX8_knows D cy B ids [.ref (B 8 x0), .int x1, .int x2] (some (.int r)) (r = 0 ∨ r = 1) z z' :=
  zM_of hst hW (by decide +kernel) (Nat.le_of_ble_eq_true rfl) (fun p e s m args below meth c A ls F hA hret hlocks hr hl => bX8_knows_0 hst F hA (zEnd_z F hret hlocks) x0 x1 x2 hx0 hr hl h)
abbrev rmX8_isAsked : Room := { frames := 0, cells := 0, slots := 0, locals := 0 }
theorem hdX8_isAsked : yX8_isAsked.cls ≠ "java/lang/invoke/MethodHandle" ∧ yX8_isAsked.cls ≠ "java/lang/invoke/VarHandle" ∧ (parseMethodDescriptor yX8_isAsked.desc).map (fun d => d.parameters.length) = some 1 := by decide +kernel
section SX8_isAsked
variable {p : Program} {l : Launch} {e : Env} {s : State} {m : MethodId} {args : Array Value} {below : List Frame} {meth : Method} {c : Code} {Q : State → Prop} {D : va_G} {cy : Nat → ClassId} {B : Nat → Nat → Nat} {ids : List (Nat × Nat)} {A : Nat → Prop}
def fX8_isAsked (N : Nat)  (x0 : Nat) (x1 : Int32) (z : St) : Option (Int32 × St) := zk x1 8 <| if (zgA z 127 x0 x1.toNatClampNeg) ≤ 0 then (some ((0), z)) else (some ((1), z))
set_option maxHeartbeats 4000000 in
set_option maxRecDepth 100000 in
theorem bX8_isAsked_0 (hst : zSt B ids) (F : zFx p m c cX8_isAsked 2 s args RX8 D cy B ids A) (hA : ∀ q : Nat, s.heap.size ≤ q → A q) {r : Int32} {z' : St} (E : zEnd p l e rmX8_isAsked s m args below meth c cX8_isAsked D cy B ids A Q (some (.int r)) z' .ireturn (r = 0 ∨ r = 1)) {N : Nat}  (x0 : Nat) (x1 : Int32) (hx0 : (8, x0) ∈ ids) {z : St} {H : Heap} {locs : List Loc} {ls : Array Slot} (hr : zRep D cy B ids A s.heap z H locs) (hl : lv_has ls 2 [(0, .ref (B 8 x0)), (1, .int x1)]) (h : fX8_isAsked N x0 x1 z = some (r, z')) : W p l e rmX8_isAsked s m args below meth c H locs 0 0 Q (F0 m 0 ls []) := by
  unfold fX8_isAsked at h
  refine lv_aload_n F.1 F.2.1 dX8_isAsked_0 rfl (lv_at hl 0 rfl) ?_
  refine gf8_19 F hx0 hr dX8_isAsked_1 ?_
  refine lv_iload_n F.1 F.2.1 dX8_isAsked_4 rfl (lv_at hl 1 rfl) ?_
  obtain ⟨c1, h⟩ := zk_some h
  refine zr_iald (k := 127) (by decide) rfl (by decide) F (zal_a F hx0 (j := 7) rfl) hr dX8_isAsked_5 c1 ?_
  refine lv_if_le (tgt := 13) F.1 F.2.1 dX8_isAsked_6 (by decide) (fun c2 => ?_) (fun c2 => ?_)
  · replace h := zi_t c2 h
    refine lv_iconst (v := (0)) F.1 F.2.1 dX8_isAsked_13 (by decide) ?_
    obtain ⟨rfl, rfl⟩ := zret h
    exact E _ _ _ _ dX8_isAsked_14 (by decide) hr
  · replace h := zi_f c2 h
    refine lv_iconst (v := (1)) F.1 F.2.1 dX8_isAsked_9 (by decide) ?_
    refine lv_goto (tgt := 14) F.1 F.2.1 dX8_isAsked_10 (by decide) ?_
    obtain ⟨rfl, rfl⟩ := zret h
    exact E _ _ _ _ dX8_isAsked_14 (by decide) hr
end SX8_isAsked
set_option maxRecDepth 100000 in
theorem okX8_isAsked (l : Launch) (D : va_G) (cy : Nat → ClassId) (B : Nat → Nat → Nat) (ids : List (Nat × Nat)) (hst : zSt B ids) (N : Nat) (x0 : Nat) (hx0 : (8, x0) ∈ ids) (x1 : Int32) {z : St} {r : Int32} {z' : St} (hW : zWf ids z) (h : fX8_isAsked N x0 x1 z = some (r, z')) : zM l yX8_isAsked (zws yX8_isAsked cX8_isAsked 2 (some .boolean)) rmX8_isAsked D cy B ids [.ref (B 8 x0), .int x1] (some (.int r)) (r = 0 ∨ r = 1) z z' :=
  zM_of hst hW (by decide +kernel) (Nat.le_of_ble_eq_true rfl) (fun p e s m args below meth c A ls F hA hret hlocks hr hl => bX8_isAsked_0 hst F hA (zEnd_z F hret hlocks) x0 x1 hx0 hr hl h)
abbrev rmX8_beginAsking : Room := { frames := 0, cells := 0, slots := 0, locals := 0 }
theorem hdX8_beginAsking : yX8_beginAsking.cls ≠ "java/lang/invoke/MethodHandle" ∧ yX8_beginAsking.cls ≠ "java/lang/invoke/VarHandle" ∧ (parseMethodDescriptor yX8_beginAsking.desc).map (fun d => d.parameters.length) = some 2 := by decide +kernel
section SX8_beginAsking
variable {p : Program} {l : Launch} {e : Env} {s : State} {m : MethodId} {args : Array Value} {below : List Frame} {meth : Method} {c : Code} {Q : State → Prop} {D : va_G} {cy : Nat → ClassId} {B : Nat → Nat → Nat} {ids : List (Nat × Nat)} {A : Nat → Prop}
def fX8_beginAsking (N : Nat)  (x0 : Nat) (x1 : Int32) (x2 : Int32) (z : St) : Option (Int32 × St) := if (zgI z 8 9 x0) < (8) then (zk x1 8 <| zl (zsA z 127 x0 x1.toNatClampNeg x2) fun z3 => zk (zgI z3 8 9 x0) 8 <| zl (zsA z3 128 x0 (zgI z3 8 9 x0).toNatClampNeg x1) fun z5 => zl (zsI z5 8 9 x0 ((zgI z5 8 9 x0) + (1))) fun z6 => some (0, z6)) else (some (0, z))
set_option maxHeartbeats 4000000 in
set_option maxRecDepth 100000 in
theorem bX8_beginAsking_0 (hst : zSt B ids) (F : zFx p m c cX8_beginAsking 3 s args RX8 D cy B ids A) (hA : ∀ q : Nat, s.heap.size ≤ q → A q) {r : Int32} {z' : St} (E : zEnd p l e rmX8_beginAsking s m args below meth c cX8_beginAsking D cy B ids A Q none z' .return_ True) {N : Nat}  (x0 : Nat) (x1 : Int32) (x2 : Int32) (hx0 : (8, x0) ∈ ids) {z : St} {H : Heap} {locs : List Loc} {ls : Array Slot} (hr : zRep D cy B ids A s.heap z H locs) (hl : lv_has ls 3 [(0, .ref (B 8 x0)), (1, .int x1), (2, .int x2)]) (h : fX8_beginAsking N x0 x1 x2 z = some (r, z')) : W p l e rmX8_beginAsking s m args below meth c H locs 0 0 Q (F0 m 0 ls []) := by
  unfold fX8_beginAsking at h
  refine lv_aload_n F.1 F.2.1 dX8_beginAsking_0 rfl (lv_at hl 0 rfl) ?_
  refine gf8_58 F hx0 hr dX8_beginAsking_1 ?_
  refine lv_bipush (v := (8)) F.1 F.2.1 dX8_beginAsking_4 (by decide) ?_
  refine lv_icmp_lt (tgt := 10) F.1 F.2.1 dX8_beginAsking_6 (by decide) (fun c1 => ?_) (fun c1 => ?_)
  · replace h := zi_t c1 h
    refine lv_aload_n F.1 F.2.1 dX8_beginAsking_10 rfl (lv_at hl 0 rfl) ?_
    refine gf8_19 F hx0 hr dX8_beginAsking_11 ?_
    refine lv_iload_n F.1 F.2.1 dX8_beginAsking_14 rfl (lv_at hl 1 rfl) ?_
    refine lv_iload_n F.1 F.2.1 dX8_beginAsking_15 rfl (lv_at hl 2 rfl) ?_
    obtain ⟨c2, h⟩ := zk_some h
    refine zr_iast (k := 127) (by decide) rfl (by decide) F (zal_a F hx0 (j := 7) rfl) hr dX8_beginAsking_16 c2 (fun H locs z3 ez3 hr => ?_)
    replace h := zl_sub ez3 h
    clear ez3
    refine lv_aload_n F.1 F.2.1 dX8_beginAsking_17 rfl (lv_at hl 0 rfl) ?_
    refine gf8_22 F hx0 hr dX8_beginAsking_18 ?_
    refine lv_aload_n F.1 F.2.1 dX8_beginAsking_21 rfl (lv_at hl 0 rfl) ?_
    refine gf8_58 F hx0 hr dX8_beginAsking_22 ?_
    refine lv_iload_n F.1 F.2.1 dX8_beginAsking_25 rfl (lv_at hl 1 rfl) ?_
    obtain ⟨c4, h⟩ := zk_some h
    refine zr_iast (k := 128) (by decide) rfl (by decide) F (zal_a F hx0 (j := 8) rfl) hr dX8_beginAsking_26 c4 (fun H locs z5 ez5 hr => ?_)
    replace h := zl_sub ez5 h
    clear ez5
    refine lv_aload_n F.1 F.2.1 dX8_beginAsking_27 rfl (lv_at hl 0 rfl) ?_
    refine lv_dup F.1 F.2.1 dX8_beginAsking_28 rfl ?_
    refine gf8_58 F hx0 hr dX8_beginAsking_29 ?_
    refine lv_iconst (v := (1)) F.1 F.2.1 dX8_beginAsking_32 (by decide) ?_
    refine lv_iadd F.1 F.2.1 dX8_beginAsking_33 ?_
    refine pf8_58 F hx0 hr dX8_beginAsking_34 ((zgI z5 8 9 x0) + (1)) (fun H locs z6 ez6 hr => ?_)
    replace h := zl_sub ez6 h
    clear ez6
    obtain ⟨rfl, rfl⟩ := zret h
    exact E _ _ _ _ dX8_beginAsking_37 trivial hr
  · replace h := zi_f c1 h
    obtain ⟨rfl, rfl⟩ := zret h
    exact E _ _ _ _ dX8_beginAsking_9 trivial hr
end SX8_beginAsking
set_option maxRecDepth 100000 in
theorem okX8_beginAsking (l : Launch) (D : va_G) (cy : Nat → ClassId) (B : Nat → Nat → Nat) (ids : List (Nat × Nat)) (hst : zSt B ids) (N : Nat) (x0 : Nat) (hx0 : (8, x0) ∈ ids) (x1 : Int32) (x2 : Int32) {z : St} {r : Int32} {z' : St} (hW : zWf ids z) (h : fX8_beginAsking N x0 x1 x2 z = some (r, z')) : zM l yX8_beginAsking (zws yX8_beginAsking cX8_beginAsking 3 none) rmX8_beginAsking D cy B ids [.ref (B 8 x0), .int x1, .int x2] none True z z' :=
  zM_of hst hW (by decide +kernel) (Nat.le_of_ble_eq_true rfl) (fun p e s m args below meth c A ls F hA hret hlocks hr hl => bX8_beginAsking_0 hst F hA (zEnd_v F hret hlocks) x0 x1 x2 hx0 hr hl h)
abbrev rmX8_endAsking : Room := { frames := 0, cells := 0, slots := 0, locals := 0 }
theorem hdX8_endAsking : yX8_endAsking.cls ≠ "java/lang/invoke/MethodHandle" ∧ yX8_endAsking.cls ≠ "java/lang/invoke/VarHandle" ∧ (parseMethodDescriptor yX8_endAsking.desc).map (fun d => d.parameters.length) = some 1 := by decide +kernel
section SX8_endAsking
variable {p : Program} {l : Launch} {e : Env} {s : State} {m : MethodId} {args : Array Value} {below : List Frame} {meth : Method} {c : Code} {Q : State → Prop} {D : va_G} {cy : Nat → ClassId} {B : Nat → Nat → Nat} {ids : List (Nat × Nat)} {A : Nat → Prop}
def fX8_endAsking_47 (N : Nat) (K11 : Nat → Int32 → Int32 → Int32 → St → Option (Int32 × St)) (x0 : Nat) (x1 : Int32) (x2 : Int32) (x3 : Int32) (z : St) : Option (Int32 × St) := zl (x3 + 1) fun v1 => K11 x0 x1 x2 v1 z
set_option maxHeartbeats 4000000 in
set_option maxRecDepth 100000 in
theorem bX8_endAsking_47 (hst : zSt B ids) (F : zFx p m c cX8_endAsking 4 s args RX8 D cy B ids A) (hA : ∀ q : Nat, s.heap.size ≤ q → A q) {r : Int32} {z' : St} (E : zEnd p l e rmX8_endAsking s m args below meth c cX8_endAsking D cy B ids A Q none z' .return_ True) {N : Nat} {K11 : Nat → Int32 → Int32 → Int32 → St → Option (Int32 × St)} (hK11 : ∀ (x0 : Nat) (x1 : Int32) (x2 : Int32) (x3 : Int32) (hx0 : (8, x0) ∈ ids) {z : St} {H : Heap} {locs : List Loc} {ls : Array Slot} (hr : zRep D cy B ids A s.heap z H locs) (hl : lv_has ls 4 [(0, .ref (B 8 x0)), (1, .int x1), (2, .int x2), (3, .int x3)]), K11 x0 x1 x2 x3 z = some (r, z') → W p l e rmX8_endAsking s m args below meth c H locs 0 0 Q (F0 m 11 ls [])) (x0 : Nat) (x1 : Int32) (x2 : Int32) (x3 : Int32) (hx0 : (8, x0) ∈ ids) {z : St} {H : Heap} {locs : List Loc} {ls : Array Slot} (hr : zRep D cy B ids A s.heap z H locs) (hl : lv_has ls 4 [(0, .ref (B 8 x0)), (1, .int x1), (2, .int x2), (3, .int x3)]) (h : fX8_endAsking_47 N K11 x0 x1 x2 x3 z = some (r, z')) : W p l e rmX8_endAsking s m args below meth c H locs 0 0 Q (F0 m 47 ls []) := by
  unfold fX8_endAsking_47 at h
  obtain ⟨v1, ev1⟩ : ∃ y : Int32, y = (x3 + 1) := ⟨_, rfl⟩
  replace h := zl_sub ev1 h
  refine lv_iinc (v := v1) (lv' := [(3, .int v1), (0, .ref (B 8 x0)), (1, .int x1), (2, .int x2)]) F.1 F.2.1 dX8_endAsking_47 hl (k := 3) rfl (by rw [ev1]; rfl) (by decide) rfl (fun ls hl => ?_)
  refine lv_goto (tgt := 11) F.1 F.2.1 dX8_endAsking_50 (by decide) ?_
  exact hK11 x0 x1 x2 v1 hx0 hr (lv_sub hl [1, 2, 3, 0] rfl) h
def fX8_endAsking_11b (N : Nat) (K11 : Nat → Int32 → Int32 → Int32 → St → Option (Int32 × St)) (x0 : Nat) (x1 : Int32) (x2 : Int32) (x3 : Int32) (z : St) : Option (Int32 × St) := if (zgI z 8 9 x0) ≤ x3 then (zl (zsI z 8 9 x0 x2) fun z2 => some (0, z2)) else (zk x3 8 <| if ¬ (zgA z 128 x0 x3.toNatClampNeg) = x1 then (zk x3 8 <| zk x2 8 <| zl (zsA z 128 x0 x2.toNatClampNeg (zgA z 128 x0 x3.toNatClampNeg)) fun z7 => zl (x2 + 1) fun v8 => fX8_endAsking_47 N K11 x0 x1 v8 x3 z7) else (fX8_endAsking_47 N K11 x0 x1 x2 x3 z))
def fX8_endAsking_11 (N : Nat)  : Nat → Nat → Int32 → Int32 → Int32 → St → Option (Int32 × St)
  | 0 => fun _ _ _ _ _ => none
  | n + 1 => fX8_endAsking_11b N (fX8_endAsking_11 N  n)
set_option maxHeartbeats 4000000 in
set_option maxRecDepth 100000 in
theorem bX8_endAsking_11 (hst : zSt B ids) (F : zFx p m c cX8_endAsking 4 s args RX8 D cy B ids A) (hA : ∀ q : Nat, s.heap.size ≤ q → A q) {r : Int32} {z' : St} (E : zEnd p l e rmX8_endAsking s m args below meth c cX8_endAsking D cy B ids A Q none z' .return_ True) {N : Nat} {K11 : Nat → Int32 → Int32 → Int32 → St → Option (Int32 × St)} (hK11 : ∀ (x0 : Nat) (x1 : Int32) (x2 : Int32) (x3 : Int32) (hx0 : (8, x0) ∈ ids) {z : St} {H : Heap} {locs : List Loc} {ls : Array Slot} (hr : zRep D cy B ids A s.heap z H locs) (hl : lv_has ls 4 [(0, .ref (B 8 x0)), (1, .int x1), (2, .int x2), (3, .int x3)]), K11 x0 x1 x2 x3 z = some (r, z') → W p l e rmX8_endAsking s m args below meth c H locs 0 0 Q (F0 m 11 ls [])) (x0 : Nat) (x1 : Int32) (x2 : Int32) (x3 : Int32) (hx0 : (8, x0) ∈ ids) {z : St} {H : Heap} {locs : List Loc} {ls : Array Slot} (hr : zRep D cy B ids A s.heap z H locs) (hl : lv_has ls 4 [(0, .ref (B 8 x0)), (1, .int x1), (2, .int x2), (3, .int x3)]) (h : fX8_endAsking_11b N K11 x0 x1 x2 x3 z = some (r, z')) : W p l e rmX8_endAsking s m args below meth c H locs 0 0 Q (F0 m 11 ls []) := by
  unfold fX8_endAsking_11b at h
  refine lv_iload_n F.1 F.2.1 dX8_endAsking_11 rfl (lv_at hl 3 rfl) ?_
  refine lv_aload_n F.1 F.2.1 dX8_endAsking_12 rfl (lv_at hl 0 rfl) ?_
  refine gf8_58 F hx0 hr dX8_endAsking_13 ?_
  refine lv_icmp_ge (tgt := 53) F.1 F.2.1 dX8_endAsking_16 (by decide) (fun c1 => ?_) (fun c1 => ?_)
  · replace h := zi_t c1 h
    refine lv_aload_n F.1 F.2.1 dX8_endAsking_53 rfl (lv_at hl 0 rfl) ?_
    refine lv_iload_n F.1 F.2.1 dX8_endAsking_54 rfl (lv_at hl 2 rfl) ?_
    refine pf8_58 F hx0 hr dX8_endAsking_55 x2 (fun H locs z2 ez2 hr => ?_)
    replace h := zl_sub ez2 h
    clear ez2
    obtain ⟨rfl, rfl⟩ := zret h
    exact E _ _ _ _ dX8_endAsking_58 trivial hr
  · replace h := zi_f c1 h
    refine lv_aload_n F.1 F.2.1 dX8_endAsking_19 rfl (lv_at hl 0 rfl) ?_
    refine gf8_22 F hx0 hr dX8_endAsking_20 ?_
    refine lv_iload_n F.1 F.2.1 dX8_endAsking_23 rfl (lv_at hl 3 rfl) ?_
    obtain ⟨c3, h⟩ := zk_some h
    refine zr_iald (k := 128) (by decide) rfl (by decide) F (zal_a F hx0 (j := 8) rfl) hr dX8_endAsking_24 c3 ?_
    refine lv_iload_n F.1 F.2.1 dX8_endAsking_25 rfl (lv_at hl 1 rfl) ?_
    refine lv_icmp_ne (tgt := 32) F.1 F.2.1 dX8_endAsking_26 (by decide) (fun c4 => ?_) (fun c4 => ?_)
    · replace h := zi_t c4 h
      refine lv_aload_n F.1 F.2.1 dX8_endAsking_32 rfl (lv_at hl 0 rfl) ?_
      refine gf8_22 F hx0 hr dX8_endAsking_33 ?_
      refine lv_iload_n F.1 F.2.1 dX8_endAsking_36 rfl (lv_at hl 2 rfl) ?_
      refine lv_aload_n F.1 F.2.1 dX8_endAsking_37 rfl (lv_at hl 0 rfl) ?_
      refine gf8_22 F hx0 hr dX8_endAsking_38 ?_
      refine lv_iload_n F.1 F.2.1 dX8_endAsking_41 rfl (lv_at hl 3 rfl) ?_
      obtain ⟨c5, h⟩ := zk_some h
      refine zr_iald (k := 128) (by decide) rfl (by decide) F (zal_a F hx0 (j := 8) rfl) hr dX8_endAsking_42 c5 ?_
      obtain ⟨c6, h⟩ := zk_some h
      refine zr_iast (k := 128) (by decide) rfl (by decide) F (zal_a F hx0 (j := 8) rfl) hr dX8_endAsking_43 c6 (fun H locs z7 ez7 hr => ?_)
      replace h := zl_sub ez7 h
      clear ez7
      obtain ⟨v8, ev8⟩ : ∃ y : Int32, y = (x2 + 1) := ⟨_, rfl⟩
      replace h := zl_sub ev8 h
      refine lv_iinc (v := v8) (lv' := [(2, .int v8), (0, .ref (B 8 x0)), (1, .int x1), (3, .int x3)]) F.1 F.2.1 dX8_endAsking_44 hl (k := 2) rfl (by rw [ev8]; rfl) (by decide) rfl (fun ls hl => ?_)
      exact bX8_endAsking_47 hst F hA E hK11 x0 x1 v8 x3 hx0 hr (lv_sub hl [1, 2, 0, 3] rfl) h
    · replace h := zi_f (fun q => q c4) h
      refine lv_goto (tgt := 47) F.1 F.2.1 dX8_endAsking_29 (by decide) ?_
      exact bX8_endAsking_47 hst F hA E hK11 x0 x1 x2 x3 hx0 hr (lv_sub hl [0, 1, 2, 3] rfl) h
theorem lX8_endAsking_11 (hst : zSt B ids) (F : zFx p m c cX8_endAsking 4 s args RX8 D cy B ids A) (hA : ∀ q : Nat, s.heap.size ≤ q → A q) {r : Int32} {z' : St} (E : zEnd p l e rmX8_endAsking s m args below meth c cX8_endAsking D cy B ids A Q none z' .return_ True) {N : Nat}  : ∀ (n : Nat) (x0 : Nat) (x1 : Int32) (x2 : Int32) (x3 : Int32) (hx0 : (8, x0) ∈ ids) {z : St} {H : Heap} {locs : List Loc} {ls : Array Slot} (hr : zRep D cy B ids A s.heap z H locs) (hl : lv_has ls 4 [(0, .ref (B 8 x0)), (1, .int x1), (2, .int x2), (3, .int x3)]), fX8_endAsking_11 N  n x0 x1 x2 x3 z = some (r, z') → W p l e rmX8_endAsking s m args below meth c H locs 0 0 Q (F0 m 11 ls []) := by
  intro n
  induction n with
  | zero => intro x0 x1 x2 x3 hx0 z H locs ls hr hl h; cases h
  | succ n ih => intro x0 x1 x2 x3 hx0 z H locs ls hr hl h; exact bX8_endAsking_11 hst F hA E ih x0 x1 x2 x3 hx0 hr hl h
def fX8_endAsking (N : Nat)  (x0 : Nat) (x1 : Int32) (z : St) : Option (Int32 × St) := zk x1 8 <| zl (zsA z 127 x0 x1.toNatClampNeg (0)) fun z2 => fX8_endAsking_11 N N x0 x1 (0) (0) z2
set_option maxHeartbeats 4000000 in
set_option maxRecDepth 100000 in
theorem bX8_endAsking_0 (hst : zSt B ids) (F : zFx p m c cX8_endAsking 4 s args RX8 D cy B ids A) (hA : ∀ q : Nat, s.heap.size ≤ q → A q) {r : Int32} {z' : St} (E : zEnd p l e rmX8_endAsking s m args below meth c cX8_endAsking D cy B ids A Q none z' .return_ True) {N : Nat}  (x0 : Nat) (x1 : Int32) (hx0 : (8, x0) ∈ ids) {z : St} {H : Heap} {locs : List Loc} {ls : Array Slot} (hr : zRep D cy B ids A s.heap z H locs) (hl : lv_has ls 4 [(0, .ref (B 8 x0)), (1, .int x1)]) (h : fX8_endAsking N x0 x1 z = some (r, z')) : W p l e rmX8_endAsking s m args below meth c H locs 0 0 Q (F0 m 0 ls []) := by
  unfold fX8_endAsking at h
  refine lv_aload_n F.1 F.2.1 dX8_endAsking_0 rfl (lv_at hl 0 rfl) ?_
  refine gf8_19 F hx0 hr dX8_endAsking_1 ?_
  refine lv_iload_n F.1 F.2.1 dX8_endAsking_4 rfl (lv_at hl 1 rfl) ?_
  refine lv_iconst (v := (0)) F.1 F.2.1 dX8_endAsking_5 (by decide) ?_
  obtain ⟨c1, h⟩ := zk_some h
  refine zr_iast (k := 127) (by decide) rfl (by decide) F (zal_a F hx0 (j := 7) rfl) hr dX8_endAsking_6 c1 (fun H locs z2 ez2 hr => ?_)
  replace h := zl_sub ez2 h
  clear ez2
  refine lv_iconst (v := (0)) F.1 F.2.1 dX8_endAsking_7 (by decide) ?_
  refine lv_istore_n (lv' := [(2, .int (0)), (0, .ref (B 8 x0)), (1, .int x1)]) F.1 F.2.1 dX8_endAsking_8 rfl hl (by decide) rfl (fun ls hl => ?_)
  refine lv_iconst (v := (0)) F.1 F.2.1 dX8_endAsking_9 (by decide) ?_
  refine lv_istore_n (lv' := [(3, .int (0)), (2, .int (0)), (0, .ref (B 8 x0)), (1, .int x1)]) F.1 F.2.1 dX8_endAsking_10 rfl hl (by decide) rfl (fun ls hl => ?_)
  exact lX8_endAsking_11 hst F hA E  _ x0 x1 (0) (0) hx0 hr (lv_sub hl [2, 3, 1, 0] rfl) h
end SX8_endAsking
set_option maxRecDepth 100000 in
theorem okX8_endAsking (l : Launch) (D : va_G) (cy : Nat → ClassId) (B : Nat → Nat → Nat) (ids : List (Nat × Nat)) (hst : zSt B ids) (N : Nat) (x0 : Nat) (hx0 : (8, x0) ∈ ids) (x1 : Int32) {z : St} {r : Int32} {z' : St} (hW : zWf ids z) (h : fX8_endAsking N x0 x1 z = some (r, z')) : zM l yX8_endAsking (zws yX8_endAsking cX8_endAsking 4 none) rmX8_endAsking D cy B ids [.ref (B 8 x0), .int x1] none True z z' :=
  zM_of hst hW (by decide +kernel) (Nat.le_of_ble_eq_true rfl) (fun p e s m args below meth c A ls F hA hret hlocks hr hl => bX8_endAsking_0 hst F hA (zEnd_v F hret hlocks) x0 x1 hx0 hr hl h)
abbrev rmX8_rememberAsked : Room := { frames := 0, cells := 0, slots := 0, locals := 0 }
theorem hdX8_rememberAsked : yX8_rememberAsked.cls ≠ "java/lang/invoke/MethodHandle" ∧ yX8_rememberAsked.cls ≠ "java/lang/invoke/VarHandle" ∧ (parseMethodDescriptor yX8_rememberAsked.desc).map (fun d => d.parameters.length) = some 0 := by decide +kernel
section SX8_rememberAsked
variable {p : Program} {l : Launch} {e : Env} {s : State} {m : MethodId} {args : Array Value} {below : List Frame} {meth : Method} {c : Code} {Q : State → Prop} {D : va_G} {cy : Nat → ClassId} {B : Nat → Nat → Nat} {ids : List (Nat × Nat)} {A : Nat → Prop}
def fX8_rememberAsked_2b (N : Nat) (K2 : Nat → Int32 → St → Option (Int32 × St)) (x0 : Nat) (x1 : Int32) (z : St) : Option (Int32 × St) := if (zgI z 8 9 x0) ≤ x1 then (some ((zgI z 8 9 x0), z)) else (zk x1 8 <| zk x1 8 <| zl (zsA z 129 x0 x1.toNatClampNeg (zgA z 128 x0 x1.toNatClampNeg)) fun z4 => zl (x1 + 1) fun v5 => K2 x0 v5 z4)
def fX8_rememberAsked_2 (N : Nat)  : Nat → Nat → Int32 → St → Option (Int32 × St)
  | 0 => fun _ _ _ => none
  | n + 1 => fX8_rememberAsked_2b N (fX8_rememberAsked_2 N  n)
set_option maxHeartbeats 4000000 in
set_option maxRecDepth 100000 in
theorem bX8_rememberAsked_2 (hst : zSt B ids) (F : zFx p m c cX8_rememberAsked 2 s args RX8 D cy B ids A) (hA : ∀ q : Nat, s.heap.size ≤ q → A q) {r : Int32} {z' : St} (E : zEnd p l e rmX8_rememberAsked s m args below meth c cX8_rememberAsked D cy B ids A Q (some (.int r)) z' .ireturn True) {N : Nat} {K2 : Nat → Int32 → St → Option (Int32 × St)} (hK2 : ∀ (x0 : Nat) (x1 : Int32) (hx0 : (8, x0) ∈ ids) {z : St} {H : Heap} {locs : List Loc} {ls : Array Slot} (hr : zRep D cy B ids A s.heap z H locs) (hl : lv_has ls 2 [(0, .ref (B 8 x0)), (1, .int x1)]), K2 x0 x1 z = some (r, z') → W p l e rmX8_rememberAsked s m args below meth c H locs 0 0 Q (F0 m 2 ls [])) (x0 : Nat) (x1 : Int32) (hx0 : (8, x0) ∈ ids) {z : St} {H : Heap} {locs : List Loc} {ls : Array Slot} (hr : zRep D cy B ids A s.heap z H locs) (hl : lv_has ls 2 [(0, .ref (B 8 x0)), (1, .int x1)]) (h : fX8_rememberAsked_2b N K2 x0 x1 z = some (r, z')) : W p l e rmX8_rememberAsked s m args below meth c H locs 0 0 Q (F0 m 2 ls []) := by
  unfold fX8_rememberAsked_2b at h
  refine lv_iload_n F.1 F.2.1 dX8_rememberAsked_2 rfl (lv_at hl 1 rfl) ?_
  refine lv_aload_n F.1 F.2.1 dX8_rememberAsked_3 rfl (lv_at hl 0 rfl) ?_
  refine gf8_58 F hx0 hr dX8_rememberAsked_4 ?_
  refine lv_icmp_ge (tgt := 28) F.1 F.2.1 dX8_rememberAsked_7 (by decide) (fun c1 => ?_) (fun c1 => ?_)
  · replace h := zi_t c1 h
    refine lv_aload_n F.1 F.2.1 dX8_rememberAsked_28 rfl (lv_at hl 0 rfl) ?_
    refine gf8_58 F hx0 hr dX8_rememberAsked_29 ?_
    obtain ⟨rfl, rfl⟩ := zret h
    exact E _ _ _ _ dX8_rememberAsked_32 trivial hr
  · replace h := zi_f c1 h
    refine lv_aload_n F.1 F.2.1 dX8_rememberAsked_10 rfl (lv_at hl 0 rfl) ?_
    refine gf8_25 F hx0 hr dX8_rememberAsked_11 ?_
    refine lv_iload_n F.1 F.2.1 dX8_rememberAsked_14 rfl (lv_at hl 1 rfl) ?_
    refine lv_aload_n F.1 F.2.1 dX8_rememberAsked_15 rfl (lv_at hl 0 rfl) ?_
    refine gf8_22 F hx0 hr dX8_rememberAsked_16 ?_
    refine lv_iload_n F.1 F.2.1 dX8_rememberAsked_19 rfl (lv_at hl 1 rfl) ?_
    obtain ⟨c2, h⟩ := zk_some h
    refine zr_iald (k := 128) (by decide) rfl (by decide) F (zal_a F hx0 (j := 8) rfl) hr dX8_rememberAsked_20 c2 ?_
    obtain ⟨c3, h⟩ := zk_some h
    refine zr_iast (k := 129) (by decide) rfl (by decide) F (zal_a F hx0 (j := 10) rfl) hr dX8_rememberAsked_21 c3 (fun H locs z4 ez4 hr => ?_)
    replace h := zl_sub ez4 h
    clear ez4
    obtain ⟨v5, ev5⟩ : ∃ y : Int32, y = (x1 + 1) := ⟨_, rfl⟩
    replace h := zl_sub ev5 h
    refine lv_iinc (v := v5) (lv' := [(1, .int v5), (0, .ref (B 8 x0))]) F.1 F.2.1 dX8_rememberAsked_22 hl (k := 1) rfl (by rw [ev5]; rfl) (by decide) rfl (fun ls hl => ?_)
    refine lv_goto (tgt := 2) F.1 F.2.1 dX8_rememberAsked_25 (by decide) ?_
    exact hK2 x0 v5 hx0 hr (lv_sub hl [1, 0] rfl) h
theorem lX8_rememberAsked_2 (hst : zSt B ids) (F : zFx p m c cX8_rememberAsked 2 s args RX8 D cy B ids A) (hA : ∀ q : Nat, s.heap.size ≤ q → A q) {r : Int32} {z' : St} (E : zEnd p l e rmX8_rememberAsked s m args below meth c cX8_rememberAsked D cy B ids A Q (some (.int r)) z' .ireturn True) {N : Nat}  : ∀ (n : Nat) (x0 : Nat) (x1 : Int32) (hx0 : (8, x0) ∈ ids) {z : St} {H : Heap} {locs : List Loc} {ls : Array Slot} (hr : zRep D cy B ids A s.heap z H locs) (hl : lv_has ls 2 [(0, .ref (B 8 x0)), (1, .int x1)]), fX8_rememberAsked_2 N  n x0 x1 z = some (r, z') → W p l e rmX8_rememberAsked s m args below meth c H locs 0 0 Q (F0 m 2 ls []) := by
  intro n
  induction n with
  | zero => intro x0 x1 hx0 z H locs ls hr hl h; cases h
  | succ n ih => intro x0 x1 hx0 z H locs ls hr hl h; exact bX8_rememberAsked_2 hst F hA E ih x0 x1 hx0 hr hl h
def fX8_rememberAsked (N : Nat)  (x0 : Nat) (z : St) : Option (Int32 × St) := fX8_rememberAsked_2 N N x0 (0) z
set_option maxHeartbeats 4000000 in
set_option maxRecDepth 100000 in
theorem bX8_rememberAsked_0 (hst : zSt B ids) (F : zFx p m c cX8_rememberAsked 2 s args RX8 D cy B ids A) (hA : ∀ q : Nat, s.heap.size ≤ q → A q) {r : Int32} {z' : St} (E : zEnd p l e rmX8_rememberAsked s m args below meth c cX8_rememberAsked D cy B ids A Q (some (.int r)) z' .ireturn True) {N : Nat}  (x0 : Nat) (hx0 : (8, x0) ∈ ids) {z : St} {H : Heap} {locs : List Loc} {ls : Array Slot} (hr : zRep D cy B ids A s.heap z H locs) (hl : lv_has ls 2 [(0, .ref (B 8 x0))]) (h : fX8_rememberAsked N x0 z = some (r, z')) : W p l e rmX8_rememberAsked s m args below meth c H locs 0 0 Q (F0 m 0 ls []) := by
  unfold fX8_rememberAsked at h
  refine lv_iconst (v := (0)) F.1 F.2.1 dX8_rememberAsked_0 (by decide) ?_
  refine lv_istore_n (lv' := [(1, .int (0)), (0, .ref (B 8 x0))]) F.1 F.2.1 dX8_rememberAsked_1 rfl hl (by decide) rfl (fun ls hl => ?_)
  exact lX8_rememberAsked_2 hst F hA E  _ x0 (0) hx0 hr (lv_sub hl [1, 0] rfl) h
end SX8_rememberAsked
set_option maxRecDepth 100000 in
theorem okX8_rememberAsked (l : Launch) (D : va_G) (cy : Nat → ClassId) (B : Nat → Nat → Nat) (ids : List (Nat × Nat)) (hst : zSt B ids) (N : Nat) (x0 : Nat) (hx0 : (8, x0) ∈ ids) {z : St} {r : Int32} {z' : St} (hW : zWf ids z) (h : fX8_rememberAsked N x0 z = some (r, z')) : zM l yX8_rememberAsked (zws yX8_rememberAsked cX8_rememberAsked 2 (some .int)) rmX8_rememberAsked D cy B ids [.ref (B 8 x0)] (some (.int r)) True z z' :=
  zM_of hst hW (by decide +kernel) (Nat.le_of_ble_eq_true rfl) (fun p e s m args below meth c A ls F hA hret hlocks hr hl => bX8_rememberAsked_0 hst F hA (zEnd_i F hret hlocks) x0 hx0 hr hl h)
abbrev rmX8_firstWaitingFor : Room := { frames := 0, cells := 0, slots := 0, locals := 0 }
theorem hdX8_firstWaitingFor : yX8_firstWaitingFor.cls ≠ "java/lang/invoke/MethodHandle" ∧ yX8_firstWaitingFor.cls ≠ "java/lang/invoke/VarHandle" ∧ (parseMethodDescriptor yX8_firstWaitingFor.desc).map (fun d => d.parameters.length) = some 1 := by decide +kernel
section SX8_firstWaitingFor
variable {p : Program} {l : Launch} {e : Env} {s : State} {m : MethodId} {args : Array Value} {below : List Frame} {meth : Method} {c : Code} {Q : State → Prop} {D : va_G} {cy : Nat → ClassId} {B : Nat → Nat → Nat} {ids : List (Nat × Nat)} {A : Nat → Prop}
def fX8_firstWaitingFor_2b (N : Nat) (K2 : Nat → Int32 → Int32 → St → Option (Int32 × St)) (x0 : Nat) (x1 : Int32) (x2 : Int32) (z : St) : Option (Int32 × St) := if (zgI z 8 12 x0) ≤ x2 then (some ((-1), z)) else (zk x2 17 <| zl (zgQ z 130 x0 x2.toNatClampNeg) fun y3 => zd y3 fun a4 => if ¬ (zgI z 7 11 a4) = x1 then (zl (x2 + 1) fun v6 => K2 x0 x1 v6 z) else (some (x2, z)))
def fX8_firstWaitingFor_2 (N : Nat)  : Nat → Nat → Int32 → Int32 → St → Option (Int32 × St)
  | 0 => fun _ _ _ _ => none
  | n + 1 => fX8_firstWaitingFor_2b N (fX8_firstWaitingFor_2 N  n)
set_option maxHeartbeats 4000000 in
set_option maxRecDepth 100000 in
theorem bX8_firstWaitingFor_2 (hst : zSt B ids) (F : zFx p m c cX8_firstWaitingFor 3 s args RX8 D cy B ids A) (hA : ∀ q : Nat, s.heap.size ≤ q → A q) {r : Int32} {z' : St} (E : zEnd p l e rmX8_firstWaitingFor s m args below meth c cX8_firstWaitingFor D cy B ids A Q (some (.int r)) z' .ireturn True) {N : Nat} {K2 : Nat → Int32 → Int32 → St → Option (Int32 × St)} (hK2 : ∀ (x0 : Nat) (x1 : Int32) (x2 : Int32) (hx0 : (8, x0) ∈ ids) {z : St} {H : Heap} {locs : List Loc} {ls : Array Slot} (hr : zRep D cy B ids A s.heap z H locs) (hl : lv_has ls 3 [(0, .ref (B 8 x0)), (1, .int x1), (2, .int x2)]), K2 x0 x1 x2 z = some (r, z') → W p l e rmX8_firstWaitingFor s m args below meth c H locs 0 0 Q (F0 m 2 ls [])) (x0 : Nat) (x1 : Int32) (x2 : Int32) (hx0 : (8, x0) ∈ ids) {z : St} {H : Heap} {locs : List Loc} {ls : Array Slot} (hr : zRep D cy B ids A s.heap z H locs) (hl : lv_has ls 3 [(0, .ref (B 8 x0)), (1, .int x1), (2, .int x2)]) (h : fX8_firstWaitingFor_2b N K2 x0 x1 x2 z = some (r, z')) : W p l e rmX8_firstWaitingFor s m args below meth c H locs 0 0 Q (F0 m 2 ls []) := by
  unfold fX8_firstWaitingFor_2b at h
  refine lv_iload_n F.1 F.2.1 dX8_firstWaitingFor_2 rfl (lv_at hl 2 rfl) ?_
  refine lv_aload_n F.1 F.2.1 dX8_firstWaitingFor_3 rfl (lv_at hl 0 rfl) ?_
  refine gf8_61 F hx0 hr dX8_firstWaitingFor_4 ?_
  refine lv_icmp_ge (tgt := 31) F.1 F.2.1 dX8_firstWaitingFor_7 (by decide) (fun c1 => ?_) (fun c1 => ?_)
  · replace h := zi_t c1 h
    refine lv_iconst (v := (-1)) F.1 F.2.1 dX8_firstWaitingFor_31 (by decide) ?_
    obtain ⟨rfl, rfl⟩ := zret h
    exact E _ _ _ _ dX8_firstWaitingFor_32 trivial hr
  · replace h := zi_f c1 h
    refine lv_aload_n F.1 F.2.1 dX8_firstWaitingFor_10 rfl (lv_at hl 0 rfl) ?_
    refine gf8_30 F hx0 hr dX8_firstWaitingFor_11 ?_
    refine lv_iload_n F.1 F.2.1 dX8_firstWaitingFor_14 rfl (lv_at hl 2 rfl) ?_
    obtain ⟨c2, h⟩ := zk_some h
    refine zr_aaldv (k := 130) (by decide) rfl rfl (zlen_d (by decide)) F (zal_a F hx0 (j := 11) rfl) hr dX8_firstWaitingFor_15 c2 (fun y3 ey3 => ?_)
    replace h := zl_sub ey3 h
    have hy3 := zal_q hr (zal_a F hx0 (j := 11) rfl) rfl ey3
    clear ey3
    obtain ⟨a4, rfl, h⟩ := zd_some h
    refine gf8_71 F (hy3 _ rfl) hr dX8_firstWaitingFor_16 ?_
    refine lv_iload_n F.1 F.2.1 dX8_firstWaitingFor_19 rfl (lv_at hl 1 rfl) ?_
    refine lv_icmp_ne (tgt := 25) F.1 F.2.1 dX8_firstWaitingFor_20 (by decide) (fun c5 => ?_) (fun c5 => ?_)
    · replace h := zi_t c5 h
      obtain ⟨v6, ev6⟩ : ∃ y : Int32, y = (x2 + 1) := ⟨_, rfl⟩
      replace h := zl_sub ev6 h
      refine lv_iinc (v := v6) (lv' := [(2, .int v6), (0, .ref (B 8 x0)), (1, .int x1)]) F.1 F.2.1 dX8_firstWaitingFor_25 hl (k := 2) rfl (by rw [ev6]; rfl) (by decide) rfl (fun ls hl => ?_)
      refine lv_goto (tgt := 2) F.1 F.2.1 dX8_firstWaitingFor_28 (by decide) ?_
      exact hK2 x0 x1 v6 hx0 hr (lv_sub hl [1, 2, 0] rfl) h
    · replace h := zi_f (fun q => q c5) h
      refine lv_iload_n F.1 F.2.1 dX8_firstWaitingFor_23 rfl (lv_at hl 2 rfl) ?_
      obtain ⟨rfl, rfl⟩ := zret h
      exact E _ _ _ _ dX8_firstWaitingFor_24 trivial hr
theorem lX8_firstWaitingFor_2 (hst : zSt B ids) (F : zFx p m c cX8_firstWaitingFor 3 s args RX8 D cy B ids A) (hA : ∀ q : Nat, s.heap.size ≤ q → A q) {r : Int32} {z' : St} (E : zEnd p l e rmX8_firstWaitingFor s m args below meth c cX8_firstWaitingFor D cy B ids A Q (some (.int r)) z' .ireturn True) {N : Nat}  : ∀ (n : Nat) (x0 : Nat) (x1 : Int32) (x2 : Int32) (hx0 : (8, x0) ∈ ids) {z : St} {H : Heap} {locs : List Loc} {ls : Array Slot} (hr : zRep D cy B ids A s.heap z H locs) (hl : lv_has ls 3 [(0, .ref (B 8 x0)), (1, .int x1), (2, .int x2)]), fX8_firstWaitingFor_2 N  n x0 x1 x2 z = some (r, z') → W p l e rmX8_firstWaitingFor s m args below meth c H locs 0 0 Q (F0 m 2 ls []) := by
  intro n
  induction n with
  | zero => intro x0 x1 x2 hx0 z H locs ls hr hl h; cases h
  | succ n ih => intro x0 x1 x2 hx0 z H locs ls hr hl h; exact bX8_firstWaitingFor_2 hst F hA E ih x0 x1 x2 hx0 hr hl h
def fX8_firstWaitingFor (N : Nat)  (x0 : Nat) (x1 : Int32) (z : St) : Option (Int32 × St) := fX8_firstWaitingFor_2 N N x0 x1 (0) z
set_option maxHeartbeats 4000000 in
set_option maxRecDepth 100000 in
theorem bX8_firstWaitingFor_0 (hst : zSt B ids) (F : zFx p m c cX8_firstWaitingFor 3 s args RX8 D cy B ids A) (hA : ∀ q : Nat, s.heap.size ≤ q → A q) {r : Int32} {z' : St} (E : zEnd p l e rmX8_firstWaitingFor s m args below meth c cX8_firstWaitingFor D cy B ids A Q (some (.int r)) z' .ireturn True) {N : Nat}  (x0 : Nat) (x1 : Int32) (hx0 : (8, x0) ∈ ids) {z : St} {H : Heap} {locs : List Loc} {ls : Array Slot} (hr : zRep D cy B ids A s.heap z H locs) (hl : lv_has ls 3 [(0, .ref (B 8 x0)), (1, .int x1)]) (h : fX8_firstWaitingFor N x0 x1 z = some (r, z')) : W p l e rmX8_firstWaitingFor s m args below meth c H locs 0 0 Q (F0 m 0 ls []) := by
  unfold fX8_firstWaitingFor at h
  refine lv_iconst (v := (0)) F.1 F.2.1 dX8_firstWaitingFor_0 (by decide) ?_
  refine lv_istore_n (lv' := [(2, .int (0)), (0, .ref (B 8 x0)), (1, .int x1)]) F.1 F.2.1 dX8_firstWaitingFor_1 rfl hl (by decide) rfl (fun ls hl => ?_)
  exact lX8_firstWaitingFor_2 hst F hA E  _ x0 x1 (0) hx0 hr (lv_sub hl [1, 2, 0] rfl) h
end SX8_firstWaitingFor
set_option maxRecDepth 100000 in
theorem okX8_firstWaitingFor (l : Launch) (D : va_G) (cy : Nat → ClassId) (B : Nat → Nat → Nat) (ids : List (Nat × Nat)) (hst : zSt B ids) (N : Nat) (x0 : Nat) (hx0 : (8, x0) ∈ ids) (x1 : Int32) {z : St} {r : Int32} {z' : St} (hW : zWf ids z) (h : fX8_firstWaitingFor N x0 x1 z = some (r, z')) : zM l yX8_firstWaitingFor (zws yX8_firstWaitingFor cX8_firstWaitingFor 3 (some .int)) rmX8_firstWaitingFor D cy B ids [.ref (B 8 x0), .int x1] (some (.int r)) True z z' :=
  zM_of hst hW (by decide +kernel) (Nat.le_of_ble_eq_true rfl) (fun p e s m args below meth c A ls F hA hret hlocks hr hl => bX8_firstWaitingFor_0 hst F hA (zEnd_i F hret hlocks) x0 x1 hx0 hr hl h)
abbrev rmX8_takeWaiting : Room := { frames := 0, cells := 0, slots := 0, locals := 0 }
theorem hdX8_takeWaiting : yX8_takeWaiting.cls ≠ "java/lang/invoke/MethodHandle" ∧ yX8_takeWaiting.cls ≠ "java/lang/invoke/VarHandle" ∧ (parseMethodDescriptor yX8_takeWaiting.desc).map (fun d => d.parameters.length) = some 1 := by decide +kernel
section SX8_takeWaiting
variable {p : Program} {l : Launch} {e : Env} {s : State} {m : MethodId} {args : Array Value} {below : List Frame} {meth : Method} {c : Code} {Q : State → Prop} {D : va_G} {cy : Nat → ClassId} {B : Nat → Nat → Nat} {ids : List (Nat × Nat)} {A : Nat → Prop}
def fX8_takeWaiting_9b (N : Nat) (K9 : Nat → Option Nat → Int32 → St → Option (Option Nat × St)) (x0 : Nat) (x2 : Option Nat) (x3 : Int32) (z : St) : Option (Option Nat × St) := if (zgI z 8 12 x0) ≤ (x3 + (1)) then (zl (zsI z 8 12 x0 ((zgI z 8 12 x0) - (1))) fun z2 => zk (zgI z2 8 12 x0) 17 <| zl (zsQ z2 130 x0 (zgI z2 8 12 x0).toNatClampNeg x2) fun z4 => some (x2, z4)) else (zk (x3 + (1)) 17 <| zl (zgQ z 130 x0 (x3 + (1)).toNatClampNeg) fun y6 => zk x3 17 <| zl (zsQ z 130 x0 x3.toNatClampNeg y6) fun z8 => zl (x3 + 1) fun v9 => K9 x0 x2 v9 z8)
def fX8_takeWaiting_9 (N : Nat)  : Nat → Nat → Option Nat → Int32 → St → Option (Option Nat × St)
  | 0 => fun _ _ _ _ => none
  | n + 1 => fX8_takeWaiting_9b N (fX8_takeWaiting_9 N  n)
set_option maxHeartbeats 4000000 in
set_option maxRecDepth 100000 in
theorem bX8_takeWaiting_9 (hst : zSt B ids) (F : zFx p m c cX8_takeWaiting 4 s args RX8 D cy B ids A) (hA : ∀ q : Nat, s.heap.size ≤ q → A q) {r : Option Nat} {z' : St} (E : zEnd p l e rmX8_takeWaiting s m args below meth c cX8_takeWaiting D cy B ids A Q (some (va_rf (r.map (B 7)))) z' .areturn (∀ i, r = some i → (7, i) ∈ ids)) {N : Nat} {K9 : Nat → Option Nat → Int32 → St → Option (Option Nat × St)} (hK9 : ∀ (x0 : Nat) (x2 : Option Nat) (x3 : Int32) (hx0 : (8, x0) ∈ ids) (hx2 : ∀ t, x2 = some t → (7, t) ∈ ids) {z : St} {H : Heap} {locs : List Loc} {ls : Array Slot} (hr : zRep D cy B ids A s.heap z H locs) (hl : lv_has ls 4 [(0, .ref (B 8 x0)), (2, va_rf (Option.map (B 7) x2)), (3, .int x3)]), K9 x0 x2 x3 z = some (r, z') → W p l e rmX8_takeWaiting s m args below meth c H locs 0 0 Q (F0 m 9 ls [])) (x0 : Nat) (x2 : Option Nat) (x3 : Int32) (hx0 : (8, x0) ∈ ids) (hx2 : ∀ t, x2 = some t → (7, t) ∈ ids) {z : St} {H : Heap} {locs : List Loc} {ls : Array Slot} (hr : zRep D cy B ids A s.heap z H locs) (hl : lv_has ls 4 [(0, .ref (B 8 x0)), (2, va_rf (Option.map (B 7) x2)), (3, .int x3)]) (h : fX8_takeWaiting_9b N K9 x0 x2 x3 z = some (r, z')) : W p l e rmX8_takeWaiting s m args below meth c H locs 0 0 Q (F0 m 9 ls []) := by
  unfold fX8_takeWaiting_9b at h
  refine lv_iload_n F.1 F.2.1 dX8_takeWaiting_9 rfl (lv_at hl 2 rfl) ?_
  refine lv_iconst (v := (1)) F.1 F.2.1 dX8_takeWaiting_10 (by decide) ?_
  refine lv_iadd F.1 F.2.1 dX8_takeWaiting_11 ?_
  refine lv_aload_n F.1 F.2.1 dX8_takeWaiting_12 rfl (lv_at hl 0 rfl) ?_
  refine gf8_61 F hx0 hr dX8_takeWaiting_13 ?_
  refine lv_icmp_ge (tgt := 39) F.1 F.2.1 dX8_takeWaiting_16 (by decide) (fun c1 => ?_) (fun c1 => ?_)
  · replace h := zi_t c1 h
    refine lv_aload_n F.1 F.2.1 dX8_takeWaiting_39 rfl (lv_at hl 0 rfl) ?_
    refine lv_dup F.1 F.2.1 dX8_takeWaiting_40 rfl ?_
    refine gf8_61 F hx0 hr dX8_takeWaiting_41 ?_
    refine lv_iconst (v := (1)) F.1 F.2.1 dX8_takeWaiting_44 (by decide) ?_
    refine lv_isub F.1 F.2.1 dX8_takeWaiting_45 ?_
    refine pf8_61 F hx0 hr dX8_takeWaiting_46 ((zgI z 8 12 x0) - (1)) (fun H locs z2 ez2 hr => ?_)
    replace h := zl_sub ez2 h
    clear ez2
    refine lv_aload_n F.1 F.2.1 dX8_takeWaiting_49 rfl (lv_at hl 0 rfl) ?_
    refine gf8_30 F hx0 hr dX8_takeWaiting_50 ?_
    refine lv_aload_n F.1 F.2.1 dX8_takeWaiting_53 rfl (lv_at hl 0 rfl) ?_
    refine gf8_61 F hx0 hr dX8_takeWaiting_54 ?_
    refine zr_aload_n F.1 F.2.1 dX8_takeWaiting_57 rfl (lv_at hl 1 rfl) ?_
    obtain ⟨c3, h⟩ := zk_some h
    refine zr_aast (k := 130) (v := x2) (T := TX7) (N := 20) (by decide) rfl (by decide) rfl rfl F (zal_a F hx0 (j := 11) rfl) hr dX8_takeWaiting_58 (by rw [zlen_d (by decide)]; exact c3) hx2 (fun H locs z4 ez4 hr => ?_)
    replace h := zl_sub ez4 h
    clear ez4
    refine zr_aload_n F.1 F.2.1 dX8_takeWaiting_59 rfl (lv_at hl 1 rfl) ?_
    obtain ⟨rfl, rfl⟩ := zret h
    exact E _ _ _ _ dX8_takeWaiting_60 hx2 hr
  · replace h := zi_f c1 h
    refine lv_aload_n F.1 F.2.1 dX8_takeWaiting_19 rfl (lv_at hl 0 rfl) ?_
    refine gf8_30 F hx0 hr dX8_takeWaiting_20 ?_
    refine lv_iload_n F.1 F.2.1 dX8_takeWaiting_23 rfl (lv_at hl 2 rfl) ?_
    refine lv_aload_n F.1 F.2.1 dX8_takeWaiting_24 rfl (lv_at hl 0 rfl) ?_
    refine gf8_30 F hx0 hr dX8_takeWaiting_25 ?_
    refine lv_iload_n F.1 F.2.1 dX8_takeWaiting_28 rfl (lv_at hl 2 rfl) ?_
    refine lv_iconst (v := (1)) F.1 F.2.1 dX8_takeWaiting_29 (by decide) ?_
    refine lv_iadd F.1 F.2.1 dX8_takeWaiting_30 ?_
    obtain ⟨c5, h⟩ := zk_some h
    refine zr_aaldv (k := 130) (by decide) rfl rfl (zlen_d (by decide)) F (zal_a F hx0 (j := 11) rfl) hr dX8_takeWaiting_31 c5 (fun y6 ey6 => ?_)
    replace h := zl_sub ey6 h
    have hy6 := zal_q hr (zal_a F hx0 (j := 11) rfl) rfl ey6
    clear ey6
    obtain ⟨c7, h⟩ := zk_some h
    refine zr_aast (k := 130) (v := y6) (T := TX7) (N := 20) (by decide) rfl (by decide) rfl rfl F (zal_a F hx0 (j := 11) rfl) hr dX8_takeWaiting_32 (by rw [zlen_d (by decide)]; exact c7) hy6 (fun H locs z8 ez8 hr => ?_)
    replace h := zl_sub ez8 h
    clear ez8
    obtain ⟨v9, ev9⟩ : ∃ y : Int32, y = (x3 + 1) := ⟨_, rfl⟩
    replace h := zl_sub ev9 h
    refine lv_iinc (v := v9) (lv' := [(3, .int v9), (0, .ref (B 8 x0)), (2, va_rf (Option.map (B 7) x2))]) F.1 F.2.1 dX8_takeWaiting_33 hl (k := 2) rfl (by rw [ev9]; rfl) (by decide) (by simp only [List.filter, zrf_cat]; rfl) (fun ls hl => ?_)
    refine lv_goto (tgt := 9) F.1 F.2.1 dX8_takeWaiting_36 (by decide) ?_
    exact hK9 x0 x2 v9 hx0 hx2 hr (lv_sub hl [1, 2, 0] rfl) h
theorem lX8_takeWaiting_9 (hst : zSt B ids) (F : zFx p m c cX8_takeWaiting 4 s args RX8 D cy B ids A) (hA : ∀ q : Nat, s.heap.size ≤ q → A q) {r : Option Nat} {z' : St} (E : zEnd p l e rmX8_takeWaiting s m args below meth c cX8_takeWaiting D cy B ids A Q (some (va_rf (r.map (B 7)))) z' .areturn (∀ i, r = some i → (7, i) ∈ ids)) {N : Nat}  : ∀ (n : Nat) (x0 : Nat) (x2 : Option Nat) (x3 : Int32) (hx0 : (8, x0) ∈ ids) (hx2 : ∀ t, x2 = some t → (7, t) ∈ ids) {z : St} {H : Heap} {locs : List Loc} {ls : Array Slot} (hr : zRep D cy B ids A s.heap z H locs) (hl : lv_has ls 4 [(0, .ref (B 8 x0)), (2, va_rf (Option.map (B 7) x2)), (3, .int x3)]), fX8_takeWaiting_9 N  n x0 x2 x3 z = some (r, z') → W p l e rmX8_takeWaiting s m args below meth c H locs 0 0 Q (F0 m 9 ls []) := by
  intro n
  induction n with
  | zero => intro x0 x2 x3 hx0 hx2 z H locs ls hr hl h; cases h
  | succ n ih => intro x0 x2 x3 hx0 hx2 z H locs ls hr hl h; exact bX8_takeWaiting_9 hst F hA E ih x0 x2 x3 hx0 hx2 hr hl h
def fX8_takeWaiting (N : Nat)  (x0 : Nat) (x1 : Int32) (z : St) : Option (Option Nat × St) := zk x1 17 <| zl (zgQ z 130 x0 x1.toNatClampNeg) fun y2 => fX8_takeWaiting_9 N N x0 y2 x1 z
set_option maxHeartbeats 4000000 in
set_option maxRecDepth 100000 in
theorem bX8_takeWaiting_0 (hst : zSt B ids) (F : zFx p m c cX8_takeWaiting 4 s args RX8 D cy B ids A) (hA : ∀ q : Nat, s.heap.size ≤ q → A q) {r : Option Nat} {z' : St} (E : zEnd p l e rmX8_takeWaiting s m args below meth c cX8_takeWaiting D cy B ids A Q (some (va_rf (r.map (B 7)))) z' .areturn (∀ i, r = some i → (7, i) ∈ ids)) {N : Nat}  (x0 : Nat) (x1 : Int32) (hx0 : (8, x0) ∈ ids) {z : St} {H : Heap} {locs : List Loc} {ls : Array Slot} (hr : zRep D cy B ids A s.heap z H locs) (hl : lv_has ls 4 [(0, .ref (B 8 x0)), (1, .int x1)]) (h : fX8_takeWaiting N x0 x1 z = some (r, z')) : W p l e rmX8_takeWaiting s m args below meth c H locs 0 0 Q (F0 m 0 ls []) := by
  unfold fX8_takeWaiting at h
  refine lv_aload_n F.1 F.2.1 dX8_takeWaiting_0 rfl (lv_at hl 0 rfl) ?_
  refine gf8_30 F hx0 hr dX8_takeWaiting_1 ?_
  refine lv_iload_n F.1 F.2.1 dX8_takeWaiting_4 rfl (lv_at hl 1 rfl) ?_
  obtain ⟨c1, h⟩ := zk_some h
  refine zr_aaldv (k := 130) (by decide) rfl rfl (zlen_d (by decide)) F (zal_a F hx0 (j := 11) rfl) hr dX8_takeWaiting_5 c1 (fun y2 ey2 => ?_)
  replace h := zl_sub ey2 h
  have hy2 := zal_q hr (zal_a F hx0 (j := 11) rfl) rfl ey2
  clear ey2
  refine zr_astore_n (lv' := [(2, va_rf (Option.map (B 7) y2)), (0, .ref (B 8 x0)), (1, .int x1)]) F.1 F.2.1 dX8_takeWaiting_6 rfl hl (by decide) rfl (fun ls hl => ?_)
  refine lv_iload_n F.1 F.2.1 dX8_takeWaiting_7 rfl (lv_at hl 2 rfl) ?_
  refine lv_istore_n (lv' := [(3, .int x1), (2, va_rf (Option.map (B 7) y2)), (0, .ref (B 8 x0)), (1, .int x1)]) F.1 F.2.1 dX8_takeWaiting_8 rfl hl (by decide) (by simp only [List.filter, zrf_cat]; rfl) (fun ls hl => ?_)
  exact lX8_takeWaiting_9 hst F hA E  _ x0 y2 x1 hx0 hy2 hr (lv_sub hl [2, 1, 0] rfl) h
end SX8_takeWaiting
set_option maxRecDepth 100000 in
theorem okX8_takeWaiting (l : Launch) (D : va_G) (cy : Nat → ClassId) (B : Nat → Nat → Nat) (ids : List (Nat × Nat)) (hst : zSt B ids) (N : Nat) (x0 : Nat) (hx0 : (8, x0) ∈ ids) (x1 : Int32) {z : St} {r : Option Nat} {z' : St} (hW : zWf ids z) (h : fX8_takeWaiting N x0 x1 z = some (r, z')) : zM l yX8_takeWaiting (zws yX8_takeWaiting cX8_takeWaiting 4 (some (.object "WholeInternet$Parcel"))) rmX8_takeWaiting D cy B ids [.ref (B 8 x0), .int x1] (some (va_rf (r.map (B 7)))) (∀ i, r = some i → (7, i) ∈ ids) z z' :=
  zM_of hst hW (by decide +kernel) (Nat.le_of_ble_eq_true rfl) (fun p e s m args below meth c A ls F hA hret hlocks hr hl => bX8_takeWaiting_0 hst F hA (zEnd_r F hret hlocks) x0 x1 hx0 hr hl h)
abbrev rmX11_isBefore : Room := { frames := 0, cells := 0, slots := 0, locals := 0 }
theorem hdX11_isBefore : yX11_isBefore.cls ≠ "java/lang/invoke/MethodHandle" ∧ yX11_isBefore.cls ≠ "java/lang/invoke/VarHandle" ∧ (parseMethodDescriptor yX11_isBefore.desc).map (fun d => d.parameters.length) = some 2 := by decide +kernel
section SX11_isBefore
variable {p : Program} {l : Launch} {e : Env} {s : State} {m : MethodId} {args : Array Value} {below : List Frame} {meth : Method} {c : Code} {Q : State → Prop} {D : va_G} {cy : Nat → ClassId} {B : Nat → Nat → Nat} {ids : List (Nat × Nat)} {A : Nat → Prop}
def fX11_isBefore (N : Nat)  (x0 : Int32) (x1 : Int32) (z : St) : Option (Int32 × St) := if (x1 - x0) ≤ 0 then (some ((0), z)) else (some ((1), z))
set_option maxHeartbeats 4000000 in
set_option maxRecDepth 100000 in
theorem bX11_isBefore_0 (hst : zSt B ids) (F : zFx p m c cX11_isBefore 2 s args RX11 D cy B ids A) (hA : ∀ q : Nat, s.heap.size ≤ q → A q) {r : Int32} {z' : St} (E : zEnd p l e rmX11_isBefore s m args below meth c cX11_isBefore D cy B ids A Q (some (.int r)) z' .ireturn (r = 0 ∨ r = 1)) {N : Nat}  (x0 : Int32) (x1 : Int32)  {z : St} {H : Heap} {locs : List Loc} {ls : Array Slot} (hr : zRep D cy B ids A s.heap z H locs) (hl : lv_has ls 2 [(0, .int x0), (1, .int x1)]) (h : fX11_isBefore N x0 x1 z = some (r, z')) : W p l e rmX11_isBefore s m args below meth c H locs 0 0 Q (F0 m 0 ls []) := by
  unfold fX11_isBefore at h
  refine lv_iload_n F.1 F.2.1 dX11_isBefore_0 rfl (lv_at hl 1 rfl) ?_
  refine lv_iload_n F.1 F.2.1 dX11_isBefore_1 rfl (lv_at hl 0 rfl) ?_
  refine lv_isub F.1 F.2.1 dX11_isBefore_2 ?_
  refine lv_if_le (tgt := 10) F.1 F.2.1 dX11_isBefore_3 (by decide) (fun c1 => ?_) (fun c1 => ?_)
  · replace h := zi_t c1 h
    refine lv_iconst (v := (0)) F.1 F.2.1 dX11_isBefore_10 (by decide) ?_
    obtain ⟨rfl, rfl⟩ := zret h
    exact E _ _ _ _ dX11_isBefore_11 (by decide) hr
  · replace h := zi_f c1 h
    refine lv_iconst (v := (1)) F.1 F.2.1 dX11_isBefore_6 (by decide) ?_
    refine lv_goto (tgt := 11) F.1 F.2.1 dX11_isBefore_7 (by decide) ?_
    obtain ⟨rfl, rfl⟩ := zret h
    exact E _ _ _ _ dX11_isBefore_11 (by decide) hr
end SX11_isBefore
set_option maxRecDepth 100000 in
theorem okX11_isBefore (l : Launch) (D : va_G) (cy : Nat → ClassId) (B : Nat → Nat → Nat) (ids : List (Nat × Nat)) (hst : zSt B ids) (N : Nat) (x0 : Int32) (x1 : Int32) {z : St} {r : Int32} {z' : St} (hW : zWf ids z) (h : fX11_isBefore N x0 x1 z = some (r, z')) : zM l yX11_isBefore (zws yX11_isBefore cX11_isBefore 2 (some .boolean)) rmX11_isBefore D cy B ids [.int x0, .int x1] (some (.int r)) (r = 0 ∨ r = 1) z z' :=
  zM_of hst hW (by decide +kernel) (Nat.le_of_ble_eq_true rfl) (fun p e s m args below meth c A ls F hA hret hlocks hr hl => bX11_isBefore_0 hst F hA (zEnd_z F hret hlocks) x0 x1 hr hl h)
abbrev rmX10_thanked : Room := { frames := 1, cells := 0, slots := 0, locals := 60 }
theorem hdX10_thanked : yX10_thanked.cls ≠ "java/lang/invoke/MethodHandle" ∧ yX10_thanked.cls ≠ "java/lang/invoke/VarHandle" ∧ (parseMethodDescriptor yX10_thanked.desc).map (fun d => d.parameters.length) = some 2 := by decide +kernel
theorem hroX10_thanked_X11_isBefore : rmX11_isBefore.frames + 1 ≤ rmX10_thanked.frames ∧ 8 + (2 + 11) + rmX11_isBefore.locals ≤ rmX10_thanked.locals := by decide
section SX10_thanked
variable {p : Program} {l : Launch} {e : Env} {s : State} {m : MethodId} {args : Array Value} {below : List Frame} {meth : Method} {c : Code} {Q : State → Prop} {D : va_G} {cy : Nat → ClassId} {B : Nat → Nat → Nat} {ids : List (Nat × Nat)} {A : Nat → Prop}
def fX10_thanked_109 (N : Nat)  (x0 : Nat) (z : St) : Option (Int32 × St) := zl (zsI z 10 2 x0 (if (20) < (if (((zgI z 10 3 x0) / (8)) + (if (zgI z 10 4 x0) < (1) then (1) else (zgI z 10 4 x0))) < (1200) then (((zgI z 10 3 x0) / (8)) + (if (zgI z 10 4 x0) < (1) then (1) else (zgI z 10 4 x0))) else (1200)) then (if (((zgI z 10 3 x0) / (8)) + (if (zgI z 10 4 x0) < (1) then (1) else (zgI z 10 4 x0))) < (1200) then (((zgI z 10 3 x0) / (8)) + (if (zgI z 10 4 x0) < (1) then (1) else (zgI z 10 4 x0))) else (1200)) else (20))) fun z1 => some (0, z1)
set_option maxHeartbeats 4000000 in
set_option maxRecDepth 100000 in
theorem bX10_thanked_109 (hst : zSt B ids) (F : zFx p m c cX10_thanked 5 s args RX10 D cy B ids A) (hA : ∀ q : Nat, s.heap.size ≤ q → A q) {r : Int32} {z' : St} (E : zEnd p l e rmX10_thanked s m args below meth c cX10_thanked D cy B ids A Q none z' .return_ True) {N : Nat}  (x0 : Nat) (hx0 : (10, x0) ∈ ids) {z : St} {H : Heap} {locs : List Loc} {ls : Array Slot} (hr : zRep D cy B ids A s.heap z H locs) (hl : lv_has ls 5 [(0, .ref (B 10 x0))]) (h : fX10_thanked_109 N x0 z = some (r, z')) : W p l e rmX10_thanked s m args below meth c H locs 0 0 Q (F0 m 109 ls []) := by
  unfold fX10_thanked_109 at h
  refine lv_aload_n F.1 F.2.1 dX10_thanked_109 rfl (lv_at hl 0 rfl) ?_
  refine lv_bipush (v := (20)) F.1 F.2.1 dX10_thanked_110 (by decide) ?_
  refine lv_sipush (v := (1200)) F.1 F.2.1 dX10_thanked_112 (by decide) ?_
  refine lv_aload_n F.1 F.2.1 dX10_thanked_115 rfl (lv_at hl 0 rfl) ?_
  refine gf10_19 F hx0 hr dX10_thanked_116 ?_
  refine lv_bipush (v := (8)) F.1 F.2.1 dX10_thanked_119 (by decide) ?_
  refine lv_idiv F.1 F.2.1 dX10_thanked_121 (by decide) ?_
  refine lv_aload_n F.1 F.2.1 dX10_thanked_122 rfl (lv_at hl 0 rfl) ?_
  refine gf10_22 F hx0 hr dX10_thanked_123 ?_
  refine lv_iconst (v := (1)) F.1 F.2.1 dX10_thanked_126 (by decide) ?_
  refine va_mmax F.1 F.2.1 (F.2.2.1.trans hl.1.symm) F.2.2.2.1 (F.2.2.2.2.1 _ zq_1359) (F.2.2.2.2.1 _ zq_275) (F.2.2.2.2.1 _ zq_27) (F.2.2.2.2.1 _ zq_276) (Nat.le_of_ble_eq_true rfl) (Nat.le_of_ble_eq_true rfl) (Nat.zero_le _) (Nat.zero_le _) dX10_thanked_127 ?_
  refine lv_iadd F.1 F.2.1 dX10_thanked_130 ?_
  refine va_mmin F.1 F.2.1 (F.2.2.1.trans hl.1.symm) F.2.2.2.1 (F.2.2.2.2.1 _ zq_1360) (F.2.2.2.2.1 _ zq_304) (F.2.2.2.2.1 _ zq_27) (F.2.2.2.2.1 _ zq_305) (Nat.le_of_ble_eq_true rfl) (Nat.le_of_ble_eq_true rfl) (Nat.zero_le _) (Nat.zero_le _) dX10_thanked_131 ?_
  refine va_mmax F.1 F.2.1 (F.2.2.1.trans hl.1.symm) F.2.2.2.1 (F.2.2.2.2.1 _ zq_1359) (F.2.2.2.2.1 _ zq_275) (F.2.2.2.2.1 _ zq_27) (F.2.2.2.2.1 _ zq_276) (Nat.le_of_ble_eq_true rfl) (Nat.le_of_ble_eq_true rfl) (Nat.zero_le _) (Nat.zero_le _) dX10_thanked_134 ?_
  refine pf10_16 F hx0 hr dX10_thanked_137 (if (20) < (if (((zgI z 10 3 x0) / (8)) + (if (zgI z 10 4 x0) < (1) then (1) else (zgI z 10 4 x0))) < (1200) then (((zgI z 10 3 x0) / (8)) + (if (zgI z 10 4 x0) < (1) then (1) else (zgI z 10 4 x0))) else (1200)) then (if (((zgI z 10 3 x0) / (8)) + (if (zgI z 10 4 x0) < (1) then (1) else (zgI z 10 4 x0))) < (1200) then (((zgI z 10 3 x0) / (8)) + (if (zgI z 10 4 x0) < (1) then (1) else (zgI z 10 4 x0))) else (1200)) else (20)) (fun H locs z1 ez1 hr => ?_)
  replace h := zl_sub ez1 h
  clear ez1
  obtain ⟨rfl, rfl⟩ := zret h
  exact E _ _ _ _ dX10_thanked_140 trivial hr
def fX10_thanked (N : Nat)  (x0 : Nat) (x1 : Int32) (x2 : Int32) (z : St) : Option (Int32 × St) := zl (zsI z 10 1 x0 (0)) fun z1 => if (zgI z1 10 6 x0) = 0 then (some (0, z1)) else (zc (fX11_isBefore N x1 (zgI z1 10 7 x0) z1) fun r3 z4 => if r3 = 0 then (zl (zsI z4 10 6 x0 (0)) fun z8 => zl (x2 - (zgI z8 10 8 x0)) fun v9 => if (zgI z8 10 5 x0) = 0 then (zl (zsI z8 10 5 x0 (1)) fun z11 => zl (zsI z11 10 3 x0 ((8) * v9)) fun z12 => zl (zsI z12 10 4 x0 ((2) * v9)) fun z13 => fX10_thanked_109 N x0 z13) else (zl (v9 - ((zgI z8 10 3 x0) / (8))) fun v14 => zl (zsI z8 10 3 x0 ((zgI z8 10 3 x0) + v14)) fun z15 => zl (zsI z15 10 4 x0 ((zgI z15 10 4 x0) + ((if 0 ≤ v14 then v14 else 0 - v14) - ((zgI z15 10 4 x0) / (4))))) fun z16 => fX10_thanked_109 N x0 z16)) else (some (0, z4)))
set_option maxHeartbeats 4000000 in
set_option maxRecDepth 100000 in
theorem bX10_thanked_0 (hst : zSt B ids) (F : zFx p m c cX10_thanked 5 s args RX10 D cy B ids A) (hA : ∀ q : Nat, s.heap.size ≤ q → A q) {r : Int32} {z' : St} (E : zEnd p l e rmX10_thanked s m args below meth c cX10_thanked D cy B ids A Q none z' .return_ True) {N : Nat}  (x0 : Nat) (x1 : Int32) (x2 : Int32) (hx0 : (10, x0) ∈ ids) {z : St} {H : Heap} {locs : List Loc} {ls : Array Slot} (hr : zRep D cy B ids A s.heap z H locs) (hl : lv_has ls 5 [(0, .ref (B 10 x0)), (1, .int x1), (2, .int x2)]) (h : fX10_thanked N x0 x1 x2 z = some (r, z')) : W p l e rmX10_thanked s m args below meth c H locs 0 0 Q (F0 m 0 ls []) := by
  unfold fX10_thanked at h
  refine lv_aload_n F.1 F.2.1 dX10_thanked_0 rfl (lv_at hl 0 rfl) ?_
  refine lv_iconst (v := (0)) F.1 F.2.1 dX10_thanked_1 (by decide) ?_
  refine pf10_13 F hx0 hr dX10_thanked_2 (0) (fun H locs z1 ez1 hr => ?_)
  replace h := zl_sub ez1 h
  clear ez1
  refine lv_aload_n F.1 F.2.1 dX10_thanked_5 rfl (lv_at hl 0 rfl) ?_
  refine gf10_29 F hx0 hr dX10_thanked_6 ?_
  refine lv_if_eq (tgt := 23) F.1 F.2.1 dX10_thanked_9 (by decide) (fun c2 => ?_) (fun c2 => ?_)
  · replace h := zi_t c2 h
    obtain ⟨rfl, rfl⟩ := zret h
    exact E _ _ _ _ dX10_thanked_23 trivial hr
  · replace h := zi_f c2 h
    refine lv_iload_n F.1 F.2.1 dX10_thanked_12 rfl (lv_at hl 1 rfl) ?_
    refine lv_aload_n F.1 F.2.1 dX10_thanked_13 rfl (lv_at hl 0 rfl) ?_
    refine gf10_32 F hx0 hr dX10_thanked_14 ?_
    obtain ⟨r3, z4, hc5, h⟩ := zc_some h
    refine zr_calli (zrun_SN (As := [.int x1, .int (zgI z1 10 7 x0)]) (rest := []) zn_1353 zq_1354 zq_1355 zq_1 hdX11_isBefore (okX11_isBefore l D cy B ids hst N x1  (zgI z1 10 7 x0)  hr.2.2 hc5) F hr hl.1 rfl (by decide) dX10_thanked_17 rfl rfl hroX10_thanked_X11_isBefore ⟨Nat.zero_le _, Nat.zero_le _⟩) F hA hr (fun H locs hx6 hr => ?_)
    clear hc5
    refine lv_if_eq (tgt := 24) F.1 F.2.1 dX10_thanked_20 (by decide) (fun c7 => ?_) (fun c7 => ?_)
    · replace h := zi_t c7 h
      refine lv_aload_n F.1 F.2.1 dX10_thanked_24 rfl (lv_at hl 0 rfl) ?_
      refine lv_iconst (v := (0)) F.1 F.2.1 dX10_thanked_25 (by decide) ?_
      refine pf10_29 F hx0 hr dX10_thanked_26 (0) (by decide) (fun H locs z8 ez8 hr => ?_)
      replace h := zl_sub ez8 h
      clear ez8
      refine lv_iload_n F.1 F.2.1 dX10_thanked_29 rfl (lv_at hl 2 rfl) ?_
      refine lv_aload_n F.1 F.2.1 dX10_thanked_30 rfl (lv_at hl 0 rfl) ?_
      refine gf10_35 F hx0 hr dX10_thanked_31 ?_
      refine lv_isub F.1 F.2.1 dX10_thanked_34 ?_
      refine lv_topi (fun v9 ev9 => ?_)
      replace h := zl_sub ev9 h
      refine lv_istore_n (lv' := [(3, .int v9), (0, .ref (B 10 x0)), (1, .int x1), (2, .int x2)]) F.1 F.2.1 dX10_thanked_35 rfl hl (by decide) rfl (fun ls hl => ?_)
      refine lv_aload_n F.1 F.2.1 dX10_thanked_36 rfl (lv_at hl 1 rfl) ?_
      refine gf10_25 F hx0 hr dX10_thanked_37 ?_
      refine lv_if_eq (tgt := 89) F.1 F.2.1 dX10_thanked_40 (by decide) (fun c10 => ?_) (fun c10 => ?_)
      · replace h := zi_t c10 h
        refine lv_aload_n F.1 F.2.1 dX10_thanked_89 rfl (lv_at hl 1 rfl) ?_
        refine lv_iconst (v := (1)) F.1 F.2.1 dX10_thanked_90 (by decide) ?_
        refine pf10_25 F hx0 hr dX10_thanked_91 (1) (by decide) (fun H locs z11 ez11 hr => ?_)
        replace h := zl_sub ez11 h
        clear ez11
        refine lv_aload_n F.1 F.2.1 dX10_thanked_94 rfl (lv_at hl 1 rfl) ?_
        refine lv_bipush (v := (8)) F.1 F.2.1 dX10_thanked_95 (by decide) ?_
        refine lv_iload_n F.1 F.2.1 dX10_thanked_97 rfl (lv_at hl 0 rfl) ?_
        refine lv_imul F.1 F.2.1 dX10_thanked_98 ?_
        refine pf10_19 F hx0 hr dX10_thanked_99 ((8) * v9) (fun H locs z12 ez12 hr => ?_)
        replace h := zl_sub ez12 h
        clear ez12
        refine lv_aload_n F.1 F.2.1 dX10_thanked_102 rfl (lv_at hl 1 rfl) ?_
        refine lv_iconst (v := (2)) F.1 F.2.1 dX10_thanked_103 (by decide) ?_
        refine lv_iload_n F.1 F.2.1 dX10_thanked_104 rfl (lv_at hl 0 rfl) ?_
        refine lv_imul F.1 F.2.1 dX10_thanked_105 ?_
        refine pf10_22 F hx0 hr dX10_thanked_106 ((2) * v9) (fun H locs z13 ez13 hr => ?_)
        replace h := zl_sub ez13 h
        clear ez13
        exact bX10_thanked_109 hst F hA E  x0 hx0 hr (lv_sub hl [1] rfl) h
      · replace h := zi_f c10 h
        refine lv_iload_n F.1 F.2.1 dX10_thanked_43 rfl (lv_at hl 0 rfl) ?_
        refine lv_aload_n F.1 F.2.1 dX10_thanked_44 rfl (lv_at hl 1 rfl) ?_
        refine gf10_19 F hx0 hr dX10_thanked_45 ?_
        refine lv_bipush (v := (8)) F.1 F.2.1 dX10_thanked_48 (by decide) ?_
        refine lv_idiv F.1 F.2.1 dX10_thanked_50 (by decide) ?_
        refine lv_isub F.1 F.2.1 dX10_thanked_51 ?_
        refine lv_topi (fun v14 ev14 => ?_)
        replace h := zl_sub ev14 h
        refine lv_istore (lv' := [(4, .int v14), (3, .int v9), (0, .ref (B 10 x0)), (1, .int x1), (2, .int x2)]) F.1 F.2.1 dX10_thanked_52 hl (by decide) rfl (fun ls hl => ?_)
        refine lv_aload_n F.1 F.2.1 dX10_thanked_54 rfl (lv_at hl 2 rfl) ?_
        refine lv_dup F.1 F.2.1 dX10_thanked_55 rfl ?_
        refine gf10_19 F hx0 hr dX10_thanked_56 ?_
        refine lv_iload F.1 F.2.1 dX10_thanked_59 (lv_at hl 0 rfl) ?_
        refine lv_iadd F.1 F.2.1 dX10_thanked_61 ?_
        refine pf10_19 F hx0 hr dX10_thanked_62 ((zgI z8 10 3 x0) + v14) (fun H locs z15 ez15 hr => ?_)
        replace h := zl_sub ez15 h
        clear ez15
        refine lv_aload_n F.1 F.2.1 dX10_thanked_65 rfl (lv_at hl 2 rfl) ?_
        refine lv_dup F.1 F.2.1 dX10_thanked_66 rfl ?_
        refine gf10_22 F hx0 hr dX10_thanked_67 ?_
        refine lv_iload F.1 F.2.1 dX10_thanked_70 (lv_at hl 0 rfl) ?_
        refine va_mabs F.1 F.2.1 (F.2.2.1.trans hl.1.symm) F.2.2.2.1 (F.2.2.2.2.1 _ zq_1356) (F.2.2.2.2.1 _ zq_1357) (F.2.2.2.2.1 _ zq_27) (F.2.2.2.2.1 _ zq_1358) (Nat.le_of_ble_eq_true rfl) (Nat.le_of_ble_eq_true rfl) (Nat.zero_le _) (Nat.zero_le _) dX10_thanked_72 ?_
        refine lv_aload_n F.1 F.2.1 dX10_thanked_75 rfl (lv_at hl 2 rfl) ?_
        refine gf10_22 F hx0 hr dX10_thanked_76 ?_
        refine lv_iconst (v := (4)) F.1 F.2.1 dX10_thanked_79 (by decide) ?_
        refine lv_idiv F.1 F.2.1 dX10_thanked_80 (by decide) ?_
        refine lv_isub F.1 F.2.1 dX10_thanked_81 ?_
        refine lv_iadd F.1 F.2.1 dX10_thanked_82 ?_
        refine pf10_22 F hx0 hr dX10_thanked_83 ((zgI z15 10 4 x0) + ((if 0 ≤ v14 then v14 else 0 - v14) - ((zgI z15 10 4 x0) / (4)))) (fun H locs z16 ez16 hr => ?_)
        replace h := zl_sub ez16 h
        clear ez16
        refine lv_goto (tgt := 109) F.1 F.2.1 dX10_thanked_86 (by decide) ?_
        exact bX10_thanked_109 hst F hA E  x0 hx0 hr (lv_sub hl [2] rfl) h
    · replace h := zi_f c7 h
      obtain ⟨rfl, rfl⟩ := zret h
      exact E _ _ _ _ dX10_thanked_23 trivial hr
end SX10_thanked
set_option maxRecDepth 100000 in
theorem okX10_thanked (l : Launch) (D : va_G) (cy : Nat → ClassId) (B : Nat → Nat → Nat) (ids : List (Nat × Nat)) (hst : zSt B ids) (N : Nat) (x0 : Nat) (hx0 : (10, x0) ∈ ids) (x1 : Int32) (x2 : Int32) {z : St} {r : Int32} {z' : St} (hW : zWf ids z) (h : fX10_thanked N x0 x1 x2 z = some (r, z')) : zM l yX10_thanked (zws yX10_thanked cX10_thanked 5 none) rmX10_thanked D cy B ids [.ref (B 10 x0), .int x1, .int x2] none True z z' :=
  zM_of hst hW (by decide +kernel) (Nat.le_of_ble_eq_true rfl) (fun p e s m args below meth c A ls F hA hret hlocks hr hl => bX10_thanked_0 hst F hA (zEnd_v F hret hlocks) x0 x1 x2 hx0 hr hl h)
