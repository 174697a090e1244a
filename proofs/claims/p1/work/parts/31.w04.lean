abbrev rmX3_begin : Room := { frames := 2, cells := 0, slots := 0, locals := 42 }
theorem hdX3_begin : yX3_begin.cls ≠ "java/lang/invoke/MethodHandle" ∧ yX3_begin.cls ≠ "java/lang/invoke/VarHandle" ∧ (parseMethodDescriptor yX3_begin.desc).map (fun d => d.parameters.length) = some 3 := by decide +kernel
theorem hroX3_begin_X3_beginAgain : rmX3_beginAgain.frames + 1 ≤ rmX3_begin.frames ∧ 8 + (2 + 11) + rmX3_beginAgain.locals ≤ rmX3_begin.locals := by decide
section SX3_begin
variable {p : Program} {l : Launch} {e : Env} {s : State} {m : MethodId} {args : Array Value} {below : List Frame} {meth : Method} {c : Code} {Q : State → Prop} {D : va_G} {cy : Nat → ClassId} {B : Nat → Nat → Nat} {ids : List (Nat × Nat)} {A : Nat → Prop}
def fX3_begin (N : Nat)  (x0 : Nat) (x1 : Int32) (x2 : Int32) (x3 : Int32) (z : St) : Option (Int32 × St) := zl (zsI z 3 0 x0 (1 : Int32)) fun z1 => zl (zsI z1 3 1 x0 x2) fun z2 => zl (zsI z2 3 3 x0 (1 : Int32)) fun z3 => zl (zsI z3 3 14 x0 x3) fun z4 => zl (zsI z4 3 5 x0 (0 : Int32)) fun z5 => zc (fX3_beginAgain N x0 x1 z5) fun _ z7 => some (0, z7)
set_option maxHeartbeats 4000000 in
set_option maxRecDepth 100000 in
theorem bX3_begin_0 (hst : zSt B ids) (F : zFx p m c cX3_begin 4 s args RX3 D cy B ids A) (hA : ∀ q : Nat, s.heap.size ≤ q → A q) {r : Int32} {z' : St} (E : zEnd p l e rmX3_begin s m args below meth c cX3_begin D cy B ids A Q none z' .return_ True) {N : Nat}  (x0 : Nat) (x1 : Int32) (x2 : Int32) (x3 : Int32) (hx0 : (3, x0) ∈ ids) {z : St} {H : Heap} {locs : List Loc} {ls : Array Slot} (hr : zRep D cy B ids A s.heap z H locs) (hl : lv_has ls 4 [(0, .ref (B 3 x0)), (1, .int x1), (2, .int x2), (3, .int x3)]) (h : fX3_begin N x0 x1 x2 x3 z = some (r, z')) : W p l e rmX3_begin s m args below meth c H locs 0 0 Q (F0 m 0 ls []) := by
  unfold fX3_begin at h
  refine lv_aload_n F.1 F.2.1 dX3_begin_0 rfl (lv_at hl 0 rfl) ?_
  refine lv_iconst (v := (1 : Int32)) F.1 F.2.1 dX3_begin_1 (by decide) ?_
  refine pf3_32 F hx0 hr dX3_begin_2 (1 : Int32) (fun H locs z1 ez1 hr => ?_)
  replace h := zl_sub ez1 h
  clear ez1
  refine lv_aload_n F.1 F.2.1 dX3_begin_5 rfl (lv_at hl 0 rfl) ?_
  refine lv_iload_n F.1 F.2.1 dX3_begin_6 rfl (lv_at hl 2 rfl) ?_
  refine pf3_36 F hx0 hr dX3_begin_7 x2 (fun H locs z2 ez2 hr => ?_)
  replace h := zl_sub ez2 h
  clear ez2
  refine lv_aload_n F.1 F.2.1 dX3_begin_10 rfl (lv_at hl 0 rfl) ?_
  refine lv_iconst (v := (1 : Int32)) F.1 F.2.1 dX3_begin_11 (by decide) ?_
  refine pf3_39 F hx0 hr dX3_begin_12 (1 : Int32) (by decide) (fun H locs z3 ez3 hr => ?_)
  replace h := zl_sub ez3 h
  clear ez3
  refine lv_aload_n F.1 F.2.1 dX3_begin_15 rfl (lv_at hl 0 rfl) ?_
  refine lv_iload_n F.1 F.2.1 dX3_begin_16 rfl (lv_at hl 3 rfl) ?_
  refine pf3_43 F hx0 hr dX3_begin_17 x3 (fun H locs z4 ez4 hr => ?_)
  replace h := zl_sub ez4 h
  clear ez4
  refine lv_aload_n F.1 F.2.1 dX3_begin_20 rfl (lv_at hl 0 rfl) ?_
  refine lv_iconst (v := (0 : Int32)) F.1 F.2.1 dX3_begin_21 (by decide) ?_
  refine pf3_46 F hx0 hr dX3_begin_22 (0 : Int32) (by decide) (fun H locs z5 ez5 hr => ?_)
  replace h := zl_sub ez5 h
  clear ez5
  refine lv_aload_n F.1 F.2.1 dX3_begin_25 rfl (lv_at hl 0 rfl) ?_
  refine lv_iload_n F.1 F.2.1 dX3_begin_26 rfl (lv_at hl 1 rfl) ?_
  replace h := zc_some h
  obtain ⟨r6, z7, hc8, h⟩ := h
  refine zr_callv (zrun_V (As := [.int x1]) (rest := []) zq_1254 zq_1256 zs_X3_beginAgain zq_1257 zq_13 hdX3_beginAgain (by decide) (T := TX3) (N := 19) rfl (okX3_beginAgain l D cy B ids hst N x0 hx0 x1  hr.2.2 hc8) F hr hx0 hl.1 rfl (by decide) dX3_begin_27 rfl rfl hroX3_begin_X3_beginAgain ⟨Nat.zero_le _, Nat.zero_le _⟩) F hA hr (fun H locs hw9 hr => ?_)
  clear hc8
  obtain ⟨rfl, rfl⟩ := zret h
  exact E _ _ _ _ dX3_begin_30 trivial hr
end SX3_begin
set_option maxRecDepth 100000 in
theorem okX3_begin (l : Launch) (D : va_G) (cy : Nat → ClassId) (B : Nat → Nat → Nat) (ids : List (Nat × Nat)) (hst : zSt B ids) (N : Nat) (x0 : Nat) (hx0 : (3, x0) ∈ ids) (x1 : Int32) (x2 : Int32) (x3 : Int32) {z : St} {r : Int32} {z' : St} (hW : zWf ids z) (h : fX3_begin N x0 x1 x2 x3 z = some (r, z')) : zM l yX3_begin (zws yX3_begin cX3_begin 4 none) rmX3_begin D cy B ids [.ref (B 3 x0), .int x1, .int x2, .int x3] none True z z' :=
  zM_of hst hW (by decide +kernel) (Nat.le_of_ble_eq_true rfl) (fun p e s m args below meth c A ls F hA hret hlocks hr hl => bX3_begin_0 hst F hA (zEnd_v F hret hlocks) x0 x1 x2 x3 hx0 hr hl h)
abbrev rmX3_startAsking : Room := { frames := 0, cells := 0, slots := 0, locals := 0 }
theorem hdX3_startAsking : yX3_startAsking.cls ≠ "java/lang/invoke/MethodHandle" ∧ yX3_startAsking.cls ≠ "java/lang/invoke/VarHandle" ∧ (parseMethodDescriptor yX3_startAsking.desc).map (fun d => d.parameters.length) = some 0 := by decide +kernel
section SX3_startAsking
variable {p : Program} {l : Launch} {e : Env} {s : State} {m : MethodId} {args : Array Value} {below : List Frame} {meth : Method} {c : Code} {Q : State → Prop} {D : va_G} {cy : Nat → ClassId} {B : Nat → Nat → Nat} {ids : List (Nat × Nat)} {A : Nat → Prop}
def fX3_startAsking (N : Nat)  (x0 : Nat) (z : St) : Option (Int32 × St) := zl (zsI z 3 0 x0 (2 : Int32)) fun z1 => zl (zsI z1 3 3 x0 (0 : Int32)) fun z2 => zl (zgR z2 3 16 x0) fun y3 => zl (zgR z2 3 16 x0) fun y4 => zd y4 fun a5 => zd y3 fun a6 => zl (zsI z2 6 6 a6 ((zgI z2 6 4 a5) + (1 : Int32))) fun z7 => zl (zsI z7 3 9 x0 (1 : Int32)) fun z8 => some (0, z8)
set_option maxHeartbeats 4000000 in
set_option maxRecDepth 100000 in
theorem bX3_startAsking_0 (hst : zSt B ids) (F : zFx p m c cX3_startAsking 1 s args RX3 D cy B ids A) (hA : ∀ q : Nat, s.heap.size ≤ q → A q) {r : Int32} {z' : St} (E : zEnd p l e rmX3_startAsking s m args below meth c cX3_startAsking D cy B ids A Q none z' .return_ True) {N : Nat}  (x0 : Nat) (hx0 : (3, x0) ∈ ids) {z : St} {H : Heap} {locs : List Loc} {ls : Array Slot} (hr : zRep D cy B ids A s.heap z H locs) (hl : lv_has ls 1 [(0, .ref (B 3 x0))]) (h : fX3_startAsking N x0 z = some (r, z')) : W p l e rmX3_startAsking s m args below meth c H locs 0 0 Q (F0 m 0 ls []) := by
  unfold fX3_startAsking at h
  refine lv_aload_n F.1 F.2.1 dX3_startAsking_0 rfl (lv_at hl 0 rfl) ?_
  refine lv_iconst (v := (2 : Int32)) F.1 F.2.1 dX3_startAsking_1 (by decide) ?_
  refine pf3_32 F hx0 hr dX3_startAsking_2 (2 : Int32) (fun H locs z1 ez1 hr => ?_)
  replace h := zl_sub ez1 h
  clear ez1
  refine lv_aload_n F.1 F.2.1 dX3_startAsking_5 rfl (lv_at hl 0 rfl) ?_
  refine lv_iconst (v := (0 : Int32)) F.1 F.2.1 dX3_startAsking_6 (by decide) ?_
  refine pf3_39 F hx0 hr dX3_startAsking_7 (0 : Int32) (by decide) (fun H locs z2 ez2 hr => ?_)
  replace h := zl_sub ez2 h
  clear ez2
  refine lv_aload_n F.1 F.2.1 dX3_startAsking_10 rfl (lv_at hl 0 rfl) ?_
  refine gf3_12 F hx0 hr dX3_startAsking_11 (fun y3 ey3 => ?_)
  replace h := zl_sub ey3 h
  have hy3 := zal_g hr hx0 (j := 16) rfl ey3
  clear ey3
  refine lv_aload_n F.1 F.2.1 dX3_startAsking_14 rfl (lv_at hl 0 rfl) ?_
  refine gf3_12 F hx0 hr dX3_startAsking_15 (fun y4 ey4 => ?_)
  replace h := zl_sub ey4 h
  have hy4 := zal_g hr hx0 (j := 16) rfl ey4
  clear ey4
  replace h := zd_some h
  obtain ⟨a5, rfl, h⟩ := h
  refine gf3_83 F (hy4 _ rfl) hr dX3_startAsking_18 ?_
  refine lv_iconst (v := (1 : Int32)) F.1 F.2.1 dX3_startAsking_21 (by decide) ?_
  refine lv_iadd F.1 F.2.1 dX3_startAsking_22 ?_
  replace h := zd_some h
  obtain ⟨a6, rfl, h⟩ := h
  refine pf3_86 F (hy3 _ rfl) hr dX3_startAsking_23 ((zgI z2 6 4 a5) + (1 : Int32)) (fun H locs z7 ez7 hr => ?_)
  replace h := zl_sub ez7 h
  clear ez7
  refine lv_aload_n F.1 F.2.1 dX3_startAsking_26 rfl (lv_at hl 0 rfl) ?_
  refine lv_iconst (v := (1 : Int32)) F.1 F.2.1 dX3_startAsking_27 (by decide) ?_
  refine pf3_59 F hx0 hr dX3_startAsking_28 (1 : Int32) (by decide) (fun H locs z8 ez8 hr => ?_)
  replace h := zl_sub ez8 h
  clear ez8
  obtain ⟨rfl, rfl⟩ := zret h
  exact E _ _ _ _ dX3_startAsking_31 trivial hr
end SX3_startAsking
set_option maxRecDepth 100000 in
theorem okX3_startAsking (l : Launch) (D : va_G) (cy : Nat → ClassId) (B : Nat → Nat → Nat) (ids : List (Nat × Nat)) (hst : zSt B ids) (N : Nat) (x0 : Nat) (hx0 : (3, x0) ∈ ids) {z : St} {r : Int32} {z' : St} (hW : zWf ids z) (h : fX3_startAsking N x0 z = some (r, z')) : zM l yX3_startAsking (zws yX3_startAsking cX3_startAsking 1 none) rmX3_startAsking D cy B ids [.ref (B 3 x0)] none True z z' :=
  zM_of hst hW (by decide +kernel) (Nat.le_of_ble_eq_true rfl) (fun p e s m args below meth c A ls F hA hret hlocks hr hl => bX3_startAsking_0 hst F hA (zEnd_v F hret hlocks) x0 hx0 hr hl h)
abbrev rmX3_sendsNew : Room := { frames := 0, cells := 0, slots := 0, locals := 0 }
theorem hdX3_sendsNew : yX3_sendsNew.cls ≠ "java/lang/invoke/MethodHandle" ∧ yX3_sendsNew.cls ≠ "java/lang/invoke/VarHandle" ∧ (parseMethodDescriptor yX3_sendsNew.desc).map (fun d => d.parameters.length) = some 0 := by decide +kernel
section SX3_sendsNew
variable {p : Program} {l : Launch} {e : Env} {s : State} {m : MethodId} {args : Array Value} {below : List Frame} {meth : Method} {c : Code} {Q : State → Prop} {D : va_G} {cy : Nat → ClassId} {B : Nat → Nat → Nat} {ids : List (Nat × Nat)} {A : Nat → Prop}
def fX3_sendsNew_34 (N : Nat)   (z : St) : Option (Int32 × St) := some ((1 : Int32), z)
set_option maxHeartbeats 4000000 in
set_option maxRecDepth 100000 in
theorem bX3_sendsNew_34 (hst : zSt B ids) (F : zFx p m c cX3_sendsNew 1 s args RX3 D cy B ids A) (hA : ∀ q : Nat, s.heap.size ≤ q → A q) {r : Int32} {z' : St} (E : zEnd p l e rmX3_sendsNew s m args below meth c cX3_sendsNew D cy B ids A Q (some (.int r)) z' .ireturn (r = 0 ∨ r = 1)) {N : Nat}    {z : St} {H : Heap} {locs : List Loc} {ls : Array Slot} (hr : zRep D cy B ids A s.heap z H locs) (hl : lv_has ls 1 []) (h : fX3_sendsNew_34 N z = some (r, z')) : W p l e rmX3_sendsNew s m args below meth c H locs 0 0 Q (F0 m 34 ls []) := by
  unfold fX3_sendsNew_34 at h
  refine lv_iconst (v := (1 : Int32)) F.1 F.2.1 dX3_sendsNew_34 (by decide) ?_
  refine lv_goto (tgt := 39) F.1 F.2.1 dX3_sendsNew_35 (by decide) ?_
  obtain ⟨rfl, rfl⟩ := zret h
  exact E _ _ _ _ dX3_sendsNew_39 (by decide) hr
def fX3_sendsNew (N : Nat)  (x0 : Nat) (z : St) : Option (Int32 × St) := if (zgI z 3 0 x0) = (4 : Int32) then (fX3_sendsNew_34 N z) else (if (zgI z 3 0 x0) = (5 : Int32) then (fX3_sendsNew_34 N z) else (if (zgI z 3 0 x0) < (7 : Int32) then (some ((0 : Int32), z)) else (if (9 : Int32) < (zgI z 3 0 x0) then (some ((0 : Int32), z)) else (fX3_sendsNew_34 N z))))
set_option maxHeartbeats 4000000 in
set_option maxRecDepth 100000 in
theorem bX3_sendsNew_0 (hst : zSt B ids) (F : zFx p m c cX3_sendsNew 1 s args RX3 D cy B ids A) (hA : ∀ q : Nat, s.heap.size ≤ q → A q) {r : Int32} {z' : St} (E : zEnd p l e rmX3_sendsNew s m args below meth c cX3_sendsNew D cy B ids A Q (some (.int r)) z' .ireturn (r = 0 ∨ r = 1)) {N : Nat}  (x0 : Nat) (hx0 : (3, x0) ∈ ids) {z : St} {H : Heap} {locs : List Loc} {ls : Array Slot} (hr : zRep D cy B ids A s.heap z H locs) (hl : lv_has ls 1 [(0, .ref (B 3 x0))]) (h : fX3_sendsNew N x0 z = some (r, z')) : W p l e rmX3_sendsNew s m args below meth c H locs 0 0 Q (F0 m 0 ls []) := by
  unfold fX3_sendsNew at h
  refine lv_aload_n F.1 F.2.1 dX3_sendsNew_0 rfl (lv_at hl 0 rfl) ?_
  refine gf3_32 F hx0 hr dX3_sendsNew_1 ?_
  refine lv_iconst (v := (4 : Int32)) F.1 F.2.1 dX3_sendsNew_4 (by decide) ?_
  refine lv_icmp_eq (tgt := 34) F.1 F.2.1 dX3_sendsNew_5 (by decide) (fun c1 => ?_) (fun c1 => ?_)
  · replace h := zi_t c1 h
    exact bX3_sendsNew_34 hst F hA E   hr (lv_sub hl [] rfl) h
  · replace h := zi_f c1 h
    refine lv_aload_n F.1 F.2.1 dX3_sendsNew_8 rfl (lv_at hl 0 rfl) ?_
    refine gf3_32 F hx0 hr dX3_sendsNew_9 ?_
    refine lv_iconst (v := (5 : Int32)) F.1 F.2.1 dX3_sendsNew_12 (by decide) ?_
    refine lv_icmp_eq (tgt := 34) F.1 F.2.1 dX3_sendsNew_13 (by decide) (fun c2 => ?_) (fun c2 => ?_)
    · replace h := zi_t c2 h
      exact bX3_sendsNew_34 hst F hA E   hr (lv_sub hl [] rfl) h
    · replace h := zi_f c2 h
      refine lv_aload_n F.1 F.2.1 dX3_sendsNew_16 rfl (lv_at hl 0 rfl) ?_
      refine gf3_32 F hx0 hr dX3_sendsNew_17 ?_
      refine lv_bipush (v := (7 : Int32)) F.1 F.2.1 dX3_sendsNew_20 (by decide) ?_
      refine lv_icmp_lt (tgt := 38) F.1 F.2.1 dX3_sendsNew_22 (by decide) (fun c3 => ?_) (fun c3 => ?_)
      · replace h := zi_t c3 h
        refine lv_iconst (v := (0 : Int32)) F.1 F.2.1 dX3_sendsNew_38 (by decide) ?_
        obtain ⟨rfl, rfl⟩ := zret h
        exact E _ _ _ _ dX3_sendsNew_39 (by decide) hr
      · replace h := zi_f c3 h
        refine lv_aload_n F.1 F.2.1 dX3_sendsNew_25 rfl (lv_at hl 0 rfl) ?_
        refine gf3_32 F hx0 hr dX3_sendsNew_26 ?_
        refine lv_bipush (v := (9 : Int32)) F.1 F.2.1 dX3_sendsNew_29 (by decide) ?_
        refine lv_icmp_gt (tgt := 38) F.1 F.2.1 dX3_sendsNew_31 (by decide) (fun c4 => ?_) (fun c4 => ?_)
        · replace h := zi_t c4 h
          refine lv_iconst (v := (0 : Int32)) F.1 F.2.1 dX3_sendsNew_38 (by decide) ?_
          obtain ⟨rfl, rfl⟩ := zret h
          exact E _ _ _ _ dX3_sendsNew_39 (by decide) hr
        · replace h := zi_f c4 h
          exact bX3_sendsNew_34 hst F hA E   hr (lv_sub hl [] rfl) h
end SX3_sendsNew
set_option maxRecDepth 100000 in
theorem okX3_sendsNew (l : Launch) (D : va_G) (cy : Nat → ClassId) (B : Nat → Nat → Nat) (ids : List (Nat × Nat)) (hst : zSt B ids) (N : Nat) (x0 : Nat) (hx0 : (3, x0) ∈ ids) {z : St} {r : Int32} {z' : St} (hW : zWf ids z) (h : fX3_sendsNew N x0 z = some (r, z')) : zM l yX3_sendsNew (zws yX3_sendsNew cX3_sendsNew 1 (some .boolean)) rmX3_sendsNew D cy B ids [.ref (B 3 x0)] (some (.int r)) (r = 0 ∨ r = 1) z z' :=
  zM_of hst hW (by decide +kernel) (Nat.le_of_ble_eq_true rfl) (fun p e s m args below meth c A ls F hA hret hlocks hr hl => bX3_sendsNew_0 hst F hA (zEnd_z F hret hlocks) x0 hx0 hr hl h)
abbrev rmX3_takesIn : Room := { frames := 0, cells := 0, slots := 0, locals := 0 }
theorem hdX3_takesIn : yX3_takesIn.cls ≠ "java/lang/invoke/MethodHandle" ∧ yX3_takesIn.cls ≠ "java/lang/invoke/VarHandle" ∧ (parseMethodDescriptor yX3_takesIn.desc).map (fun d => d.parameters.length) = some 0 := by decide +kernel
section SX3_takesIn
variable {p : Program} {l : Launch} {e : Env} {s : State} {m : MethodId} {args : Array Value} {below : List Frame} {meth : Method} {c : Code} {Q : State → Prop} {D : va_G} {cy : Nat → ClassId} {B : Nat → Nat → Nat} {ids : List (Nat × Nat)} {A : Nat → Prop}
def fX3_takesIn_25 (N : Nat)   (z : St) : Option (Int32 × St) := some ((1 : Int32), z)
set_option maxHeartbeats 4000000 in
set_option maxRecDepth 100000 in
theorem bX3_takesIn_25 (hst : zSt B ids) (F : zFx p m c cX3_takesIn 1 s args RX3 D cy B ids A) (hA : ∀ q : Nat, s.heap.size ≤ q → A q) {r : Int32} {z' : St} (E : zEnd p l e rmX3_takesIn s m args below meth c cX3_takesIn D cy B ids A Q (some (.int r)) z' .ireturn (r = 0 ∨ r = 1)) {N : Nat}    {z : St} {H : Heap} {locs : List Loc} {ls : Array Slot} (hr : zRep D cy B ids A s.heap z H locs) (hl : lv_has ls 1 []) (h : fX3_takesIn_25 N z = some (r, z')) : W p l e rmX3_takesIn s m args below meth c H locs 0 0 Q (F0 m 25 ls []) := by
  unfold fX3_takesIn_25 at h
  refine lv_iconst (v := (1 : Int32)) F.1 F.2.1 dX3_takesIn_25 (by decide) ?_
  refine lv_goto (tgt := 30) F.1 F.2.1 dX3_takesIn_26 (by decide) ?_
  obtain ⟨rfl, rfl⟩ := zret h
  exact E _ _ _ _ dX3_takesIn_30 (by decide) hr
def fX3_takesIn (N : Nat)  (x0 : Nat) (z : St) : Option (Int32 × St) := if (zgI z 3 0 x0) = (4 : Int32) then (fX3_takesIn_25 N z) else (if (zgI z 3 0 x0) = (5 : Int32) then (fX3_takesIn_25 N z) else (if ¬ (zgI z 3 0 x0) = (6 : Int32) then (some ((0 : Int32), z)) else (fX3_takesIn_25 N z)))
set_option maxHeartbeats 4000000 in
set_option maxRecDepth 100000 in
theorem bX3_takesIn_0 (hst : zSt B ids) (F : zFx p m c cX3_takesIn 1 s args RX3 D cy B ids A) (hA : ∀ q : Nat, s.heap.size ≤ q → A q) {r : Int32} {z' : St} (E : zEnd p l e rmX3_takesIn s m args below meth c cX3_takesIn D cy B ids A Q (some (.int r)) z' .ireturn (r = 0 ∨ r = 1)) {N : Nat}  (x0 : Nat) (hx0 : (3, x0) ∈ ids) {z : St} {H : Heap} {locs : List Loc} {ls : Array Slot} (hr : zRep D cy B ids A s.heap z H locs) (hl : lv_has ls 1 [(0, .ref (B 3 x0))]) (h : fX3_takesIn N x0 z = some (r, z')) : W p l e rmX3_takesIn s m args below meth c H locs 0 0 Q (F0 m 0 ls []) := by
  unfold fX3_takesIn at h
  refine lv_aload_n F.1 F.2.1 dX3_takesIn_0 rfl (lv_at hl 0 rfl) ?_
  refine gf3_32 F hx0 hr dX3_takesIn_1 ?_
  refine lv_iconst (v := (4 : Int32)) F.1 F.2.1 dX3_takesIn_4 (by decide) ?_
  refine lv_icmp_eq (tgt := 25) F.1 F.2.1 dX3_takesIn_5 (by decide) (fun c1 => ?_) (fun c1 => ?_)
  · replace h := zi_t c1 h
    exact bX3_takesIn_25 hst F hA E   hr (lv_sub hl [] rfl) h
  · replace h := zi_f c1 h
    refine lv_aload_n F.1 F.2.1 dX3_takesIn_8 rfl (lv_at hl 0 rfl) ?_
    refine gf3_32 F hx0 hr dX3_takesIn_9 ?_
    refine lv_iconst (v := (5 : Int32)) F.1 F.2.1 dX3_takesIn_12 (by decide) ?_
    refine lv_icmp_eq (tgt := 25) F.1 F.2.1 dX3_takesIn_13 (by decide) (fun c2 => ?_) (fun c2 => ?_)
    · replace h := zi_t c2 h
      exact bX3_takesIn_25 hst F hA E   hr (lv_sub hl [] rfl) h
    · replace h := zi_f c2 h
      refine lv_aload_n F.1 F.2.1 dX3_takesIn_16 rfl (lv_at hl 0 rfl) ?_
      refine gf3_32 F hx0 hr dX3_takesIn_17 ?_
      refine lv_bipush (v := (6 : Int32)) F.1 F.2.1 dX3_takesIn_20 (by decide) ?_
      refine lv_icmp_ne (tgt := 29) F.1 F.2.1 dX3_takesIn_22 (by decide) (fun c3 => ?_) (fun c3 => ?_)
      · replace h := zi_t c3 h
        refine lv_iconst (v := (0 : Int32)) F.1 F.2.1 dX3_takesIn_29 (by decide) ?_
        obtain ⟨rfl, rfl⟩ := zret h
        exact E _ _ _ _ dX3_takesIn_30 (by decide) hr
      · replace h := zi_f (fun q => q c3) h
        exact bX3_takesIn_25 hst F hA E   hr (lv_sub hl [] rfl) h
end SX3_takesIn
set_option maxRecDepth 100000 in
theorem okX3_takesIn (l : Launch) (D : va_G) (cy : Nat → ClassId) (B : Nat → Nat → Nat) (ids : List (Nat × Nat)) (hst : zSt B ids) (N : Nat) (x0 : Nat) (hx0 : (3, x0) ∈ ids) {z : St} {r : Int32} {z' : St} (hW : zWf ids z) (h : fX3_takesIn N x0 z = some (r, z')) : zM l yX3_takesIn (zws yX3_takesIn cX3_takesIn 1 (some .boolean)) rmX3_takesIn D cy B ids [.ref (B 3 x0)] (some (.int r)) (r = 0 ∨ r = 1) z z' :=
  zM_of hst hW (by decide +kernel) (Nat.le_of_ble_eq_true rfl) (fun p e s m args below meth c A ls F hA hret hlocks hr hl => bX3_takesIn_0 hst F hA (zEnd_z F hret hlocks) x0 hx0 hr hl h)
abbrev rmX3_finish : Room := { frames := 0, cells := 0, slots := 0, locals := 0 }
theorem hdX3_finish : yX3_finish.cls ≠ "java/lang/invoke/MethodHandle" ∧ yX3_finish.cls ≠ "java/lang/invoke/VarHandle" ∧ (parseMethodDescriptor yX3_finish.desc).map (fun d => d.parameters.length) = some 1 := by decide +kernel
section SX3_finish
variable {p : Program} {l : Launch} {e : Env} {s : State} {m : MethodId} {args : Array Value} {below : List Frame} {meth : Method} {c : Code} {Q : State → Prop} {D : va_G} {cy : Nat → ClassId} {B : Nat → Nat → Nat} {ids : List (Nat × Nat)} {A : Nat → Prop}
def fX3_finish_31 (N : Nat)  (x0 : Nat) (z : St) : Option (Int32 × St) := zl (zgR z 3 18 x0) fun y1 => zd y1 fun a2 => zl (zsI z 10 0 a2 (0 : Int32)) fun z3 => some (0, z3)
set_option maxHeartbeats 4000000 in
set_option maxRecDepth 100000 in
theorem bX3_finish_31 (hst : zSt B ids) (F : zFx p m c cX3_finish 2 s args RX3 D cy B ids A) (hA : ∀ q : Nat, s.heap.size ≤ q → A q) {r : Int32} {z' : St} (E : zEnd p l e rmX3_finish s m args below meth c cX3_finish D cy B ids A Q none z' .return_ True) {N : Nat}  (x0 : Nat) (hx0 : (3, x0) ∈ ids) {z : St} {H : Heap} {locs : List Loc} {ls : Array Slot} (hr : zRep D cy B ids A s.heap z H locs) (hl : lv_has ls 2 [(0, .ref (B 3 x0))]) (h : fX3_finish_31 N x0 z = some (r, z')) : W p l e rmX3_finish s m args below meth c H locs 0 0 Q (F0 m 31 ls []) := by
  unfold fX3_finish_31 at h
  refine lv_aload_n F.1 F.2.1 dX3_finish_31 rfl (lv_at hl 0 rfl) ?_
  refine gf3_28 F hx0 hr dX3_finish_32 (fun y1 ey1 => ?_)
  replace h := zl_sub ey1 h
  have hy1 := zal_g hr hx0 (j := 18) rfl ey1
  clear ey1
  refine lv_iconst (v := (0 : Int32)) F.1 F.2.1 dX3_finish_35 (by decide) ?_
  replace h := zd_some h
  obtain ⟨a2, rfl, h⟩ := h
  refine pf3_89 F (hy1 _ rfl) hr dX3_finish_36 (0 : Int32) (fun H locs z3 ez3 hr => ?_)
  replace h := zl_sub ez3 h
  clear ez3
  obtain ⟨rfl, rfl⟩ := zret h
  exact E _ _ _ _ dX3_finish_39 trivial hr
def fX3_finish (N : Nat)  (x0 : Nat) (x1 : Int32) (z : St) : Option (Int32 × St) := zl (zsI z 3 0 x0 x1) fun z1 => zl (zsI z1 3 9 x0 (0 : Int32)) fun z2 => zl (zsI z2 3 11 x0 (0 : Int32)) fun z3 => zl (zsI z3 3 12 x0 (0 : Int32)) fun z4 => if x1 = (10 : Int32) then (fX3_finish_31 N x0 z4) else (zl (zsI z4 3 13 x0 (0 : Int32)) fun z6 => fX3_finish_31 N x0 z6)
set_option maxHeartbeats 4000000 in
set_option maxRecDepth 100000 in
theorem bX3_finish_0 (hst : zSt B ids) (F : zFx p m c cX3_finish 2 s args RX3 D cy B ids A) (hA : ∀ q : Nat, s.heap.size ≤ q → A q) {r : Int32} {z' : St} (E : zEnd p l e rmX3_finish s m args below meth c cX3_finish D cy B ids A Q none z' .return_ True) {N : Nat}  (x0 : Nat) (x1 : Int32) (hx0 : (3, x0) ∈ ids) {z : St} {H : Heap} {locs : List Loc} {ls : Array Slot} (hr : zRep D cy B ids A s.heap z H locs) (hl : lv_has ls 2 [(0, .ref (B 3 x0)), (1, .int x1)]) (h : fX3_finish N x0 x1 z = some (r, z')) : W p l e rmX3_finish s m args below meth c H locs 0 0 Q (F0 m 0 ls []) := by
  unfold fX3_finish at h
  refine lv_aload_n F.1 F.2.1 dX3_finish_0 rfl (lv_at hl 0 rfl) ?_
  refine lv_iload_n F.1 F.2.1 dX3_finish_1 rfl (lv_at hl 1 rfl) ?_
  refine pf3_32 F hx0 hr dX3_finish_2 x1 (fun H locs z1 ez1 hr => ?_)
  replace h := zl_sub ez1 h
  clear ez1
  refine lv_aload_n F.1 F.2.1 dX3_finish_5 rfl (lv_at hl 0 rfl) ?_
  refine lv_iconst (v := (0 : Int32)) F.1 F.2.1 dX3_finish_6 (by decide) ?_
  refine pf3_59 F hx0 hr dX3_finish_7 (0 : Int32) (by decide) (fun H locs z2 ez2 hr => ?_)
  replace h := zl_sub ez2 h
  clear ez2
  refine lv_aload_n F.1 F.2.1 dX3_finish_10 rfl (lv_at hl 0 rfl) ?_
  refine lv_iconst (v := (0 : Int32)) F.1 F.2.1 dX3_finish_11 (by decide) ?_
  refine pf3_65 F hx0 hr dX3_finish_12 (0 : Int32) (by decide) (fun H locs z3 ez3 hr => ?_)
  replace h := zl_sub ez3 h
  clear ez3
  refine lv_aload_n F.1 F.2.1 dX3_finish_15 rfl (lv_at hl 0 rfl) ?_
  refine lv_iconst (v := (0 : Int32)) F.1 F.2.1 dX3_finish_16 (by decide) ?_
  refine pf3_68 F hx0 hr dX3_finish_17 (0 : Int32) (by decide) (fun H locs z4 ez4 hr => ?_)
  replace h := zl_sub ez4 h
  clear ez4
  refine lv_iload_n F.1 F.2.1 dX3_finish_20 rfl (lv_at hl 1 rfl) ?_
  refine lv_bipush (v := (10 : Int32)) F.1 F.2.1 dX3_finish_21 (by decide) ?_
  refine lv_icmp_eq (tgt := 31) F.1 F.2.1 dX3_finish_23 (by decide) (fun c5 => ?_) (fun c5 => ?_)
  · replace h := zi_t c5 h
    exact bX3_finish_31 hst F hA E  x0 hx0 hr (lv_sub hl [0] rfl) h
  · replace h := zi_f c5 h
    refine lv_aload_n F.1 F.2.1 dX3_finish_26 rfl (lv_at hl 0 rfl) ?_
    refine lv_iconst (v := (0 : Int32)) F.1 F.2.1 dX3_finish_27 (by decide) ?_
    refine pf3_71 F hx0 hr dX3_finish_28 (0 : Int32) (by decide) (fun H locs z6 ez6 hr => ?_)
    replace h := zl_sub ez6 h
    clear ez6
    exact bX3_finish_31 hst F hA E  x0 hx0 hr (lv_sub hl [0] rfl) h
end SX3_finish
set_option maxRecDepth 100000 in
theorem okX3_finish (l : Launch) (D : va_G) (cy : Nat → ClassId) (B : Nat → Nat → Nat) (ids : List (Nat × Nat)) (hst : zSt B ids) (N : Nat) (x0 : Nat) (hx0 : (3, x0) ∈ ids) (x1 : Int32) {z : St} {r : Int32} {z' : St} (hW : zWf ids z) (h : fX3_finish N x0 x1 z = some (r, z')) : zM l yX3_finish (zws yX3_finish cX3_finish 2 none) rmX3_finish D cy B ids [.ref (B 3 x0), .int x1] none True z z' :=
  zM_of hst hW (by decide +kernel) (Nat.le_of_ble_eq_true rfl) (fun p e s m args below meth c A ls F hA hret hlocks hr hl => bX3_finish_0 hst F hA (zEnd_v F hret hlocks) x0 x1 hx0 hr hl h)
abbrev rmX3_becomeQuiet : Room := { frames := 1, cells := 0, slots := 0, locals := 21 }
theorem hdX3_becomeQuiet : yX3_becomeQuiet.cls ≠ "java/lang/invoke/MethodHandle" ∧ yX3_becomeQuiet.cls ≠ "java/lang/invoke/VarHandle" ∧ (parseMethodDescriptor yX3_becomeQuiet.desc).map (fun d => d.parameters.length) = some 1 := by decide +kernel
theorem hroX3_becomeQuiet_X3_finish : rmX3_finish.frames + 1 ≤ rmX3_becomeQuiet.frames ∧ 8 + (2 + 11) + rmX3_finish.locals ≤ rmX3_becomeQuiet.locals := by decide
section SX3_becomeQuiet
variable {p : Program} {l : Launch} {e : Env} {s : State} {m : MethodId} {args : Array Value} {below : List Frame} {meth : Method} {c : Code} {Q : State → Prop} {D : va_G} {cy : Nat → ClassId} {B : Nat → Nat → Nat} {ids : List (Nat × Nat)} {A : Nat → Prop}
def fX3_becomeQuiet (N : Nat)  (x0 : Nat) (x1 : Int32) (z : St) : Option (Int32 × St) := zc (fX3_finish N x0 (10 : Int32) z) fun _ z2 => zl (zsI z2 3 4 x0 (x1 + (2000 : Int32))) fun z5 => some (0, z5)
set_option maxHeartbeats 4000000 in
set_option maxRecDepth 100000 in
theorem bX3_becomeQuiet_0 (hst : zSt B ids) (F : zFx p m c cX3_becomeQuiet 2 s args RX3 D cy B ids A) (hA : ∀ q : Nat, s.heap.size ≤ q → A q) {r : Int32} {z' : St} (E : zEnd p l e rmX3_becomeQuiet s m args below meth c cX3_becomeQuiet D cy B ids A Q none z' .return_ True) {N : Nat}  (x0 : Nat) (x1 : Int32) (hx0 : (3, x0) ∈ ids) {z : St} {H : Heap} {locs : List Loc} {ls : Array Slot} (hr : zRep D cy B ids A s.heap z H locs) (hl : lv_has ls 2 [(0, .ref (B 3 x0)), (1, .int x1)]) (h : fX3_becomeQuiet N x0 x1 z = some (r, z')) : W p l e rmX3_becomeQuiet s m args below meth c H locs 0 0 Q (F0 m 0 ls []) := by
  unfold fX3_becomeQuiet at h
  refine lv_aload_n F.1 F.2.1 dX3_becomeQuiet_0 rfl (lv_at hl 0 rfl) ?_
  refine lv_bipush (v := (10 : Int32)) F.1 F.2.1 dX3_becomeQuiet_1 (by decide) ?_
  replace h := zc_some h
  obtain ⟨r1, z2, hc3, h⟩ := h
  refine zr_callv (zrun_V (As := [.int (10 : Int32)]) (rest := []) zq_1338 zq_1151 zs_X3_finish zq_1152 zq_13 hdX3_finish (by decide) (T := TX3) (N := 19) rfl (okX3_finish l D cy B ids hst N x0 hx0 (10 : Int32)  hr.2.2 hc3) F hr hx0 hl.1 rfl (by decide) dX3_becomeQuiet_3 rfl rfl hroX3_becomeQuiet_X3_finish ⟨Nat.zero_le _, Nat.zero_le _⟩) F hA hr (fun H locs hw4 hr => ?_)
  clear hc3
  refine lv_aload_n F.1 F.2.1 dX3_becomeQuiet_6 rfl (lv_at hl 0 rfl) ?_
  refine lv_iload_n F.1 F.2.1 dX3_becomeQuiet_7 rfl (lv_at hl 1 rfl) ?_
  refine lv_sipush (v := (2000 : Int32)) F.1 F.2.1 dX3_becomeQuiet_8 (by decide) ?_
  refine lv_iadd F.1 F.2.1 dX3_becomeQuiet_11 ?_
  refine pf3_56 F hx0 hr dX3_becomeQuiet_12 (x1 + (2000 : Int32)) (fun H locs z5 ez5 hr => ?_)
  replace h := zl_sub ez5 h
  clear ez5
  obtain ⟨rfl, rfl⟩ := zret h
  exact E _ _ _ _ dX3_becomeQuiet_15 trivial hr
end SX3_becomeQuiet
set_option maxRecDepth 100000 in
theorem okX3_becomeQuiet (l : Launch) (D : va_G) (cy : Nat → ClassId) (B : Nat → Nat → Nat) (ids : List (Nat × Nat)) (hst : zSt B ids) (N : Nat) (x0 : Nat) (hx0 : (3, x0) ∈ ids) (x1 : Int32) {z : St} {r : Int32} {z' : St} (hW : zWf ids z) (h : fX3_becomeQuiet N x0 x1 z = some (r, z')) : zM l yX3_becomeQuiet (zws yX3_becomeQuiet cX3_becomeQuiet 2 none) rmX3_becomeQuiet D cy B ids [.ref (B 3 x0), .int x1] none True z z' :=
  zM_of hst hW (by decide +kernel) (Nat.le_of_ble_eq_true rfl) (fun p e s m args below meth c A ls F hA hret hlocks hr hl => bX3_becomeQuiet_0 hst F hA (zEnd_v F hret hlocks) x0 x1 hx0 hr hl h)
abbrev rmX3_closeByOwner : Room := { frames := 1, cells := 0, slots := 0, locals := 21 }
theorem hdX3_closeByOwner : yX3_closeByOwner.cls ≠ "java/lang/invoke/MethodHandle" ∧ yX3_closeByOwner.cls ≠ "java/lang/invoke/VarHandle" ∧ (parseMethodDescriptor yX3_closeByOwner.desc).map (fun d => d.parameters.length) = some 0 := by decide +kernel
theorem hroX3_closeByOwner_X3_finish : rmX3_finish.frames + 1 ≤ rmX3_closeByOwner.frames ∧ 8 + (2 + 11) + rmX3_finish.locals ≤ rmX3_closeByOwner.locals := by decide
section SX3_closeByOwner
variable {p : Program} {l : Launch} {e : Env} {s : State} {m : MethodId} {args : Array Value} {below : List Frame} {meth : Method} {c : Code} {Q : State → Prop} {D : va_G} {cy : Nat → ClassId} {B : Nat → Nat → Nat} {ids : List (Nat × Nat)} {A : Nat → Prop}
def fX3_closeByOwner_24 (N : Nat)  (x0 : Nat) (z : St) : Option (Int32 × St) := zc (fX3_finish N x0 (0 : Int32) z) fun _ z2 => some (0, z2)
set_option maxHeartbeats 4000000 in
set_option maxRecDepth 100000 in
theorem bX3_closeByOwner_24 (hst : zSt B ids) (F : zFx p m c cX3_closeByOwner 1 s args RX3 D cy B ids A) (hA : ∀ q : Nat, s.heap.size ≤ q → A q) {r : Int32} {z' : St} (E : zEnd p l e rmX3_closeByOwner s m args below meth c cX3_closeByOwner D cy B ids A Q none z' .return_ True) {N : Nat}  (x0 : Nat) (hx0 : (3, x0) ∈ ids) {z : St} {H : Heap} {locs : List Loc} {ls : Array Slot} (hr : zRep D cy B ids A s.heap z H locs) (hl : lv_has ls 1 [(0, .ref (B 3 x0))]) (h : fX3_closeByOwner_24 N x0 z = some (r, z')) : W p l e rmX3_closeByOwner s m args below meth c H locs 0 0 Q (F0 m 24 ls []) := by
  unfold fX3_closeByOwner_24 at h
  refine lv_aload_n F.1 F.2.1 dX3_closeByOwner_24 rfl (lv_at hl 0 rfl) ?_
  refine lv_iconst (v := (0 : Int32)) F.1 F.2.1 dX3_closeByOwner_25 (by decide) ?_
  replace h := zc_some h
  obtain ⟨r1, z2, hc3, h⟩ := h
  refine zr_callv (zrun_V (As := [.int (0 : Int32)]) (rest := []) zq_1338 zq_1151 zs_X3_finish zq_1152 zq_13 hdX3_finish (by decide) (T := TX3) (N := 19) rfl (okX3_finish l D cy B ids hst N x0 hx0 (0 : Int32)  hr.2.2 hc3) F hr hx0 hl.1 rfl (by decide) dX3_closeByOwner_26 rfl rfl hroX3_closeByOwner_X3_finish ⟨Nat.zero_le _, Nat.zero_le _⟩) F hA hr (fun H locs hw4 hr => ?_)
  clear hc3
  refine lv_goto (tgt := 63) F.1 F.2.1 dX3_closeByOwner_29 (by decide) ?_
  obtain ⟨rfl, rfl⟩ := zret h
  exact E _ _ _ _ dX3_closeByOwner_63 trivial hr
def fX3_closeByOwner (N : Nat)  (x0 : Nat) (z : St) : Option (Int32 × St) := zl (zgR z 3 16 x0) fun y1 => zd y1 fun a2 => zl (zsI z 6 8 a2 (1 : Int32)) fun z3 => if (zgI z3 3 0 x0) = (1 : Int32) then (fX3_closeByOwner_24 N x0 z3) else (if ¬ (zgI z3 3 0 x0) = (2 : Int32) then (if ¬ (zgI z3 3 0 x0) = (4 : Int32) then (if ¬ (zgI z3 3 0 x0) = (7 : Int32) then (some (0, z3)) else (zl (zsI z3 3 0 x0 (9 : Int32)) fun z8 => some (0, z8))) else (zl (zsI z3 3 0 x0 (5 : Int32)) fun z9 => some (0, z9))) else (fX3_closeByOwner_24 N x0 z3))
set_option maxHeartbeats 4000000 in
set_option maxRecDepth 100000 in
theorem bX3_closeByOwner_0 (hst : zSt B ids) (F : zFx p m c cX3_closeByOwner 1 s args RX3 D cy B ids A) (hA : ∀ q : Nat, s.heap.size ≤ q → A q) {r : Int32} {z' : St} (E : zEnd p l e rmX3_closeByOwner s m args below meth c cX3_closeByOwner D cy B ids A Q none z' .return_ True) {N : Nat}  (x0 : Nat) (hx0 : (3, x0) ∈ ids) {z : St} {H : Heap} {locs : List Loc} {ls : Array Slot} (hr : zRep D cy B ids A s.heap z H locs) (hl : lv_has ls 1 [(0, .ref (B 3 x0))]) (h : fX3_closeByOwner N x0 z = some (r, z')) : W p l e rmX3_closeByOwner s m args below meth c H locs 0 0 Q (F0 m 0 ls []) := by
  unfold fX3_closeByOwner at h
  refine lv_aload_n F.1 F.2.1 dX3_closeByOwner_0 rfl (lv_at hl 0 rfl) ?_
  refine gf3_12 F hx0 hr dX3_closeByOwner_1 (fun y1 ey1 => ?_)
  replace h := zl_sub ey1 h
  have hy1 := zal_g hr hx0 (j := 16) rfl ey1
  clear ey1
  refine lv_iconst (v := (1 : Int32)) F.1 F.2.1 dX3_closeByOwner_4 (by decide) ?_
  replace h := zd_some h
  obtain ⟨a2, rfl, h⟩ := h
  refine pf3_95 F (hy1 _ rfl) hr dX3_closeByOwner_5 (1 : Int32) (by decide) (fun H locs z3 ez3 hr => ?_)
  replace h := zl_sub ez3 h
  clear ez3
  refine lv_aload_n F.1 F.2.1 dX3_closeByOwner_8 rfl (lv_at hl 0 rfl) ?_
  refine gf3_32 F hx0 hr dX3_closeByOwner_9 ?_
  refine lv_iconst (v := (1 : Int32)) F.1 F.2.1 dX3_closeByOwner_12 (by decide) ?_
  refine lv_icmp_eq (tgt := 24) F.1 F.2.1 dX3_closeByOwner_13 (by decide) (fun c4 => ?_) (fun c4 => ?_)
  · replace h := zi_t c4 h
    exact bX3_closeByOwner_24 hst F hA E  x0 hx0 hr (lv_sub hl [0] rfl) h
  · replace h := zi_f c4 h
    refine lv_aload_n F.1 F.2.1 dX3_closeByOwner_16 rfl (lv_at hl 0 rfl) ?_
    refine gf3_32 F hx0 hr dX3_closeByOwner_17 ?_
    refine lv_iconst (v := (2 : Int32)) F.1 F.2.1 dX3_closeByOwner_20 (by decide) ?_
    refine lv_icmp_ne (tgt := 32) F.1 F.2.1 dX3_closeByOwner_21 (by decide) (fun c5 => ?_) (fun c5 => ?_)
    · replace h := zi_t c5 h
      refine lv_aload_n F.1 F.2.1 dX3_closeByOwner_32 rfl (lv_at hl 0 rfl) ?_
      refine gf3_32 F hx0 hr dX3_closeByOwner_33 ?_
      refine lv_iconst (v := (4 : Int32)) F.1 F.2.1 dX3_closeByOwner_36 (by decide) ?_
      refine lv_icmp_ne (tgt := 48) F.1 F.2.1 dX3_closeByOwner_37 (by decide) (fun c6 => ?_) (fun c6 => ?_)
      · replace h := zi_t c6 h
        refine lv_aload_n F.1 F.2.1 dX3_closeByOwner_48 rfl (lv_at hl 0 rfl) ?_
        refine gf3_32 F hx0 hr dX3_closeByOwner_49 ?_
        refine lv_bipush (v := (7 : Int32)) F.1 F.2.1 dX3_closeByOwner_52 (by decide) ?_
        refine lv_icmp_ne (tgt := 63) F.1 F.2.1 dX3_closeByOwner_54 (by decide) (fun c7 => ?_) (fun c7 => ?_)
        · replace h := zi_t c7 h
          obtain ⟨rfl, rfl⟩ := zret h
          exact E _ _ _ _ dX3_closeByOwner_63 trivial hr
        · replace h := zi_f (fun q => q c7) h
          refine lv_aload_n F.1 F.2.1 dX3_closeByOwner_57 rfl (lv_at hl 0 rfl) ?_
          refine lv_bipush (v := (9 : Int32)) F.1 F.2.1 dX3_closeByOwner_58 (by decide) ?_
          refine pf3_32 F hx0 hr dX3_closeByOwner_60 (9 : Int32) (fun H locs z8 ez8 hr => ?_)
          replace h := zl_sub ez8 h
          clear ez8
          obtain ⟨rfl, rfl⟩ := zret h
          exact E _ _ _ _ dX3_closeByOwner_63 trivial hr
      · replace h := zi_f (fun q => q c6) h
        refine lv_aload_n F.1 F.2.1 dX3_closeByOwner_40 rfl (lv_at hl 0 rfl) ?_
        refine lv_iconst (v := (5 : Int32)) F.1 F.2.1 dX3_closeByOwner_41 (by decide) ?_
        refine pf3_32 F hx0 hr dX3_closeByOwner_42 (5 : Int32) (fun H locs z9 ez9 hr => ?_)
        replace h := zl_sub ez9 h
        clear ez9
        refine lv_goto (tgt := 63) F.1 F.2.1 dX3_closeByOwner_45 (by decide) ?_
        obtain ⟨rfl, rfl⟩ := zret h
        exact E _ _ _ _ dX3_closeByOwner_63 trivial hr
    · replace h := zi_f (fun q => q c5) h
      exact bX3_closeByOwner_24 hst F hA E  x0 hx0 hr (lv_sub hl [0] rfl) h
end SX3_closeByOwner
set_option maxRecDepth 100000 in
theorem okX3_closeByOwner (l : Launch) (D : va_G) (cy : Nat → ClassId) (B : Nat → Nat → Nat) (ids : List (Nat × Nat)) (hst : zSt B ids) (N : Nat) (x0 : Nat) (hx0 : (3, x0) ∈ ids) {z : St} {r : Int32} {z' : St} (hW : zWf ids z) (h : fX3_closeByOwner N x0 z = some (r, z')) : zM l yX3_closeByOwner (zws yX3_closeByOwner cX3_closeByOwner 1 none) rmX3_closeByOwner D cy B ids [.ref (B 3 x0)] none True z z' :=
  zM_of hst hW (by decide +kernel) (Nat.le_of_ble_eq_true rfl) (fun p e s m args below meth c A ls F hA hret hlocks hr hl => bX3_closeByOwner_0 hst F hA (zEnd_v F hret hlocks) x0 hx0 hr hl h)
abbrev rmX3_abortByOwner : Room := { frames := 1, cells := 0, slots := 0, locals := 21 }
theorem hdX3_abortByOwner : yX3_abortByOwner.cls ≠ "java/lang/invoke/MethodHandle" ∧ yX3_abortByOwner.cls ≠ "java/lang/invoke/VarHandle" ∧ (parseMethodDescriptor yX3_abortByOwner.desc).map (fun d => d.parameters.length) = some 0 := by decide +kernel
theorem hroX3_abortByOwner_X3_finish : rmX3_finish.frames + 1 ≤ rmX3_abortByOwner.frames ∧ 8 + (2 + 11) + rmX3_finish.locals ≤ rmX3_abortByOwner.locals := by decide
section SX3_abortByOwner
variable {p : Program} {l : Launch} {e : Env} {s : State} {m : MethodId} {args : Array Value} {below : List Frame} {meth : Method} {c : Code} {Q : State → Prop} {D : va_G} {cy : Nat → ClassId} {B : Nat → Nat → Nat} {ids : List (Nat × Nat)} {A : Nat → Prop}
def fX3_abortByOwner_58 (N : Nat)  (x0 : Nat) (z : St) : Option (Int32 × St) := zc (fX3_finish N x0 (11 : Int32) z) fun _ z2 => some (0, z2)
set_option maxHeartbeats 4000000 in
set_option maxRecDepth 100000 in
theorem bX3_abortByOwner_58 (hst : zSt B ids) (F : zFx p m c cX3_abortByOwner 1 s args RX3 D cy B ids A) (hA : ∀ q : Nat, s.heap.size ≤ q → A q) {r : Int32} {z' : St} (E : zEnd p l e rmX3_abortByOwner s m args below meth c cX3_abortByOwner D cy B ids A Q none z' .return_ True) {N : Nat}  (x0 : Nat) (hx0 : (3, x0) ∈ ids) {z : St} {H : Heap} {locs : List Loc} {ls : Array Slot} (hr : zRep D cy B ids A s.heap z H locs) (hl : lv_has ls 1 [(0, .ref (B 3 x0))]) (h : fX3_abortByOwner_58 N x0 z = some (r, z')) : W p l e rmX3_abortByOwner s m args below meth c H locs 0 0 Q (F0 m 58 ls []) := by
  unfold fX3_abortByOwner_58 at h
  refine lv_aload_n F.1 F.2.1 dX3_abortByOwner_58 rfl (lv_at hl 0 rfl) ?_
  refine lv_bipush (v := (11 : Int32)) F.1 F.2.1 dX3_abortByOwner_59 (by decide) ?_
  replace h := zc_some h
  obtain ⟨r1, z2, hc3, h⟩ := h
  refine zr_callv (zrun_V (As := [.int (11 : Int32)]) (rest := []) zq_1338 zq_1151 zs_X3_finish zq_1152 zq_13 hdX3_finish (by decide) (T := TX3) (N := 19) rfl (okX3_finish l D cy B ids hst N x0 hx0 (11 : Int32)  hr.2.2 hc3) F hr hx0 hl.1 rfl (by decide) dX3_abortByOwner_61 rfl rfl hroX3_abortByOwner_X3_finish ⟨Nat.zero_le _, Nat.zero_le _⟩) F hA hr (fun H locs hw4 hr => ?_)
  clear hc3
  obtain ⟨rfl, rfl⟩ := zret h
  exact E _ _ _ _ dX3_abortByOwner_64 trivial hr
def fX3_abortByOwner (N : Nat)  (x0 : Nat) (z : St) : Option (Int32 × St) := if (zgI z 3 0 x0) = (1 : Int32) then (fX3_abortByOwner_58 N x0 z) else (if (zgI z 3 0 x0) = (2 : Int32) then (fX3_abortByOwner_58 N x0 z) else (if (zgI z 3 0 x0) = (10 : Int32) then (fX3_abortByOwner_58 N x0 z) else (zl (zsI z 3 5 x0 (1 : Int32)) fun z4 => zl (zsI z4 3 6 x0 (12 : Int32)) fun z5 => zl (zgR z5 3 16 x0) fun y6 => zd y6 fun a7 => zl (zsI z5 3 7 x0 (zgI z5 6 6 a7)) fun z8 => zl (zgR z8 3 17 x0) fun y9 => zd y9 fun a10 => zl (zsI z8 3 8 x0 (zgI z8 4 4 a10)) fun z11 => fX3_abortByOwner_58 N x0 z11)))
set_option maxHeartbeats 4000000 in
set_option maxRecDepth 100000 in
theorem bX3_abortByOwner_0 (hst : zSt B ids) (F : zFx p m c cX3_abortByOwner 1 s args RX3 D cy B ids A) (hA : ∀ q : Nat, s.heap.size ≤ q → A q) {r : Int32} {z' : St} (E : zEnd p l e rmX3_abortByOwner s m args below meth c cX3_abortByOwner D cy B ids A Q none z' .return_ True) {N : Nat}  (x0 : Nat) (hx0 : (3, x0) ∈ ids) {z : St} {H : Heap} {locs : List Loc} {ls : Array Slot} (hr : zRep D cy B ids A s.heap z H locs) (hl : lv_has ls 1 [(0, .ref (B 3 x0))]) (h : fX3_abortByOwner N x0 z = some (r, z')) : W p l e rmX3_abortByOwner s m args below meth c H locs 0 0 Q (F0 m 0 ls []) := by
  unfold fX3_abortByOwner at h
  refine lv_aload_n F.1 F.2.1 dX3_abortByOwner_0 rfl (lv_at hl 0 rfl) ?_
  refine gf3_32 F hx0 hr dX3_abortByOwner_1 ?_
  refine lv_iconst (v := (1 : Int32)) F.1 F.2.1 dX3_abortByOwner_4 (by decide) ?_
  refine lv_icmp_eq (tgt := 58) F.1 F.2.1 dX3_abortByOwner_5 (by decide) (fun c1 => ?_) (fun c1 => ?_)
  · replace h := zi_t c1 h
    exact bX3_abortByOwner_58 hst F hA E  x0 hx0 hr (lv_sub hl [0] rfl) h
  · replace h := zi_f c1 h
    refine lv_aload_n F.1 F.2.1 dX3_abortByOwner_8 rfl (lv_at hl 0 rfl) ?_
    refine gf3_32 F hx0 hr dX3_abortByOwner_9 ?_
    refine lv_iconst (v := (2 : Int32)) F.1 F.2.1 dX3_abortByOwner_12 (by decide) ?_
    refine lv_icmp_eq (tgt := 58) F.1 F.2.1 dX3_abortByOwner_13 (by decide) (fun c2 => ?_) (fun c2 => ?_)
    · replace h := zi_t c2 h
      exact bX3_abortByOwner_58 hst F hA E  x0 hx0 hr (lv_sub hl [0] rfl) h
    · replace h := zi_f c2 h
      refine lv_aload_n F.1 F.2.1 dX3_abortByOwner_16 rfl (lv_at hl 0 rfl) ?_
      refine gf3_32 F hx0 hr dX3_abortByOwner_17 ?_
      refine lv_bipush (v := (10 : Int32)) F.1 F.2.1 dX3_abortByOwner_20 (by decide) ?_
      refine lv_icmp_eq (tgt := 58) F.1 F.2.1 dX3_abortByOwner_22 (by decide) (fun c3 => ?_) (fun c3 => ?_)
      · replace h := zi_t c3 h
        exact bX3_abortByOwner_58 hst F hA E  x0 hx0 hr (lv_sub hl [0] rfl) h
      · replace h := zi_f c3 h
        refine lv_aload_n F.1 F.2.1 dX3_abortByOwner_25 rfl (lv_at hl 0 rfl) ?_
        refine lv_iconst (v := (1 : Int32)) F.1 F.2.1 dX3_abortByOwner_26 (by decide) ?_
        refine pf3_46 F hx0 hr dX3_abortByOwner_27 (1 : Int32) (by decide) (fun H locs z4 ez4 hr => ?_)
        replace h := zl_sub ez4 h
        clear ez4
        refine lv_aload_n F.1 F.2.1 dX3_abortByOwner_30 rfl (lv_at hl 0 rfl) ?_
        refine lv_bipush (v := (12 : Int32)) F.1 F.2.1 dX3_abortByOwner_31 (by decide) ?_
        refine pf3_98 F hx0 hr dX3_abortByOwner_33 (12 : Int32) (fun H locs z5 ez5 hr => ?_)
        replace h := zl_sub ez5 h
        clear ez5
        refine lv_aload_n F.1 F.2.1 dX3_abortByOwner_36 rfl (lv_at hl 0 rfl) ?_
        refine lv_aload_n F.1 F.2.1 dX3_abortByOwner_37 rfl (lv_at hl 0 rfl) ?_
        refine gf3_12 F hx0 hr dX3_abortByOwner_38 (fun y6 ey6 => ?_)
        replace h := zl_sub ey6 h
        have hy6 := zal_g hr hx0 (j := 16) rfl ey6
        clear ey6
        replace h := zd_some h
        obtain ⟨a7, rfl, h⟩ := h
        refine gf3_86 F (hy6 _ rfl) hr dX3_abortByOwner_41 ?_
        refine pf3_101 F hx0 hr dX3_abortByOwner_44 (zgI z5 6 6 a7) (fun H locs z8 ez8 hr => ?_)
        replace h := zl_sub ez8 h
        clear ez8
        refine lv_aload_n F.1 F.2.1 dX3_abortByOwner_47 rfl (lv_at hl 0 rfl) ?_
        refine lv_aload_n F.1 F.2.1 dX3_abortByOwner_48 rfl (lv_at hl 0 rfl) ?_
        refine gf3_21 F hx0 hr dX3_abortByOwner_49 (fun y9 ey9 => ?_)
        replace h := zl_sub ey9 h
        have hy9 := zal_g hr hx0 (j := 17) rfl ey9
        clear ey9
        replace h := zd_some h
        obtain ⟨a10, rfl, h⟩ := h
        refine gf3_104 F (hy9 _ rfl) hr dX3_abortByOwner_52 ?_
        refine pf3_107 F hx0 hr dX3_abortByOwner_55 (zgI z8 4 4 a10) (fun H locs z11 ez11 hr => ?_)
        replace h := zl_sub ez11 h
        clear ez11
        exact bX3_abortByOwner_58 hst F hA E  x0 hx0 hr (lv_sub hl [0] rfl) h
end SX3_abortByOwner
set_option maxRecDepth 100000 in
theorem okX3_abortByOwner (l : Launch) (D : va_G) (cy : Nat → ClassId) (B : Nat → Nat → Nat) (ids : List (Nat × Nat)) (hst : zSt B ids) (N : Nat) (x0 : Nat) (hx0 : (3, x0) ∈ ids) {z : St} {r : Int32} {z' : St} (hW : zWf ids z) (h : fX3_abortByOwner N x0 z = some (r, z')) : zM l yX3_abortByOwner (zws yX3_abortByOwner cX3_abortByOwner 1 none) rmX3_abortByOwner D cy B ids [.ref (B 3 x0)] none True z z' :=
  zM_of hst hW (by decide +kernel) (Nat.le_of_ble_eq_true rfl) (fun p e s m args below meth c A ls F hA hret hlocks hr hl => bX3_abortByOwner_0 hst F hA (zEnd_v F hret hlocks) x0 hx0 hr hl h)
abbrev rmX4_room : Room := { frames := 0, cells := 0, slots := 0, locals := 0 }
theorem hdX4_room : yX4_room.cls ≠ "java/lang/invoke/MethodHandle" ∧ yX4_room.cls ≠ "java/lang/invoke/VarHandle" ∧ (parseMethodDescriptor yX4_room.desc).map (fun d => d.parameters.length) = some 0 := by decide +kernel
section SX4_room
variable {p : Program} {l : Launch} {e : Env} {s : State} {m : MethodId} {args : Array Value} {below : List Frame} {meth : Method} {c : Code} {Q : State → Prop} {D : va_G} {cy : Nat → ClassId} {B : Nat → Nat → Nat} {ids : List (Nat × Nat)} {A : Nat → Prop}
def fX4_room (N : Nat)  (x0 : Nat) (z : St) : Option (Int32 × St) := some (((2048 : Int32) - (zgI z 4 3 x0)), z)
set_option maxHeartbeats 4000000 in
set_option maxRecDepth 100000 in
theorem bX4_room_0 (hst : zSt B ids) (F : zFx p m c cX4_room 1 s args RX4 D cy B ids A) (hA : ∀ q : Nat, s.heap.size ≤ q → A q) {r : Int32} {z' : St} (E : zEnd p l e rmX4_room s m args below meth c cX4_room D cy B ids A Q (some (.int r)) z' .ireturn True) {N : Nat}  (x0 : Nat) (hx0 : (4, x0) ∈ ids) {z : St} {H : Heap} {locs : List Loc} {ls : Array Slot} (hr : zRep D cy B ids A s.heap z H locs) (hl : lv_has ls 1 [(0, .ref (B 4 x0))]) (h : fX4_room N x0 z = some (r, z')) : W p l e rmX4_room s m args below meth c H locs 0 0 Q (F0 m 0 ls []) := by
  unfold fX4_room at h
  refine lv_sipush (v := (2048 : Int32)) F.1 F.2.1 dX4_room_0 (by decide) ?_
  refine lv_aload_n F.1 F.2.1 dX4_room_3 rfl (lv_at hl 0 rfl) ?_
  refine gf4_23 F hx0 hr dX4_room_4 ?_
  refine lv_isub F.1 F.2.1 dX4_room_7 ?_
  obtain ⟨rfl, rfl⟩ := zret h
  exact E _ _ _ _ dX4_room_8 trivial hr
end SX4_room
set_option maxRecDepth 100000 in
theorem okX4_room (l : Launch) (D : va_G) (cy : Nat → ClassId) (B : Nat → Nat → Nat) (ids : List (Nat × Nat)) (hst : zSt B ids) (N : Nat) (x0 : Nat) (hx0 : (4, x0) ∈ ids) {z : St} {r : Int32} {z' : St} (hW : zWf ids z) (h : fX4_room N x0 z = some (r, z')) : zM l yX4_room (zws yX4_room cX4_room 1 (some .int)) rmX4_room D cy B ids [.ref (B 4 x0)] (some (.int r)) True z z' :=
  zM_of hst hW (by decide +kernel) (Nat.le_of_ble_eq_true rfl) (fun p e s m args below meth c A ls F hA hret hlocks hr hl => bX4_room_0 hst F hA (zEnd_i F hret hlocks) x0 hx0 hr hl h)
abbrev rmX4_takeByte : Room := { frames := 0, cells := 0, slots := 0, locals := 0 }
theorem hdX4_takeByte : yX4_takeByte.cls ≠ "java/lang/invoke/MethodHandle" ∧ yX4_takeByte.cls ≠ "java/lang/invoke/VarHandle" ∧ (parseMethodDescriptor yX4_takeByte.desc).map (fun d => d.parameters.length) = some 0 := by decide +kernel
section SX4_takeByte
variable {p : Program} {l : Launch} {e : Env} {s : State} {m : MethodId} {args : Array Value} {below : List Frame} {meth : Method} {c : Code} {Q : State → Prop} {D : va_G} {cy : Nat → ClassId} {B : Nat → Nat → Nat} {ids : List (Nat × Nat)} {A : Nat → Prop}
def fX4_takeByte (N : Nat)  (x0 : Nat) (z : St) : Option (Int32 × St) := if 0 < (zgI z 4 3 x0) then (zk (zgI z 4 2 x0) 2048 <| zl ((zgA z 120 x0 (Int32.toNatClampNeg (zgI z 4 2 x0))) &&& (255 : Int32)) fun v3 => zl (zsI z 4 2 x0 (((zgI z 4 2 x0) + (1 : Int32)) &&& (2047 : Int32))) fun z4 => zl (zsI z4 4 3 x0 ((zgI z4 4 3 x0) - (1 : Int32))) fun z5 => some (v3, z5)) else (some ((0 : Int32), z))
set_option maxHeartbeats 4000000 in
set_option maxRecDepth 100000 in
theorem bX4_takeByte_0 (hst : zSt B ids) (F : zFx p m c cX4_takeByte 2 s args RX4 D cy B ids A) (hA : ∀ q : Nat, s.heap.size ≤ q → A q) {r : Int32} {z' : St} (E : zEnd p l e rmX4_takeByte s m args below meth c cX4_takeByte D cy B ids A Q (some (.int r)) z' .ireturn True) {N : Nat}  (x0 : Nat) (hx0 : (4, x0) ∈ ids) {z : St} {H : Heap} {locs : List Loc} {ls : Array Slot} (hr : zRep D cy B ids A s.heap z H locs) (hl : lv_has ls 2 [(0, .ref (B 4 x0))]) (h : fX4_takeByte N x0 z = some (r, z')) : W p l e rmX4_takeByte s m args below meth c H locs 0 0 Q (F0 m 0 ls []) := by
  unfold fX4_takeByte at h
  refine lv_aload_n F.1 F.2.1 dX4_takeByte_0 rfl (lv_at hl 0 rfl) ?_
  refine gf4_23 F hx0 hr dX4_takeByte_1 ?_
  refine lv_if_gt (tgt := 9) F.1 F.2.1 dX4_takeByte_4 (by decide) (fun c1 => ?_) (fun c1 => ?_)
  · replace h := zi_t c1 h
    refine lv_aload_n F.1 F.2.1 dX4_takeByte_9 rfl (lv_at hl 0 rfl) ?_
    refine gf4_9 F hx0 hr dX4_takeByte_10 ?_
    refine lv_aload_n F.1 F.2.1 dX4_takeByte_13 rfl (lv_at hl 0 rfl) ?_
    refine gf4_19 F hx0 hr dX4_takeByte_14 ?_
    replace h := zk_some h
    obtain ⟨c2, h⟩ := h
    refine zr_bald (k := 120) (by decide) rfl (by decide) F (zal_a F hx0 (j := 0) rfl) hr dX4_takeByte_17 c2 ?_
    refine lv_sipush (v := (255 : Int32)) F.1 F.2.1 dX4_takeByte_18 (by decide) ?_
    refine lv_iand F.1 F.2.1 dX4_takeByte_21 ?_
    refine lv_topi (fun v3 ev3 => ?_)
    replace h := zl_sub ev3 h
    refine lv_istore_n (lv' := [(1, .int v3), (0, .ref (B 4 x0))]) F.1 F.2.1 dX4_takeByte_22 rfl hl (by decide) rfl (fun ls hl => ?_)
    refine lv_aload_n F.1 F.2.1 dX4_takeByte_23 rfl (lv_at hl 1 rfl) ?_
    refine lv_aload_n F.1 F.2.1 dX4_takeByte_24 rfl (lv_at hl 1 rfl) ?_
    refine gf4_19 F hx0 hr dX4_takeByte_25 ?_
    refine lv_iconst (v := (1 : Int32)) F.1 F.2.1 dX4_takeByte_28 (by decide) ?_
    refine lv_iadd F.1 F.2.1 dX4_takeByte_29 ?_
    refine lv_sipush (v := (2047 : Int32)) F.1 F.2.1 dX4_takeByte_30 (by decide) ?_
    refine lv_iand F.1 F.2.1 dX4_takeByte_33 ?_
    refine pf4_19 F hx0 hr dX4_takeByte_34 (((zgI z 4 2 x0) + (1 : Int32)) &&& (2047 : Int32)) (fun H locs z4 ez4 hr => ?_)
    replace h := zl_sub ez4 h
    clear ez4
    refine lv_aload_n F.1 F.2.1 dX4_takeByte_37 rfl (lv_at hl 1 rfl) ?_
    refine lv_dup F.1 F.2.1 dX4_takeByte_38 rfl ?_
    refine gf4_23 F hx0 hr dX4_takeByte_39 ?_
    refine lv_iconst (v := (1 : Int32)) F.1 F.2.1 dX4_takeByte_42 (by decide) ?_
    refine lv_isub F.1 F.2.1 dX4_takeByte_43 ?_
    refine pf4_23 F hx0 hr dX4_takeByte_44 ((zgI z4 4 3 x0) - (1 : Int32)) (fun H locs z5 ez5 hr => ?_)
    replace h := zl_sub ez5 h
    clear ez5
    refine lv_iload_n F.1 F.2.1 dX4_takeByte_47 rfl (lv_at hl 0 rfl) ?_
    obtain ⟨rfl, rfl⟩ := zret h
    exact E _ _ _ _ dX4_takeByte_48 trivial hr
  · replace h := zi_f c1 h
    refine lv_iconst (v := (0 : Int32)) F.1 F.2.1 dX4_takeByte_7 (by decide) ?_
    obtain ⟨rfl, rfl⟩ := zret h
    exact E _ _ _ _ dX4_takeByte_8 trivial hr
end SX4_takeByte
set_option maxRecDepth 100000 in
theorem okX4_takeByte (l : Launch) (D : va_G) (cy : Nat → ClassId) (B : Nat → Nat → Nat) (ids : List (Nat × Nat)) (hst : zSt B ids) (N : Nat) (x0 : Nat) (hx0 : (4, x0) ∈ ids) {z : St} {r : Int32} {z' : St} (hW : zWf ids z) (h : fX4_takeByte N x0 z = some (r, z')) : zM l yX4_takeByte (zws yX4_takeByte cX4_takeByte 2 (some .int)) rmX4_takeByte D cy B ids [.ref (B 4 x0)] (some (.int r)) True z z' :=
  zM_of hst hW (by decide +kernel) (Nat.le_of_ble_eq_true rfl) (fun p e s m args below meth c A ls F hA hret hlocks hr hl => bX4_takeByte_0 hst F hA (zEnd_i F hret hlocks) x0 hx0 hr hl h)
abbrev rmX3_takeByte : Room := { frames := 1, cells := 0, slots := 0, locals := 60 }
theorem hdX3_takeByte : yX3_takeByte.cls ≠ "java/lang/invoke/MethodHandle" ∧ yX3_takeByte.cls ≠ "java/lang/invoke/VarHandle" ∧ (parseMethodDescriptor yX3_takeByte.desc).map (fun d => d.parameters.length) = some 0 := by decide +kernel
theorem hroX3_takeByte_X3_takesIn : rmX3_takesIn.frames + 1 ≤ rmX3_takeByte.frames ∧ 8 + (1 + 11) + rmX3_takesIn.locals ≤ rmX3_takeByte.locals := by decide
theorem hroX3_takeByte_X4_room : rmX4_room.frames + 1 ≤ rmX3_takeByte.frames ∧ 8 + (1 + 11) + rmX4_room.locals ≤ rmX3_takeByte.locals := by decide
theorem hroX3_takeByte_X4_takeByte : rmX4_takeByte.frames + 1 ≤ rmX3_takeByte.frames ∧ 8 + (2 + 11) + rmX4_takeByte.locals ≤ rmX3_takeByte.locals := by decide
section SX3_takeByte
variable {p : Program} {l : Launch} {e : Env} {s : State} {m : MethodId} {args : Array Value} {below : List Frame} {meth : Method} {c : Code} {Q : State → Prop} {D : va_G} {cy : Nat → ClassId} {B : Nat → Nat → Nat} {ids : List (Nat × Nat)} {A : Nat → Prop}
def fX3_takeByte_27 (N : Nat)  (x0 : Nat) (x1 : Int32) (s0 : Int32) (z : St) : Option (Int32 × St) := zl (zgR z 3 17 x0) fun y1 => zd y1 fun a2 => zc (fX4_takeByte N a2 z) fun r3 z4 => if s0 = 0 then (some (r3, z4)) else (zl (zgR z4 3 17 x0) fun y8 => zd y8 fun a9 => zc (fX4_room N a9 z4) fun r10 z11 => if r10 < x1 then (some (r3, z11)) else (zc (fX3_takesIn N x0 z11) fun r15 z16 => if r15 = 0 then (some (r3, z16)) else (zl (zsI z16 3 13 x0 (1 : Int32)) fun z20 => some (r3, z20))))
set_option maxHeartbeats 4000000 in
set_option maxRecDepth 100000 in
theorem bX3_takeByte_27 (hst : zSt B ids) (F : zFx p m c cX3_takeByte 4 s args RX3 D cy B ids A) (hA : ∀ q : Nat, s.heap.size ≤ q → A q) {r : Int32} {z' : St} (E : zEnd p l e rmX3_takeByte s m args below meth c cX3_takeByte D cy B ids A Q (some (.int r)) z' .ireturn True) {N : Nat}  (x0 : Nat) (x1 : Int32) (s0 : Int32) (hx0 : (3, x0) ∈ ids) {z : St} {H : Heap} {locs : List Loc} {ls : Array Slot} (hr : zRep D cy B ids A s.heap z H locs) (hl : lv_has ls 4 [(0, .ref (B 3 x0)), (1, .int x1)]) (h : fX3_takeByte_27 N x0 x1 s0 z = some (r, z')) : W p l e rmX3_takeByte s m args below meth c H locs 0 0 Q (F0 m 27 ls [.int s0]) := by
  unfold fX3_takeByte_27 at h
  refine lv_istore_n (lv' := [(2, .int s0), (0, .ref (B 3 x0)), (1, .int x1)]) F.1 F.2.1 dX3_takeByte_27 rfl hl (by decide) rfl (fun ls hl => ?_)
  refine lv_aload_n F.1 F.2.1 dX3_takeByte_28 rfl (lv_at hl 1 rfl) ?_
  refine gf3_21 F hx0 hr dX3_takeByte_29 (fun y1 ey1 => ?_)
  replace h := zl_sub ey1 h
  have hy1 := zal_g hr hx0 (j := 17) rfl ey1
  clear ey1
  replace h := zd_some h
  obtain ⟨a2, rfl, h⟩ := h
  replace h := zc_some h
  obtain ⟨r3, z4, hc5, h⟩ := h
  refine zr_calli (zrun_VN (As := []) (rest := []) zn_1660 zq_1662 zs_X4_takeByte zq_1663 zq_15 hdX4_takeByte (by decide) (T := TX4) (N := 8) rfl (okX4_takeByte l D cy B ids hst N a2 (hy1 _ rfl) hr.2.2 hc5) F hr (hy1 _ rfl) hl.1 rfl (by decide) dX3_takeByte_32 rfl rfl hroX3_takeByte_X4_takeByte ⟨Nat.zero_le _, Nat.zero_le _⟩) F hA hr (fun H locs hw6 hr => ?_)
  clear hc5
  refine lv_istore_n (lv' := [(3, .int r3), (2, .int s0), (0, .ref (B 3 x0)), (1, .int x1)]) F.1 F.2.1 dX3_takeByte_35 rfl hl (by decide) rfl (fun ls hl => ?_)
  refine lv_iload_n F.1 F.2.1 dX3_takeByte_36 rfl (lv_at hl 1 rfl) ?_
  refine lv_if_eq (tgt := 63) F.1 F.2.1 dX3_takeByte_37 (by decide) (fun c7 => ?_) (fun c7 => ?_)
  · replace h := zi_t c7 h
    refine lv_iload_n F.1 F.2.1 dX3_takeByte_63 rfl (lv_at hl 0 rfl) ?_
    obtain ⟨rfl, rfl⟩ := zret h
    exact E _ _ _ _ dX3_takeByte_64 trivial hr
  · replace h := zi_f c7 h
    refine lv_aload_n F.1 F.2.1 dX3_takeByte_40 rfl (lv_at hl 2 rfl) ?_
    refine gf3_21 F hx0 hr dX3_takeByte_41 (fun y8 ey8 => ?_)
    replace h := zl_sub ey8 h
    have hy8 := zal_g hr hx0 (j := 17) rfl ey8
    clear ey8
    replace h := zd_some h
    obtain ⟨a9, rfl, h⟩ := h
    replace h := zc_some h
    obtain ⟨r10, z11, hc12, h⟩ := h
    refine zr_calli (zrun_VN (As := []) (rest := []) zn_1604 zq_1376 zs_X4_room zq_1377 zq_15 hdX4_room (by decide) (T := TX4) (N := 8) rfl (okX4_room l D cy B ids hst N a9 (hy8 _ rfl) hr.2.2 hc12) F hr (hy8 _ rfl) hl.1 rfl (by decide) dX3_takeByte_44 rfl rfl hroX3_takeByte_X4_room ⟨Nat.zero_le _, Nat.zero_le _⟩) F hA hr (fun H locs hw13 hr => ?_)
    clear hc12
    refine lv_iload_n F.1 F.2.1 dX3_takeByte_47 rfl (lv_at hl 3 rfl) ?_
    refine lv_icmp_lt (tgt := 63) F.1 F.2.1 dX3_takeByte_48 (by decide) (fun c14 => ?_) (fun c14 => ?_)
    · replace h := zi_t c14 h
      refine lv_iload_n F.1 F.2.1 dX3_takeByte_63 rfl (lv_at hl 0 rfl) ?_
      obtain ⟨rfl, rfl⟩ := zret h
      exact E _ _ _ _ dX3_takeByte_64 trivial hr
    · replace h := zi_f c14 h
      refine lv_aload_n F.1 F.2.1 dX3_takeByte_51 rfl (lv_at hl 2 rfl) ?_
      replace h := zc_some h
      obtain ⟨r15, z16, hc17, h⟩ := h
      refine zr_calli (zrun_V (As := []) (rest := []) zq_1395 zq_1397 zs_X3_takesIn zq_1398 zq_13 hdX3_takesIn (by decide) (T := TX3) (N := 19) rfl (okX3_takesIn l D cy B ids hst N x0 hx0 hr.2.2 hc17) F hr hx0 hl.1 rfl (by decide) dX3_takeByte_52 rfl rfl hroX3_takeByte_X3_takesIn ⟨Nat.zero_le _, Nat.zero_le _⟩) F hA hr (fun H locs hw18 hr => ?_)
      clear hc17
      refine lv_if_eq (tgt := 63) F.1 F.2.1 dX3_takeByte_55 (by decide) (fun c19 => ?_) (fun c19 => ?_)
      · replace h := zi_t c19 h
        refine lv_iload_n F.1 F.2.1 dX3_takeByte_63 rfl (lv_at hl 0 rfl) ?_
        obtain ⟨rfl, rfl⟩ := zret h
        exact E _ _ _ _ dX3_takeByte_64 trivial hr
      · replace h := zi_f c19 h
        refine lv_aload_n F.1 F.2.1 dX3_takeByte_58 rfl (lv_at hl 2 rfl) ?_
        refine lv_iconst (v := (1 : Int32)) F.1 F.2.1 dX3_takeByte_59 (by decide) ?_
        refine pf3_71 F hx0 hr dX3_takeByte_60 (1 : Int32) (by decide) (fun H locs z20 ez20 hr => ?_)
        replace h := zl_sub ez20 h
        clear ez20
        refine lv_iload_n F.1 F.2.1 dX3_takeByte_63 rfl (lv_at hl 0 rfl) ?_
        obtain ⟨rfl, rfl⟩ := zret h
        exact E _ _ _ _ dX3_takeByte_64 trivial hr
def fX3_takeByte (N : Nat)  (x0 : Nat) (z : St) : Option (Int32 × St) := zl (if (1024 : Int32) < (zgI z 3 2 x0) then (1024 : Int32) else (zgI z 3 2 x0)) fun v1 => zl (zgR z 3 17 x0) fun y2 => zd y2 fun a3 => zc (fX4_room N a3 z) fun r4 z5 => if v1 ≤ r4 then (fX3_takeByte_27 N x0 v1 (0 : Int32) z5) else (fX3_takeByte_27 N x0 v1 (1 : Int32) z5)
set_option maxHeartbeats 4000000 in
set_option maxRecDepth 100000 in
theorem bX3_takeByte_0 (hst : zSt B ids) (F : zFx p m c cX3_takeByte 4 s args RX3 D cy B ids A) (hA : ∀ q : Nat, s.heap.size ≤ q → A q) {r : Int32} {z' : St} (E : zEnd p l e rmX3_takeByte s m args below meth c cX3_takeByte D cy B ids A Q (some (.int r)) z' .ireturn True) {N : Nat}  (x0 : Nat) (hx0 : (3, x0) ∈ ids) {z : St} {H : Heap} {locs : List Loc} {ls : Array Slot} (hr : zRep D cy B ids A s.heap z H locs) (hl : lv_has ls 4 [(0, .ref (B 3 x0))]) (h : fX3_takeByte N x0 z = some (r, z')) : W p l e rmX3_takeByte s m args below meth c H locs 0 0 Q (F0 m 0 ls []) := by
  unfold fX3_takeByte at h
  refine lv_aload_n F.1 F.2.1 dX3_takeByte_0 rfl (lv_at hl 0 rfl) ?_
  refine gf3_53 F hx0 hr dX3_takeByte_1 ?_
  refine lv_sipush (v := (1024 : Int32)) F.1 F.2.1 dX3_takeByte_4 (by decide) ?_
  refine va_mmin F.1 F.2.1 (F.2.2.1.trans hl.1.symm) F.2.2.2.1 (F.2.2.2.2.1 _ zq_1329) (F.2.2.2.2.1 _ zq_304) (F.2.2.2.2.1 _ zq_27) (F.2.2.2.2.1 _ zq_305) (Nat.le_of_ble_eq_true rfl) (Nat.le_of_ble_eq_true rfl) (Nat.zero_le _) (Nat.zero_le _) dX3_takeByte_7 ?_
  refine lv_topi (fun v1 ev1 => ?_)
  replace h := zl_sub ev1 h
  refine lv_istore_n (lv' := [(1, .int v1), (0, .ref (B 3 x0))]) F.1 F.2.1 dX3_takeByte_10 rfl hl (by decide) rfl (fun ls hl => ?_)
  refine lv_aload_n F.1 F.2.1 dX3_takeByte_11 rfl (lv_at hl 1 rfl) ?_
  refine gf3_21 F hx0 hr dX3_takeByte_12 (fun y2 ey2 => ?_)
  replace h := zl_sub ey2 h
  have hy2 := zal_g hr hx0 (j := 17) rfl ey2
  clear ey2
  replace h := zd_some h
  obtain ⟨a3, rfl, h⟩ := h
  replace h := zc_some h
  obtain ⟨r4, z5, hc6, h⟩ := h
  refine zr_calli (zrun_VN (As := []) (rest := []) zn_1604 zq_1376 zs_X4_room zq_1377 zq_15 hdX4_room (by decide) (T := TX4) (N := 8) rfl (okX4_room l D cy B ids hst N a3 (hy2 _ rfl) hr.2.2 hc6) F hr (hy2 _ rfl) hl.1 rfl (by decide) dX3_takeByte_15 rfl rfl hroX3_takeByte_X4_room ⟨Nat.zero_le _, Nat.zero_le _⟩) F hA hr (fun H locs hw7 hr => ?_)
  clear hc6
  refine lv_iload_n F.1 F.2.1 dX3_takeByte_18 rfl (lv_at hl 0 rfl) ?_
  refine lv_icmp_ge (tgt := 26) F.1 F.2.1 dX3_takeByte_19 (by decide) (fun c8 => ?_) (fun c8 => ?_)
  · replace h := zi_t c8 h
    refine lv_iconst (v := (0 : Int32)) F.1 F.2.1 dX3_takeByte_26 (by decide) ?_
    exact bX3_takeByte_27 hst F hA E  x0 v1 (0 : Int32) hx0 hr (lv_sub hl [1, 0] rfl) h
  · replace h := zi_f c8 h
    refine lv_iconst (v := (1 : Int32)) F.1 F.2.1 dX3_takeByte_22 (by decide) ?_
    refine lv_goto (tgt := 27) F.1 F.2.1 dX3_takeByte_23 (by decide) ?_
    exact bX3_takeByte_27 hst F hA E  x0 v1 (1 : Int32) hx0 hr (lv_sub hl [1, 0] rfl) h
end SX3_takeByte
set_option maxRecDepth 100000 in
theorem okX3_takeByte (l : Launch) (D : va_G) (cy : Nat → ClassId) (B : Nat → Nat → Nat) (ids : List (Nat × Nat)) (hst : zSt B ids) (N : Nat) (x0 : Nat) (hx0 : (3, x0) ∈ ids) {z : St} {r : Int32} {z' : St} (hW : zWf ids z) (h : fX3_takeByte N x0 z = some (r, z')) : zM l yX3_takeByte (zws yX3_takeByte cX3_takeByte 4 (some .int)) rmX3_takeByte D cy B ids [.ref (B 3 x0)] (some (.int r)) True z z' :=
  zM_of hst hW (by decide +kernel) (Nat.le_of_ble_eq_true rfl) (fun p e s m args below meth c A ls F hA hret hlocks hr hl => bX3_takeByte_0 hst F hA (zEnd_i F hret hlocks) x0 hx0 hr hl h)
abbrev rmX6_hasUnthanked : Room := { frames := 0, cells := 0, slots := 0, locals := 0 }
theorem hdX6_hasUnthanked : yX6_hasUnthanked.cls ≠ "java/lang/invoke/MethodHandle" ∧ yX6_hasUnthanked.cls ≠ "java/lang/invoke/VarHandle" ∧ (parseMethodDescriptor yX6_hasUnthanked.desc).map (fun d => d.parameters.length) = some 0 := by decide +kernel
section SX6_hasUnthanked
variable {p : Program} {l : Launch} {e : Env} {s : State} {m : MethodId} {args : Array Value} {below : List Frame} {meth : Method} {c : Code} {Q : State → Prop} {D : va_G} {cy : Nat → ClassId} {B : Nat → Nat → Nat} {ids : List (Nat × Nat)} {A : Nat → Prop}
def fX6_hasUnthanked (N : Nat)  (x0 : Nat) (z : St) : Option (Int32 × St) := if (zgI z 6 5 x0) = (zgI z 6 6 x0) then (some ((0 : Int32), z)) else (some ((1 : Int32), z))
set_option maxHeartbeats 4000000 in
set_option maxRecDepth 100000 in
theorem bX6_hasUnthanked_0 (hst : zSt B ids) (F : zFx p m c cX6_hasUnthanked 1 s args RX6 D cy B ids A) (hA : ∀ q : Nat, s.heap.size ≤ q → A q) {r : Int32} {z' : St} (E : zEnd p l e rmX6_hasUnthanked s m args below meth c cX6_hasUnthanked D cy B ids A Q (some (.int r)) z' .ireturn (r = 0 ∨ r = 1)) {N : Nat}  (x0 : Nat) (hx0 : (6, x0) ∈ ids) {z : St} {H : Heap} {locs : List Loc} {ls : Array Slot} (hr : zRep D cy B ids A s.heap z H locs) (hl : lv_has ls 1 [(0, .ref (B 6 x0))]) (h : fX6_hasUnthanked N x0 z = some (r, z')) : W p l e rmX6_hasUnthanked s m args below meth c H locs 0 0 Q (F0 m 0 ls []) := by
  unfold fX6_hasUnthanked at h
  refine lv_aload_n F.1 F.2.1 dX6_hasUnthanked_0 rfl (lv_at hl 0 rfl) ?_
  refine gf6_28 F hx0 hr dX6_hasUnthanked_1 ?_
  refine lv_aload_n F.1 F.2.1 dX6_hasUnthanked_4 rfl (lv_at hl 0 rfl) ?_
  refine gf6_31 F hx0 hr dX6_hasUnthanked_5 ?_
  refine lv_icmp_eq (tgt := 15) F.1 F.2.1 dX6_hasUnthanked_8 (by decide) (fun c1 => ?_) (fun c1 => ?_)
  · replace h := zi_t c1 h
    refine lv_iconst (v := (0 : Int32)) F.1 F.2.1 dX6_hasUnthanked_15 (by decide) ?_
    obtain ⟨rfl, rfl⟩ := zret h
    exact E _ _ _ _ dX6_hasUnthanked_16 (by decide) hr
  · replace h := zi_f c1 h
    refine lv_iconst (v := (1 : Int32)) F.1 F.2.1 dX6_hasUnthanked_11 (by decide) ?_
    refine lv_goto (tgt := 16) F.1 F.2.1 dX6_hasUnthanked_12 (by decide) ?_
    obtain ⟨rfl, rfl⟩ := zret h
    exact E _ _ _ _ dX6_hasUnthanked_16 (by decide) hr
end SX6_hasUnthanked
set_option maxRecDepth 100000 in
theorem okX6_hasUnthanked (l : Launch) (D : va_G) (cy : Nat → ClassId) (B : Nat → Nat → Nat) (ids : List (Nat × Nat)) (hst : zSt B ids) (N : Nat) (x0 : Nat) (hx0 : (6, x0) ∈ ids) {z : St} {r : Int32} {z' : St} (hW : zWf ids z) (h : fX6_hasUnthanked N x0 z = some (r, z')) : zM l yX6_hasUnthanked (zws yX6_hasUnthanked cX6_hasUnthanked 1 (some .boolean)) rmX6_hasUnthanked D cy B ids [.ref (B 6 x0)] (some (.int r)) (r = 0 ∨ r = 1) z z' :=
  zM_of hst hW (by decide +kernel) (Nat.le_of_ble_eq_true rfl) (fun p e s m args below meth c A ls F hA hret hlocks hr hl => bX6_hasUnthanked_0 hst F hA (zEnd_z F hret hlocks) x0 hx0 hr hl h)
abbrev rmX3_ring : Room := { frames := 1, cells := 0, slots := 0, locals := 60 }
theorem hdX3_ring : yX3_ring.cls ≠ "java/lang/invoke/MethodHandle" ∧ yX3_ring.cls ≠ "java/lang/invoke/VarHandle" ∧ (parseMethodDescriptor yX3_ring.desc).map (fun d => d.parameters.length) = some 1 := by decide +kernel
theorem hroX3_ring_X3_finish : rmX3_finish.frames + 1 ≤ rmX3_ring.frames ∧ 8 + (2 + 11) + rmX3_finish.locals ≤ rmX3_ring.locals := by decide
theorem hroX3_ring_X6_hasUnthanked : rmX6_hasUnthanked.frames + 1 ≤ rmX3_ring.frames ∧ 8 + (1 + 11) + rmX6_hasUnthanked.locals ≤ rmX3_ring.locals := by decide
section SX3_ring
variable {p : Program} {l : Launch} {e : Env} {s : State} {m : MethodId} {args : Array Value} {below : List Frame} {meth : Method} {c : Code} {Q : State → Prop} {D : va_G} {cy : Nat → ClassId} {B : Nat → Nat → Nat} {ids : List (Nat × Nat)} {A : Nat → Prop}
def fX3_ring_123 (N : Nat)  (x0 : Nat) (x1 : Int32) (z : St) : Option (Int32 × St) := zl (zgR z 3 18 x0) fun y1 => zl (zgR z 3 18 x0) fun y2 => zd y2 fun a3 => zd y1 fun a4 => zl (zsI z 10 2 a4 (if ((2 : Int32) * (zgI z 10 2 a3)) < (1200 : Int32) then ((2 : Int32) * (zgI z 10 2 a3)) else (1200 : Int32))) fun z5 => zl (zgR z5 3 18 x0) fun y6 => zl (zgR z5 3 18 x0) fun y7 => zd y7 fun a8 => zd y6 fun a9 => zl (zsI z5 10 0 a9 (x1 + (zgI z5 10 2 a8))) fun z10 => some (0, z10)
set_option maxHeartbeats 4000000 in
set_option maxRecDepth 100000 in
theorem bX3_ring_123 (hst : zSt B ids) (F : zFx p m c cX3_ring 2 s args RX3 D cy B ids A) (hA : ∀ q : Nat, s.heap.size ≤ q → A q) {r : Int32} {z' : St} (E : zEnd p l e rmX3_ring s m args below meth c cX3_ring D cy B ids A Q none z' .return_ True) {N : Nat}  (x0 : Nat) (x1 : Int32) (hx0 : (3, x0) ∈ ids) {z : St} {H : Heap} {locs : List Loc} {ls : Array Slot} (hr : zRep D cy B ids A s.heap z H locs) (hl : lv_has ls 2 [(0, .ref (B 3 x0)), (1, .int x1)]) (h : fX3_ring_123 N x0 x1 z = some (r, z')) : W p l e rmX3_ring s m args below meth c H locs 0 0 Q (F0 m 123 ls []) := by
  unfold fX3_ring_123 at h
  refine lv_aload_n F.1 F.2.1 dX3_ring_123 rfl (lv_at hl 0 rfl) ?_
  refine gf3_28 F hx0 hr dX3_ring_124 (fun y1 ey1 => ?_)
  replace h := zl_sub ey1 h
  have hy1 := zal_g hr hx0 (j := 18) rfl ey1
  clear ey1
  refine lv_sipush (v := (1200 : Int32)) F.1 F.2.1 dX3_ring_127 (by decide) ?_
  refine lv_iconst (v := (2 : Int32)) F.1 F.2.1 dX3_ring_130 (by decide) ?_
  refine lv_aload_n F.1 F.2.1 dX3_ring_131 rfl (lv_at hl 0 rfl) ?_
  refine gf3_28 F hx0 hr dX3_ring_132 (fun y2 ey2 => ?_)
  replace h := zl_sub ey2 h
  have hy2 := zal_g hr hx0 (j := 18) rfl ey2
  clear ey2
  replace h := zd_some h
  obtain ⟨a3, rfl, h⟩ := h
  refine gf3_133 F (hy2 _ rfl) hr dX3_ring_135 ?_
  refine lv_imul F.1 F.2.1 dX3_ring_138 ?_
  refine va_mmin F.1 F.2.1 (F.2.2.1.trans hl.1.symm) F.2.2.2.1 (F.2.2.2.2.1 _ zq_1329) (F.2.2.2.2.1 _ zq_304) (F.2.2.2.2.1 _ zq_27) (F.2.2.2.2.1 _ zq_305) (Nat.le_of_ble_eq_true rfl) (by simp only [List.map, zrf_cat]; exact Nat.le_of_ble_eq_true rfl) (Nat.zero_le _) (Nat.zero_le _) dX3_ring_139 ?_
  replace h := zd_some h
  obtain ⟨a4, rfl, h⟩ := h
  refine pf3_133 F (hy1 _ rfl) hr dX3_ring_142 (if ((2 : Int32) * (zgI z 10 2 a3)) < (1200 : Int32) then ((2 : Int32) * (zgI z 10 2 a3)) else (1200 : Int32)) (fun H locs z5 ez5 hr => ?_)
  replace h := zl_sub ez5 h
  clear ez5
  refine lv_aload_n F.1 F.2.1 dX3_ring_145 rfl (lv_at hl 0 rfl) ?_
  refine gf3_28 F hx0 hr dX3_ring_146 (fun y6 ey6 => ?_)
  replace h := zl_sub ey6 h
  have hy6 := zal_g hr hx0 (j := 18) rfl ey6
  clear ey6
  refine lv_iload_n F.1 F.2.1 dX3_ring_149 rfl (lv_at hl 1 rfl) ?_
  refine lv_aload_n F.1 F.2.1 dX3_ring_150 rfl (lv_at hl 0 rfl) ?_
  refine gf3_28 F hx0 hr dX3_ring_151 (fun y7 ey7 => ?_)
  replace h := zl_sub ey7 h
  have hy7 := zal_g hr hx0 (j := 18) rfl ey7
  clear ey7
  replace h := zd_some h
  obtain ⟨a8, rfl, h⟩ := h
  refine gf3_133 F (hy7 _ rfl) hr dX3_ring_154 ?_
  refine lv_iadd F.1 F.2.1 dX3_ring_157 ?_
  replace h := zd_some h
  obtain ⟨a9, rfl, h⟩ := h
  refine pf3_89 F (hy6 _ rfl) hr dX3_ring_158 (x1 + (zgI z5 10 2 a8)) (fun H locs z10 ez10 hr => ?_)
  replace h := zl_sub ez10 h
  clear ez10
  obtain ⟨rfl, rfl⟩ := zret h
  exact E _ _ _ _ dX3_ring_161 trivial hr
def fX3_ring_110 (N : Nat)  (x0 : Nat) (x1 : Int32) (z : St) : Option (Int32 × St) := zl (zsI z 3 9 x0 (1 : Int32)) fun z1 => fX3_ring_123 N x0 x1 z1
set_option maxHeartbeats 4000000 in
set_option maxRecDepth 100000 in
theorem bX3_ring_110 (hst : zSt B ids) (F : zFx p m c cX3_ring 2 s args RX3 D cy B ids A) (hA : ∀ q : Nat, s.heap.size ≤ q → A q) {r : Int32} {z' : St} (E : zEnd p l e rmX3_ring s m args below meth c cX3_ring D cy B ids A Q none z' .return_ True) {N : Nat}  (x0 : Nat) (x1 : Int32) (hx0 : (3, x0) ∈ ids) {z : St} {H : Heap} {locs : List Loc} {ls : Array Slot} (hr : zRep D cy B ids A s.heap z H locs) (hl : lv_has ls 2 [(0, .ref (B 3 x0)), (1, .int x1)]) (h : fX3_ring_110 N x0 x1 z = some (r, z')) : W p l e rmX3_ring s m args below meth c H locs 0 0 Q (F0 m 110 ls []) := by
  unfold fX3_ring_110 at h
  refine lv_aload_n F.1 F.2.1 dX3_ring_110 rfl (lv_at hl 0 rfl) ?_
  refine lv_iconst (v := (1 : Int32)) F.1 F.2.1 dX3_ring_111 (by decide) ?_
  refine pf3_59 F hx0 hr dX3_ring_112 (1 : Int32) (by decide) (fun H locs z1 ez1 hr => ?_)
  replace h := zl_sub ez1 h
  clear ez1
  refine lv_goto (tgt := 123) F.1 F.2.1 dX3_ring_115 (by decide) ?_
  exact bX3_ring_123 hst F hA E  x0 x1 hx0 hr (lv_sub hl [0, 1] rfl) h
def fX3_ring_22 (N : Nat)  (x0 : Nat) (x1 : Int32) (z : St) : Option (Int32 × St) := zl (zgR z 3 18 x0) fun y1 => zd y1 fun a2 => if (zgI z 10 0 a2) = 0 then (some (0, z)) else (zl (zgR z 3 18 x0) fun y4 => zd y4 fun a5 => if (zgI z 10 0 a5) ≤ x1 then (zl (zgR z 3 18 x0) fun y7 => zd y7 fun a8 => zl (zsI z 10 1 a8 ((zgI z 10 1 a8) + (1 : Int32))) fun z9 => zl (zgR z9 3 18 x0) fun y10 => zd y10 fun a11 => if (zgI z9 10 1 a11) ≤ (8 : Int32) then (zl (zgR z9 3 16 x0) fun y13 => zd y13 fun a14 => zc (fX6_hasUnthanked N a14 z9) fun r15 z16 => if ¬ r15 = 0 then (if (zgI z16 3 0 x0) = (2 : Int32) then (fX3_ring_110 N x0 x1 z16) else (if ¬ (zgI z16 3 0 x0) = (3 : Int32) then (zl (zsI z16 3 11 x0 (1 : Int32)) fun z22 => fX3_ring_123 N x0 x1 z22) else (fX3_ring_110 N x0 x1 z16))) else (zl (zsI z16 3 12 x0 (1 : Int32)) fun z23 => fX3_ring_123 N x0 x1 z23)) else (zc (fX3_finish N x0 (11 : Int32) z9) fun _ z25 => some (0, z25))) else (some (0, z)))
set_option maxHeartbeats 4000000 in
set_option maxRecDepth 100000 in
theorem bX3_ring_22 (hst : zSt B ids) (F : zFx p m c cX3_ring 2 s args RX3 D cy B ids A) (hA : ∀ q : Nat, s.heap.size ≤ q → A q) {r : Int32} {z' : St} (E : zEnd p l e rmX3_ring s m args below meth c cX3_ring D cy B ids A Q none z' .return_ True) {N : Nat}  (x0 : Nat) (x1 : Int32) (hx0 : (3, x0) ∈ ids) {z : St} {H : Heap} {locs : List Loc} {ls : Array Slot} (hr : zRep D cy B ids A s.heap z H locs) (hl : lv_has ls 2 [(0, .ref (B 3 x0)), (1, .int x1)]) (h : fX3_ring_22 N x0 x1 z = some (r, z')) : W p l e rmX3_ring s m args below meth c H locs 0 0 Q (F0 m 22 ls []) := by
  unfold fX3_ring_22 at h
  refine lv_aload_n F.1 F.2.1 dX3_ring_22 rfl (lv_at hl 0 rfl) ?_
  refine gf3_28 F hx0 hr dX3_ring_23 (fun y1 ey1 => ?_)
  replace h := zl_sub ey1 h
  have hy1 := zal_g hr hx0 (j := 18) rfl ey1
  clear ey1
  replace h := zd_some h
  obtain ⟨a2, rfl, h⟩ := h
  refine gf3_89 F (hy1 _ rfl) hr dX3_ring_26 ?_
  refine lv_if_eq (tgt := 43) F.1 F.2.1 dX3_ring_29 (by decide) (fun c3 => ?_) (fun c3 => ?_)
  · replace h := zi_t c3 h
    obtain ⟨rfl, rfl⟩ := zret h
    exact E _ _ _ _ dX3_ring_43 trivial hr
  · replace h := zi_f c3 h
    refine lv_iload_n F.1 F.2.1 dX3_ring_32 rfl (lv_at hl 1 rfl) ?_
    refine lv_aload_n F.1 F.2.1 dX3_ring_33 rfl (lv_at hl 0 rfl) ?_
    refine gf3_28 F hx0 hr dX3_ring_34 (fun y4 ey4 => ?_)
    replace h := zl_sub ey4 h
    have hy4 := zal_g hr hx0 (j := 18) rfl ey4
    clear ey4
    replace h := zd_some h
    obtain ⟨a5, rfl, h⟩ := h
    refine gf3_89 F (hy4 _ rfl) hr dX3_ring_37 ?_
    refine lv_icmp_ge (tgt := 44) F.1 F.2.1 dX3_ring_40 (by decide) (fun c6 => ?_) (fun c6 => ?_)
    · replace h := zi_t c6 h
      refine lv_aload_n F.1 F.2.1 dX3_ring_44 rfl (lv_at hl 0 rfl) ?_
      refine gf3_28 F hx0 hr dX3_ring_45 (fun y7 ey7 => ?_)
      replace h := zl_sub ey7 h
      have hy7 := zal_g hr hx0 (j := 18) rfl ey7
      clear ey7
      refine lv_dup F.1 F.2.1 dX3_ring_48 zrf_cat ?_
      replace h := zd_some h
      obtain ⟨a8, rfl, h⟩ := h
      refine gf3_127 F (hy7 _ rfl) hr dX3_ring_49 ?_
      refine lv_iconst (v := (1 : Int32)) F.1 F.2.1 dX3_ring_52 (by decide) ?_
      refine lv_iadd F.1 F.2.1 dX3_ring_53 ?_
      refine pf3_127 F (hy7 _ rfl) hr dX3_ring_54 ((zgI z 10 1 a8) + (1 : Int32)) (fun H locs z9 ez9 hr => ?_)
      replace h := zl_sub ez9 h
      clear ez9
      refine lv_aload_n F.1 F.2.1 dX3_ring_57 rfl (lv_at hl 0 rfl) ?_
      refine gf3_28 F hx0 hr dX3_ring_58 (fun y10 ey10 => ?_)
      replace h := zl_sub ey10 h
      have hy10 := zal_g hr hx0 (j := 18) rfl ey10
      clear ey10
      replace h := zd_some h
      obtain ⟨a11, rfl, h⟩ := h
      refine gf3_127 F (hy10 _ rfl) hr dX3_ring_61 ?_
      refine lv_bipush (v := (8 : Int32)) F.1 F.2.1 dX3_ring_64 (by decide) ?_
      refine lv_icmp_le (tgt := 76) F.1 F.2.1 dX3_ring_66 (by decide) (fun c12 => ?_) (fun c12 => ?_)
      · replace h := zi_t c12 h
        refine lv_aload_n F.1 F.2.1 dX3_ring_76 rfl (lv_at hl 0 rfl) ?_
        refine gf3_12 F hx0 hr dX3_ring_77 (fun y13 ey13 => ?_)
        replace h := zl_sub ey13 h
        have hy13 := zal_g hr hx0 (j := 16) rfl ey13
        clear ey13
        replace h := zd_some h
        obtain ⟨a14, rfl, h⟩ := h
        replace h := zc_some h
        obtain ⟨r15, z16, hc17, h⟩ := h
        refine zr_calli (zrun_VN (As := []) (rest := []) zn_1361 zq_1363 zs_X6_hasUnthanked zq_1364 zq_14 hdX6_hasUnthanked (by decide) (T := TX6) (N := 14) rfl (okX6_hasUnthanked l D cy B ids hst N a14 (hy13 _ rfl) hr.2.2 hc17) F hr (hy13 _ rfl) hl.1 rfl (by decide) dX3_ring_80 rfl rfl hroX3_ring_X6_hasUnthanked ⟨Nat.zero_le _, Nat.zero_le _⟩) F hA hr (fun H locs hw18 hr => ?_)
        clear hc17
        refine lv_if_ne (tgt := 94) F.1 F.2.1 dX3_ring_83 (by decide) (fun c19 => ?_) (fun c19 => ?_)
        · replace h := zi_t c19 h
          refine lv_aload_n F.1 F.2.1 dX3_ring_94 rfl (lv_at hl 0 rfl) ?_
          refine gf3_32 F hx0 hr dX3_ring_95 ?_
          refine lv_iconst (v := (2 : Int32)) F.1 F.2.1 dX3_ring_98 (by decide) ?_
          refine lv_icmp_eq (tgt := 110) F.1 F.2.1 dX3_ring_99 (by decide) (fun c20 => ?_) (fun c20 => ?_)
          · replace h := zi_t c20 h
            exact bX3_ring_110 hst F hA E  x0 x1 hx0 hr (lv_sub hl [0, 1] rfl) h
          · replace h := zi_f c20 h
            refine lv_aload_n F.1 F.2.1 dX3_ring_102 rfl (lv_at hl 0 rfl) ?_
            refine gf3_32 F hx0 hr dX3_ring_103 ?_
            refine lv_iconst (v := (3 : Int32)) F.1 F.2.1 dX3_ring_106 (by decide) ?_
            refine lv_icmp_ne (tgt := 118) F.1 F.2.1 dX3_ring_107 (by decide) (fun c21 => ?_) (fun c21 => ?_)
            · replace h := zi_t c21 h
              refine lv_aload_n F.1 F.2.1 dX3_ring_118 rfl (lv_at hl 0 rfl) ?_
              refine lv_iconst (v := (1 : Int32)) F.1 F.2.1 dX3_ring_119 (by decide) ?_
              refine pf3_65 F hx0 hr dX3_ring_120 (1 : Int32) (by decide) (fun H locs z22 ez22 hr => ?_)
              replace h := zl_sub ez22 h
              clear ez22
              exact bX3_ring_123 hst F hA E  x0 x1 hx0 hr (lv_sub hl [0, 1] rfl) h
            · replace h := zi_f (fun q => q c21) h
              exact bX3_ring_110 hst F hA E  x0 x1 hx0 hr (lv_sub hl [0, 1] rfl) h
        · replace h := zi_f (fun q => q c19) h
          refine lv_aload_n F.1 F.2.1 dX3_ring_86 rfl (lv_at hl 0 rfl) ?_
          refine lv_iconst (v := (1 : Int32)) F.1 F.2.1 dX3_ring_87 (by decide) ?_
          refine pf3_68 F hx0 hr dX3_ring_88 (1 : Int32) (by decide) (fun H locs z23 ez23 hr => ?_)
          replace h := zl_sub ez23 h
          clear ez23
          refine lv_goto (tgt := 123) F.1 F.2.1 dX3_ring_91 (by decide) ?_
          exact bX3_ring_123 hst F hA E  x0 x1 hx0 hr (lv_sub hl [0, 1] rfl) h
      · replace h := zi_f c12 h
        refine lv_aload_n F.1 F.2.1 dX3_ring_69 rfl (lv_at hl 0 rfl) ?_
        refine lv_bipush (v := (11 : Int32)) F.1 F.2.1 dX3_ring_70 (by decide) ?_
        replace h := zc_some h
        obtain ⟨r24, z25, hc26, h⟩ := h
        refine zr_callv (zrun_V (As := [.int (11 : Int32)]) (rest := []) zq_1338 zq_1151 zs_X3_finish zq_1152 zq_13 hdX3_finish (by decide) (T := TX3) (N := 19) rfl (okX3_finish l D cy B ids hst N x0 hx0 (11 : Int32)  hr.2.2 hc26) F hr hx0 hl.1 rfl (by decide) dX3_ring_72 rfl rfl hroX3_ring_X3_finish ⟨Nat.zero_le _, Nat.zero_le _⟩) F hA hr (fun H locs hw27 hr => ?_)
        clear hc26
        obtain ⟨rfl, rfl⟩ := zret h
        exact E _ _ _ _ dX3_ring_75 trivial hr
    · replace h := zi_f c6 h
      obtain ⟨rfl, rfl⟩ := zret h
      exact E _ _ _ _ dX3_ring_43 trivial hr
def fX3_ring (N : Nat)  (x0 : Nat) (x1 : Int32) (z : St) : Option (Int32 × St) := if ¬ (zgI z 3 0 x0) = (10 : Int32) then (fX3_ring_22 N x0 x1 z) else (if x1 < (zgI z 3 4 x0) then (fX3_ring_22 N x0 x1 z) else (zc (fX3_finish N x0 (0 : Int32) z) fun _ z4 => fX3_ring_22 N x0 x1 z4))
set_option maxHeartbeats 4000000 in
set_option maxRecDepth 100000 in
theorem bX3_ring_0 (hst : zSt B ids) (F : zFx p m c cX3_ring 2 s args RX3 D cy B ids A) (hA : ∀ q : Nat, s.heap.size ≤ q → A q) {r : Int32} {z' : St} (E : zEnd p l e rmX3_ring s m args below meth c cX3_ring D cy B ids A Q none z' .return_ True) {N : Nat}  (x0 : Nat) (x1 : Int32) (hx0 : (3, x0) ∈ ids) {z : St} {H : Heap} {locs : List Loc} {ls : Array Slot} (hr : zRep D cy B ids A s.heap z H locs) (hl : lv_has ls 2 [(0, .ref (B 3 x0)), (1, .int x1)]) (h : fX3_ring N x0 x1 z = some (r, z')) : W p l e rmX3_ring s m args below meth c H locs 0 0 Q (F0 m 0 ls []) := by
  unfold fX3_ring at h
  refine lv_aload_n F.1 F.2.1 dX3_ring_0 rfl (lv_at hl 0 rfl) ?_
  refine gf3_32 F hx0 hr dX3_ring_1 ?_
  refine lv_bipush (v := (10 : Int32)) F.1 F.2.1 dX3_ring_4 (by decide) ?_
  refine lv_icmp_ne (tgt := 22) F.1 F.2.1 dX3_ring_6 (by decide) (fun c1 => ?_) (fun c1 => ?_)
  · replace h := zi_t c1 h
    exact bX3_ring_22 hst F hA E  x0 x1 hx0 hr (lv_sub hl [0, 1] rfl) h
  · replace h := zi_f (fun q => q c1) h
    refine lv_iload_n F.1 F.2.1 dX3_ring_9 rfl (lv_at hl 1 rfl) ?_
    refine lv_aload_n F.1 F.2.1 dX3_ring_10 rfl (lv_at hl 0 rfl) ?_
    refine gf3_56 F hx0 hr dX3_ring_11 ?_
    refine lv_icmp_lt (tgt := 22) F.1 F.2.1 dX3_ring_14 (by decide) (fun c2 => ?_) (fun c2 => ?_)
    · replace h := zi_t c2 h
      exact bX3_ring_22 hst F hA E  x0 x1 hx0 hr (lv_sub hl [0, 1] rfl) h
    · replace h := zi_f c2 h
      refine lv_aload_n F.1 F.2.1 dX3_ring_17 rfl (lv_at hl 0 rfl) ?_
      refine lv_iconst (v := (0 : Int32)) F.1 F.2.1 dX3_ring_18 (by decide) ?_
      replace h := zc_some h
      obtain ⟨r3, z4, hc5, h⟩ := h
      refine zr_callv (zrun_V (As := [.int (0 : Int32)]) (rest := []) zq_1338 zq_1151 zs_X3_finish zq_1152 zq_13 hdX3_finish (by decide) (T := TX3) (N := 19) rfl (okX3_finish l D cy B ids hst N x0 hx0 (0 : Int32)  hr.2.2 hc5) F hr hx0 hl.1 rfl (by decide) dX3_ring_19 rfl rfl hroX3_ring_X3_finish ⟨Nat.zero_le _, Nat.zero_le _⟩) F hA hr (fun H locs hw6 hr => ?_)
      clear hc5
      exact bX3_ring_22 hst F hA E  x0 x1 hx0 hr (lv_sub hl [0, 1] rfl) h
end SX3_ring
set_option maxRecDepth 100000 in
theorem okX3_ring (l : Launch) (D : va_G) (cy : Nat → ClassId) (B : Nat → Nat → Nat) (ids : List (Nat × Nat)) (hst : zSt B ids) (N : Nat) (x0 : Nat) (hx0 : (3, x0) ∈ ids) (x1 : Int32) {z : St} {r : Int32} {z' : St} (hW : zWf ids z) (h : fX3_ring N x0 x1 z = some (r, z')) : zM l yX3_ring (zws yX3_ring cX3_ring 2 none) rmX3_ring D cy B ids [.ref (B 3 x0), .int x1] none True z z' :=
  zM_of hst hW (by decide +kernel) (Nat.le_of_ble_eq_true rfl) (fun p e s m args below meth c A ls F hA hret hlocks hr hl => bX3_ring_0 hst F hA (zEnd_v F hret hlocks) x0 x1 hx0 hr hl h)
abbrev rmX6_hasNew : Room := { frames := 0, cells := 0, slots := 0, locals := 0 }
theorem hdX6_hasNew : yX6_hasNew.cls ≠ "java/lang/invoke/MethodHandle" ∧ yX6_hasNew.cls ≠ "java/lang/invoke/VarHandle" ∧ (parseMethodDescriptor yX6_hasNew.desc).map (fun d => d.parameters.length) = some 0 := by decide +kernel
section SX6_hasNew
variable {p : Program} {l : Launch} {e : Env} {s : State} {m : MethodId} {args : Array Value} {below : List Frame} {meth : Method} {c : Code} {Q : State → Prop} {D : va_G} {cy : Nat → ClassId} {B : Nat → Nat → Nat} {ids : List (Nat × Nat)} {A : Nat → Prop}
def fX6_hasNew_25 (N : Nat)   (z : St) : Option (Int32 × St) := some ((1 : Int32), z)
set_option maxHeartbeats 4000000 in
set_option maxRecDepth 100000 in
theorem bX6_hasNew_25 (hst : zSt B ids) (F : zFx p m c cX6_hasNew 1 s args RX6 D cy B ids A) (hA : ∀ q : Nat, s.heap.size ≤ q → A q) {r : Int32} {z' : St} (E : zEnd p l e rmX6_hasNew s m args below meth c cX6_hasNew D cy B ids A Q (some (.int r)) z' .ireturn (r = 0 ∨ r = 1)) {N : Nat}    {z : St} {H : Heap} {locs : List Loc} {ls : Array Slot} (hr : zRep D cy B ids A s.heap z H locs) (hl : lv_has ls 1 []) (h : fX6_hasNew_25 N z = some (r, z')) : W p l e rmX6_hasNew s m args below meth c H locs 0 0 Q (F0 m 25 ls []) := by
  unfold fX6_hasNew_25 at h
  refine lv_iconst (v := (1 : Int32)) F.1 F.2.1 dX6_hasNew_25 (by decide) ?_
  refine lv_goto (tgt := 30) F.1 F.2.1 dX6_hasNew_26 (by decide) ?_
  obtain ⟨rfl, rfl⟩ := zret h
  exact E _ _ _ _ dX6_hasNew_30 (by decide) hr
def fX6_hasNew (N : Nat)  (x0 : Nat) (z : St) : Option (Int32 × St) := if (zgI z 6 3 x0) < (zgI z 6 2 x0) then (fX6_hasNew_25 N z) else (if (zgI z 6 8 x0) = 0 then (some ((0 : Int32), z)) else (if ¬ (zgI z 6 9 x0) = 0 then (some ((0 : Int32), z)) else (fX6_hasNew_25 N z)))
set_option maxHeartbeats 4000000 in
set_option maxRecDepth 100000 in
theorem bX6_hasNew_0 (hst : zSt B ids) (F : zFx p m c cX6_hasNew 1 s args RX6 D cy B ids A) (hA : ∀ q : Nat, s.heap.size ≤ q → A q) {r : Int32} {z' : St} (E : zEnd p l e rmX6_hasNew s m args below meth c cX6_hasNew D cy B ids A Q (some (.int r)) z' .ireturn (r = 0 ∨ r = 1)) {N : Nat}  (x0 : Nat) (hx0 : (6, x0) ∈ ids) {z : St} {H : Heap} {locs : List Loc} {ls : Array Slot} (hr : zRep D cy B ids A s.heap z H locs) (hl : lv_has ls 1 [(0, .ref (B 6 x0))]) (h : fX6_hasNew N x0 z = some (r, z')) : W p l e rmX6_hasNew s m args below meth c H locs 0 0 Q (F0 m 0 ls []) := by
  unfold fX6_hasNew at h
  refine lv_aload_n F.1 F.2.1 dX6_hasNew_0 rfl (lv_at hl 0 rfl) ?_
  refine gf6_22 F hx0 hr dX6_hasNew_1 ?_
  refine lv_aload_n F.1 F.2.1 dX6_hasNew_4 rfl (lv_at hl 0 rfl) ?_
  refine gf6_19 F hx0 hr dX6_hasNew_5 ?_
  refine lv_icmp_lt (tgt := 25) F.1 F.2.1 dX6_hasNew_8 (by decide) (fun c1 => ?_) (fun c1 => ?_)
  · replace h := zi_t c1 h
    exact bX6_hasNew_25 hst F hA E   hr (lv_sub hl [] rfl) h
  · replace h := zi_f c1 h
    refine lv_aload_n F.1 F.2.1 dX6_hasNew_11 rfl (lv_at hl 0 rfl) ?_
    refine gf6_38 F hx0 hr dX6_hasNew_12 ?_
    refine lv_if_eq (tgt := 29) F.1 F.2.1 dX6_hasNew_15 (by decide) (fun c2 => ?_) (fun c2 => ?_)
    · replace h := zi_t c2 h
      refine lv_iconst (v := (0 : Int32)) F.1 F.2.1 dX6_hasNew_29 (by decide) ?_
      obtain ⟨rfl, rfl⟩ := zret h
      exact E _ _ _ _ dX6_hasNew_30 (by decide) hr
    · replace h := zi_f c2 h
      refine lv_aload_n F.1 F.2.1 dX6_hasNew_18 rfl (lv_at hl 0 rfl) ?_
      refine gf6_41 F hx0 hr dX6_hasNew_19 ?_
      refine lv_if_ne (tgt := 29) F.1 F.2.1 dX6_hasNew_22 (by decide) (fun c3 => ?_) (fun c3 => ?_)
      · replace h := zi_t c3 h
        refine lv_iconst (v := (0 : Int32)) F.1 F.2.1 dX6_hasNew_29 (by decide) ?_
        obtain ⟨rfl, rfl⟩ := zret h
        exact E _ _ _ _ dX6_hasNew_30 (by decide) hr
      · replace h := zi_f (fun q => q c3) h
        exact bX6_hasNew_25 hst F hA E   hr (lv_sub hl [] rfl) h
end SX6_hasNew
set_option maxRecDepth 100000 in
theorem okX6_hasNew (l : Launch) (D : va_G) (cy : Nat → ClassId) (B : Nat → Nat → Nat) (ids : List (Nat × Nat)) (hst : zSt B ids) (N : Nat) (x0 : Nat) (hx0 : (6, x0) ∈ ids) {z : St} {r : Int32} {z' : St} (hW : zWf ids z) (h : fX6_hasNew N x0 z = some (r, z')) : zM l yX6_hasNew (zws yX6_hasNew cX6_hasNew 1 (some .boolean)) rmX6_hasNew D cy B ids [.ref (B 6 x0)] (some (.int r)) (r = 0 ∨ r = 1) z z' :=
  zM_of hst hW (by decide +kernel) (Nat.le_of_ble_eq_true rfl) (fun p e s m args below meth c A ls F hA hret hlocks hr hl => bX6_hasNew_0 hst F hA (zEnd_z F hret hlocks) x0 hx0 hr hl h)
abbrev rmX3_armProbe : Room := { frames := 1, cells := 0, slots := 0, locals := 20 }
theorem hdX3_armProbe : yX3_armProbe.cls ≠ "java/lang/invoke/MethodHandle" ∧ yX3_armProbe.cls ≠ "java/lang/invoke/VarHandle" ∧ (parseMethodDescriptor yX3_armProbe.desc).map (fun d => d.parameters.length) = some 1 := by decide +kernel
theorem hroX3_armProbe_X3_sendsNew : rmX3_sendsNew.frames + 1 ≤ rmX3_armProbe.frames ∧ 8 + (1 + 11) + rmX3_sendsNew.locals ≤ rmX3_armProbe.locals := by decide
theorem hroX3_armProbe_X6_hasNew : rmX6_hasNew.frames + 1 ≤ rmX3_armProbe.frames ∧ 8 + (1 + 11) + rmX6_hasNew.locals ≤ rmX3_armProbe.locals := by decide
theorem hroX3_armProbe_X6_hasUnthanked : rmX6_hasUnthanked.frames + 1 ≤ rmX3_armProbe.frames ∧ 8 + (1 + 11) + rmX6_hasUnthanked.locals ≤ rmX3_armProbe.locals := by decide
section SX3_armProbe
variable {p : Program} {l : Launch} {e : Env} {s : State} {m : MethodId} {args : Array Value} {below : List Frame} {meth : Method} {c : Code} {Q : State → Prop} {D : va_G} {cy : Nat → ClassId} {B : Nat → Nat → Nat} {ids : List (Nat × Nat)} {A : Nat → Prop}
def fX3_armProbe (N : Nat)  (x0 : Nat) (x1 : Int32) (z : St) : Option (Int32 × St) := zl (zgR z 3 18 x0) fun y1 => zd y1 fun a2 => if ¬ (zgI z 10 0 a2) = 0 then (some (0, z)) else (zc (fX3_sendsNew N x0 z) fun r4 z5 => if r4 = 0 then (some (0, z5)) else (zl (zgR z5 3 16 x0) fun y9 => zd y9 fun a10 => zc (fX6_hasUnthanked N a10 z5) fun r11 z12 => if r11 = 0 then (zl (zgR z12 3 16 x0) fun y16 => zd y16 fun a17 => if ¬ (zgI z12 6 11 a17) = 0 then (some (0, z12)) else (zl (zgR z12 3 16 x0) fun y19 => zd y19 fun a20 => zc (fX6_hasNew N a20 z12) fun r21 z22 => if r21 = 0 then (some (0, z22)) else (zl (zgR z22 3 18 x0) fun y26 => zl (zgR z22 3 18 x0) fun y27 => zd y27 fun a28 => zd y26 fun a29 => zl (zsI z22 10 0 a29 (x1 + (zgI z22 10 2 a28))) fun z30 => some (0, z30)))) else (some (0, z12))))
set_option maxHeartbeats 4000000 in
set_option maxRecDepth 100000 in
theorem bX3_armProbe_0 (hst : zSt B ids) (F : zFx p m c cX3_armProbe 2 s args RX3 D cy B ids A) (hA : ∀ q : Nat, s.heap.size ≤ q → A q) {r : Int32} {z' : St} (E : zEnd p l e rmX3_armProbe s m args below meth c cX3_armProbe D cy B ids A Q none z' .return_ True) {N : Nat}  (x0 : Nat) (x1 : Int32) (hx0 : (3, x0) ∈ ids) {z : St} {H : Heap} {locs : List Loc} {ls : Array Slot} (hr : zRep D cy B ids A s.heap z H locs) (hl : lv_has ls 2 [(0, .ref (B 3 x0)), (1, .int x1)]) (h : fX3_armProbe N x0 x1 z = some (r, z')) : W p l e rmX3_armProbe s m args below meth c H locs 0 0 Q (F0 m 0 ls []) := by
  unfold fX3_armProbe at h
  refine lv_aload_n F.1 F.2.1 dX3_armProbe_0 rfl (lv_at hl 0 rfl) ?_
  refine gf3_28 F hx0 hr dX3_armProbe_1 (fun y1 ey1 => ?_)
  replace h := zl_sub ey1 h
  have hy1 := zal_g hr hx0 (j := 18) rfl ey1
  clear ey1
  replace h := zd_some h
  obtain ⟨a2, rfl, h⟩ := h
  refine gf3_89 F (hy1 _ rfl) hr dX3_armProbe_4 ?_
  refine lv_if_ne (tgt := 27) F.1 F.2.1 dX3_armProbe_7 (by decide) (fun c3 => ?_) (fun c3 => ?_)
  · replace h := zi_t c3 h
    obtain ⟨rfl, rfl⟩ := zret h
    exact E _ _ _ _ dX3_armProbe_27 trivial hr
  · replace h := zi_f (fun q => q c3) h
    refine lv_aload_n F.1 F.2.1 dX3_armProbe_10 rfl (lv_at hl 0 rfl) ?_
    replace h := zc_some h
    obtain ⟨r4, z5, hc6, h⟩ := h
    refine zr_calli (zrun_V (As := []) (rest := []) zq_1623 zq_1625 zs_X3_sendsNew zq_1626 zq_13 hdX3_sendsNew (by decide) (T := TX3) (N := 19) rfl (okX3_sendsNew l D cy B ids hst N x0 hx0 hr.2.2 hc6) F hr hx0 hl.1 rfl (by decide) dX3_armProbe_11 rfl rfl hroX3_armProbe_X3_sendsNew ⟨Nat.zero_le _, Nat.zero_le _⟩) F hA hr (fun H locs hw7 hr => ?_)
    clear hc6
    refine lv_if_eq (tgt := 27) F.1 F.2.1 dX3_armProbe_14 (by decide) (fun c8 => ?_) (fun c8 => ?_)
    · replace h := zi_t c8 h
      obtain ⟨rfl, rfl⟩ := zret h
      exact E _ _ _ _ dX3_armProbe_27 trivial hr
    · replace h := zi_f c8 h
      refine lv_aload_n F.1 F.2.1 dX3_armProbe_17 rfl (lv_at hl 0 rfl) ?_
      refine gf3_12 F hx0 hr dX3_armProbe_18 (fun y9 ey9 => ?_)
      replace h := zl_sub ey9 h
      have hy9 := zal_g hr hx0 (j := 16) rfl ey9
      clear ey9
      replace h := zd_some h
      obtain ⟨a10, rfl, h⟩ := h
      replace h := zc_some h
      obtain ⟨r11, z12, hc13, h⟩ := h
      refine zr_calli (zrun_VN (As := []) (rest := []) zn_1361 zq_1363 zs_X6_hasUnthanked zq_1364 zq_14 hdX6_hasUnthanked (by decide) (T := TX6) (N := 14) rfl (okX6_hasUnthanked l D cy B ids hst N a10 (hy9 _ rfl) hr.2.2 hc13) F hr (hy9 _ rfl) hl.1 rfl (by decide) dX3_armProbe_21 rfl rfl hroX3_armProbe_X6_hasUnthanked ⟨Nat.zero_le _, Nat.zero_le _⟩) F hA hr (fun H locs hw14 hr => ?_)
      clear hc13
      refine lv_if_eq (tgt := 28) F.1 F.2.1 dX3_armProbe_24 (by decide) (fun c15 => ?_) (fun c15 => ?_)
      · replace h := zi_t c15 h
        refine lv_aload_n F.1 F.2.1 dX3_armProbe_28 rfl (lv_at hl 0 rfl) ?_
        refine gf3_12 F hx0 hr dX3_armProbe_29 (fun y16 ey16 => ?_)
        replace h := zl_sub ey16 h
        have hy16 := zal_g hr hx0 (j := 16) rfl ey16
        clear ey16
        replace h := zd_some h
        obtain ⟨a17, rfl, h⟩ := h
        refine gf3_139 F (hy16 _ rfl) hr dX3_armProbe_32 ?_
        refine lv_if_ne (tgt := 64) F.1 F.2.1 dX3_armProbe_35 (by decide) (fun c18 => ?_) (fun c18 => ?_)
        · replace h := zi_t c18 h
          obtain ⟨rfl, rfl⟩ := zret h
          exact E _ _ _ _ dX3_armProbe_64 trivial hr
        · replace h := zi_f (fun q => q c18) h
          refine lv_aload_n F.1 F.2.1 dX3_armProbe_38 rfl (lv_at hl 0 rfl) ?_
          refine gf3_12 F hx0 hr dX3_armProbe_39 (fun y19 ey19 => ?_)
          replace h := zl_sub ey19 h
          have hy19 := zal_g hr hx0 (j := 16) rfl ey19
          clear ey19
          replace h := zd_some h
          obtain ⟨a20, rfl, h⟩ := h
          replace h := zc_some h
          obtain ⟨r21, z22, hc23, h⟩ := h
          refine zr_calli (zrun_VN (As := []) (rest := []) zn_1640 zq_1642 zs_X6_hasNew zq_1643 zq_14 hdX6_hasNew (by decide) (T := TX6) (N := 14) rfl (okX6_hasNew l D cy B ids hst N a20 (hy19 _ rfl) hr.2.2 hc23) F hr (hy19 _ rfl) hl.1 rfl (by decide) dX3_armProbe_42 rfl rfl hroX3_armProbe_X6_hasNew ⟨Nat.zero_le _, Nat.zero_le _⟩) F hA hr (fun H locs hw24 hr => ?_)
          clear hc23
          refine lv_if_eq (tgt := 64) F.1 F.2.1 dX3_armProbe_45 (by decide) (fun c25 => ?_) (fun c25 => ?_)
          · replace h := zi_t c25 h
            obtain ⟨rfl, rfl⟩ := zret h
            exact E _ _ _ _ dX3_armProbe_64 trivial hr
          · replace h := zi_f c25 h
            refine lv_aload_n F.1 F.2.1 dX3_armProbe_48 rfl (lv_at hl 0 rfl) ?_
            refine gf3_28 F hx0 hr dX3_armProbe_49 (fun y26 ey26 => ?_)
            replace h := zl_sub ey26 h
            have hy26 := zal_g hr hx0 (j := 18) rfl ey26
            clear ey26
            refine lv_iload_n F.1 F.2.1 dX3_armProbe_52 rfl (lv_at hl 1 rfl) ?_
            refine lv_aload_n F.1 F.2.1 dX3_armProbe_53 rfl (lv_at hl 0 rfl) ?_
            refine gf3_28 F hx0 hr dX3_armProbe_54 (fun y27 ey27 => ?_)
            replace h := zl_sub ey27 h
            have hy27 := zal_g hr hx0 (j := 18) rfl ey27
            clear ey27
            replace h := zd_some h
            obtain ⟨a28, rfl, h⟩ := h
            refine gf3_133 F (hy27 _ rfl) hr dX3_armProbe_57 ?_
            refine lv_iadd F.1 F.2.1 dX3_armProbe_60 ?_
            replace h := zd_some h
            obtain ⟨a29, rfl, h⟩ := h
            refine pf3_89 F (hy26 _ rfl) hr dX3_armProbe_61 (x1 + (zgI z22 10 2 a28)) (fun H locs z30 ez30 hr => ?_)
            replace h := zl_sub ez30 h
            clear ez30
            obtain ⟨rfl, rfl⟩ := zret h
            exact E _ _ _ _ dX3_armProbe_64 trivial hr
      · replace h := zi_f c15 h
        obtain ⟨rfl, rfl⟩ := zret h
        exact E _ _ _ _ dX3_armProbe_27 trivial hr
end SX3_armProbe
set_option maxRecDepth 100000 in
theorem okX3_armProbe (l : Launch) (D : va_G) (cy : Nat → ClassId) (B : Nat → Nat → Nat) (ids : List (Nat × Nat)) (hst : zSt B ids) (N : Nat) (x0 : Nat) (hx0 : (3, x0) ∈ ids) (x1 : Int32) {z : St} {r : Int32} {z' : St} (hW : zWf ids z) (h : fX3_armProbe N x0 x1 z = some (r, z')) : zM l yX3_armProbe (zws yX3_armProbe cX3_armProbe 2 none) rmX3_armProbe D cy B ids [.ref (B 3 x0), .int x1] none True z z' :=
  zM_of hst hW (by decide +kernel) (Nat.le_of_ble_eq_true rfl) (fun p e s m args below meth c A ls F hA hret hlocks hr hl => bX3_armProbe_0 hst F hA (zEnd_v F hret hlocks) x0 x1 hx0 hr hl h)
abbrev rmX7_has : Room := { frames := 0, cells := 0, slots := 0, locals := 0 }
theorem hdX7_has : yX7_has.cls ≠ "java/lang/invoke/MethodHandle" ∧ yX7_has.cls ≠ "java/lang/invoke/VarHandle" ∧ (parseMethodDescriptor yX7_has.desc).map (fun d => d.parameters.length) = some 1 := by decide +kernel
section SX7_has
variable {p : Program} {l : Launch} {e : Env} {s : State} {m : MethodId} {args : Array Value} {below : List Frame} {meth : Method} {c : Code} {Q : State → Prop} {D : va_G} {cy : Nat → ClassId} {B : Nat → Nat → Nat} {ids : List (Nat × Nat)} {A : Nat → Prop}
def fX7_has (N : Nat)  (x0 : Nat) (x1 : Int32) (z : St) : Option (Int32 × St) := if ((zgI z 7 15 x0) &&& x1) = 0 then (some ((0 : Int32), z)) else (some ((1 : Int32), z))
set_option maxHeartbeats 4000000 in
set_option maxRecDepth 100000 in
theorem bX7_has_0 (hst : zSt B ids) (F : zFx p m c cX7_has 2 s args RX7 D cy B ids A) (hA : ∀ q : Nat, s.heap.size ≤ q → A q) {r : Int32} {z' : St} (E : zEnd p l e rmX7_has s m args below meth c cX7_has D cy B ids A Q (some (.int r)) z' .ireturn (r = 0 ∨ r = 1)) {N : Nat}  (x0 : Nat) (x1 : Int32) (hx0 : (7, x0) ∈ ids) {z : St} {H : Heap} {locs : List Loc} {ls : Array Slot} (hr : zRep D cy B ids A s.heap z H locs) (hl : lv_has ls 2 [(0, .ref (B 7 x0)), (1, .int x1)]) (h : fX7_has N x0 x1 z = some (r, z')) : W p l e rmX7_has s m args below meth c H locs 0 0 Q (F0 m 0 ls []) := by
  unfold fX7_has at h
  refine lv_aload_n F.1 F.2.1 dX7_has_0 rfl (lv_at hl 0 rfl) ?_
  refine gf7_75 F hx0 hr dX7_has_1 ?_
  refine lv_iload_n F.1 F.2.1 dX7_has_4 rfl (lv_at hl 1 rfl) ?_
  refine lv_iand F.1 F.2.1 dX7_has_5 ?_
  refine lv_if_eq (tgt := 13) F.1 F.2.1 dX7_has_6 (by decide) (fun c1 => ?_) (fun c1 => ?_)
  · replace h := zi_t c1 h
    refine lv_iconst (v := (0 : Int32)) F.1 F.2.1 dX7_has_13 (by decide) ?_
    obtain ⟨rfl, rfl⟩ := zret h
    exact E _ _ _ _ dX7_has_14 (by decide) hr
  · replace h := zi_f c1 h
    refine lv_iconst (v := (1 : Int32)) F.1 F.2.1 dX7_has_9 (by decide) ?_
    refine lv_goto (tgt := 14) F.1 F.2.1 dX7_has_10 (by decide) ?_
    obtain ⟨rfl, rfl⟩ := zret h
    exact E _ _ _ _ dX7_has_14 (by decide) hr
end SX7_has
set_option maxRecDepth 100000 in
theorem okX7_has (l : Launch) (D : va_G) (cy : Nat → ClassId) (B : Nat → Nat → Nat) (ids : List (Nat × Nat)) (hst : zSt B ids) (N : Nat) (x0 : Nat) (hx0 : (7, x0) ∈ ids) (x1 : Int32) {z : St} {r : Int32} {z' : St} (hW : zWf ids z) (h : fX7_has N x0 x1 z = some (r, z')) : zM l yX7_has (zws yX7_has cX7_has 2 (some .boolean)) rmX7_has D cy B ids [.ref (B 7 x0), .int x1] (some (.int r)) (r = 0 ∨ r = 1) z z' :=
  zM_of hst hW (by decide +kernel) (Nat.le_of_ble_eq_true rfl) (fun p e s m args below meth c A ls F hA hret hlocks hr hl => bX7_has_0 hst F hA (zEnd_z F hret hlocks) x0 x1 hx0 hr hl h)
