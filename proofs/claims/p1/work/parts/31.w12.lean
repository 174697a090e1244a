abbrev rmX11_changeWorld : Room := { frames := 1, cells := 0, slots := 0, locals := 20 }
theorem hdX11_changeWorld : yX11_changeWorld.cls ≠ "java/lang/invoke/MethodHandle" ∧ yX11_changeWorld.cls ≠ "java/lang/invoke/VarHandle" ∧ (parseMethodDescriptor yX11_changeWorld.desc).map (fun d => d.parameters.length) = some 0 := by decide +kernel
theorem hroX11_changeWorld_X11_stir : rmX11_stir.frames + 1 ≤ rmX11_changeWorld.frames ∧ 8 + (1 + 11) + rmX11_stir.locals ≤ rmX11_changeWorld.locals := by decide
section SX11_changeWorld
variable {p : Program} {l : Launch} {e : Env} {s : State} {m : MethodId} {args : Array Value} {below : List Frame} {meth : Method} {c : Code} {Q : State → Prop} {D : va_G} {cy : Nat → ClassId} {B : Nat → Nat → Nat} {ids : List (Nat × Nat)} {A : Nat → Prop}
def fX11_changeWorld (N : Nat)  (x0 : Nat) (z : St) : Option (Int32 × St) := zl (zsI z 11 6 x0 ((zgI z 11 6 x0) + (1 : Int32))) fun z1 => zc (fX11_stir N x0 z1) fun _ z3 => some (0, z3)
set_option maxHeartbeats 4000000 in
set_option maxRecDepth 100000 in
theorem bX11_changeWorld_0 (hst : zSt B ids) (F : zFx p m c cX11_changeWorld 1 s args RX11 D cy B ids A) (hA : ∀ q : Nat, s.heap.size ≤ q → A q) {r : Int32} {z' : St} (E : zEnd p l e rmX11_changeWorld s m args below meth c cX11_changeWorld D cy B ids A Q none z' .return_ True) {N : Nat}  (x0 : Nat) (hx0 : (11, x0) ∈ ids) {z : St} {H : Heap} {locs : List Loc} {ls : Array Slot} (hr : zRep D cy B ids A s.heap z H locs) (hl : lv_has ls 1 [(0, .ref (B 11 x0))]) (h : fX11_changeWorld N x0 z = some (r, z')) : W p l e rmX11_changeWorld s m args below meth c H locs 0 0 Q (F0 m 0 ls []) := by
  unfold fX11_changeWorld at h
  refine lv_aload_n F.1 F.2.1 dX11_changeWorld_0 rfl (lv_at hl 0 rfl) ?_
  refine lv_dup F.1 F.2.1 dX11_changeWorld_1 rfl ?_
  refine gf11_498 F hx0 hr dX11_changeWorld_2 ?_
  refine lv_iconst (v := (1 : Int32)) F.1 F.2.1 dX11_changeWorld_5 (by decide) ?_
  refine lv_iadd F.1 F.2.1 dX11_changeWorld_6 ?_
  refine pf11_498 F hx0 hr dX11_changeWorld_7 ((zgI z 11 6 x0) + (1 : Int32)) (fun H locs z1 ez1 hr => ?_)
  replace h := zl_sub ez1 h
  clear ez1
  refine lv_aload_n F.1 F.2.1 dX11_changeWorld_10 rfl (lv_at hl 0 rfl) ?_
  replace h := zc_some h
  obtain ⟨r2, z3, hc4, h⟩ := h
  refine zr_callv (zrun_V (As := []) (rest := []) zq_858 zq_860 zs_X11_stir zq_861 zq_1 hdX11_stir (by decide) (T := TX11) (N := 21) rfl (okX11_stir l D cy B ids hst N x0 hx0 hr.2.2 hc4) F hr hx0 hl.1 rfl (by decide) dX11_changeWorld_11 rfl rfl hroX11_changeWorld_X11_stir ⟨Nat.zero_le _, Nat.zero_le _⟩) F hA hr (fun H locs hw5 hr => ?_)
  clear hc4
  obtain ⟨rfl, rfl⟩ := zret h
  exact E _ _ _ _ dX11_changeWorld_14 trivial hr
end SX11_changeWorld
set_option maxRecDepth 100000 in
theorem okX11_changeWorld (l : Launch) (D : va_G) (cy : Nat → ClassId) (B : Nat → Nat → Nat) (ids : List (Nat × Nat)) (hst : zSt B ids) (N : Nat) (x0 : Nat) (hx0 : (11, x0) ∈ ids) {z : St} {r : Int32} {z' : St} (hW : zWf ids z) (h : fX11_changeWorld N x0 z = some (r, z')) : zM l yX11_changeWorld (zws yX11_changeWorld cX11_changeWorld 1 none) rmX11_changeWorld D cy B ids [.ref (B 11 x0)] none True z z' :=
  zM_of hst hW (by decide +kernel) (Nat.le_of_ble_eq_true rfl) (fun p e s m args below meth c A ls F hA hret hlocks hr hl => bX11_changeWorld_0 hst F hA (zEnd_v F hret hlocks) x0 hx0 hr hl h)
abbrev rmX11_giveBack : Room := { frames := 0, cells := 0, slots := 0, locals := 0 }
theorem hdX11_giveBack : yX11_giveBack.cls ≠ "java/lang/invoke/MethodHandle" ∧ yX11_giveBack.cls ≠ "java/lang/invoke/VarHandle" ∧ (parseMethodDescriptor yX11_giveBack.desc).map (fun d => d.parameters.length) = some 1 := by decide +kernel
section SX11_giveBack
variable {p : Program} {l : Launch} {e : Env} {s : State} {m : MethodId} {args : Array Value} {below : List Frame} {meth : Method} {c : Code} {Q : State → Prop} {D : va_G} {cy : Nat → ClassId} {B : Nat → Nat → Nat} {ids : List (Nat × Nat)} {A : Nat → Prop}
def fX11_giveBack (N : Nat)  (x0 : Nat) (x1 : Nat) (z : St) : Option (Int32 × St) := zl (zgR z 11 11 x0) fun y1 => zl (zsR z 7 14 x1 y1) fun z2 => zl (zsR z2 11 11 x0 (some x1)) fun z3 => some (0, z3)
set_option maxHeartbeats 4000000 in
set_option maxRecDepth 100000 in
theorem bX11_giveBack_0 (hst : zSt B ids) (F : zFx p m c cX11_giveBack 2 s args RX11 D cy B ids A) (hA : ∀ q : Nat, s.heap.size ≤ q → A q) {r : Int32} {z' : St} (E : zEnd p l e rmX11_giveBack s m args below meth c cX11_giveBack D cy B ids A Q none z' .return_ True) {N : Nat}  (x0 : Nat) (x1 : Nat) (hx0 : (11, x0) ∈ ids) (hx1 : (7, x1) ∈ ids) {z : St} {H : Heap} {locs : List Loc} {ls : Array Slot} (hr : zRep D cy B ids A s.heap z H locs) (hl : lv_has ls 2 [(0, .ref (B 11 x0)), (1, .ref (B 7 x1))]) (h : fX11_giveBack N x0 x1 z = some (r, z')) : W p l e rmX11_giveBack s m args below meth c H locs 0 0 Q (F0 m 0 ls []) := by
  unfold fX11_giveBack at h
  refine lv_aload_n F.1 F.2.1 dX11_giveBack_0 rfl (lv_at hl 1 rfl) ?_
  refine lv_aload_n F.1 F.2.1 dX11_giveBack_1 rfl (lv_at hl 0 rfl) ?_
  refine gf11_55 F hx0 hr dX11_giveBack_2 (fun y1 ey1 => ?_)
  replace h := zl_sub ey1 h
  have hy1 := zal_g hr hx0 (j := 11) rfl ey1
  clear ey1
  refine pf11_58 F hx1 hr dX11_giveBack_5 y1 hy1 (fun H locs z2 ez2 hr => ?_)
  replace h := zl_sub ez2 h
  clear ez2
  refine lv_aload_n F.1 F.2.1 dX11_giveBack_8 rfl (lv_at hl 0 rfl) ?_
  refine lv_aload_n F.1 F.2.1 dX11_giveBack_9 rfl (lv_at hl 1 rfl) ?_
  refine pf11_55 F hx0 hr dX11_giveBack_10 (some x1) (zal_s hx1) (fun H locs z3 ez3 hr => ?_)
  replace h := zl_sub ez3 h
  clear ez3
  obtain ⟨rfl, rfl⟩ := zret h
  exact E _ _ _ _ dX11_giveBack_13 trivial hr
end SX11_giveBack
set_option maxRecDepth 100000 in
theorem okX11_giveBack (l : Launch) (D : va_G) (cy : Nat → ClassId) (B : Nat → Nat → Nat) (ids : List (Nat × Nat)) (hst : zSt B ids) (N : Nat) (x0 : Nat) (hx0 : (11, x0) ∈ ids) (x1 : Nat) (hx1 : (7, x1) ∈ ids) {z : St} {r : Int32} {z' : St} (hW : zWf ids z) (h : fX11_giveBack N x0 x1 z = some (r, z')) : zM l yX11_giveBack (zws yX11_giveBack cX11_giveBack 2 none) rmX11_giveBack D cy B ids [.ref (B 11 x0), .ref (B 7 x1)] none True z z' :=
  zM_of hst hW (by decide +kernel) (Nat.le_of_ble_eq_true rfl) (fun p e s m args below meth c A ls F hA hret hlocks hr hl => bX11_giveBack_0 hst F hA (zEnd_v F hret hlocks) x0 x1 hx0 hx1 hr hl h)
abbrev rmX11_hangIn : Room := { frames := 0, cells := 0, slots := 0, locals := 0 }
theorem hdX11_hangIn : yX11_hangIn.cls ≠ "java/lang/invoke/MethodHandle" ∧ yX11_hangIn.cls ≠ "java/lang/invoke/VarHandle" ∧ (parseMethodDescriptor yX11_hangIn.desc).map (fun d => d.parameters.length) = some 2 := by decide +kernel
section SX11_hangIn
variable {p : Program} {l : Launch} {e : Env} {s : State} {m : MethodId} {args : Array Value} {below : List Frame} {meth : Method} {c : Code} {Q : State → Prop} {D : va_G} {cy : Nat → ClassId} {B : Nat → Nat → Nat} {ids : List (Nat × Nat)} {A : Nat → Prop}
def fX11_hangIn_31 (N : Nat)  (x0 : Nat) (x1 : Nat) (x2 : Int32) (z : St) : Option (Int32 × St) := zk x2 256 <| zl (zsQ z 142 x0 (Int32.toNatClampNeg x2) (some x1)) fun z2 => some (0, z2)
set_option maxHeartbeats 4000000 in
set_option maxRecDepth 100000 in
theorem bX11_hangIn_31 (hst : zSt B ids) (F : zFx p m c cX11_hangIn 4 s args RX11 D cy B ids A) (hA : ∀ q : Nat, s.heap.size ≤ q → A q) {r : Int32} {z' : St} (E : zEnd p l e rmX11_hangIn s m args below meth c cX11_hangIn D cy B ids A Q none z' .return_ True) {N : Nat}  (x0 : Nat) (x1 : Nat) (x2 : Int32) (hx0 : (11, x0) ∈ ids) (hx1 : (7, x1) ∈ ids) {z : St} {H : Heap} {locs : List Loc} {ls : Array Slot} (hr : zRep D cy B ids A s.heap z H locs) (hl : lv_has ls 4 [(0, .ref (B 11 x0)), (1, .ref (B 7 x1)), (2, .int x2)]) (h : fX11_hangIn_31 N x0 x1 x2 z = some (r, z')) : W p l e rmX11_hangIn s m args below meth c H locs 0 0 Q (F0 m 31 ls []) := by
  unfold fX11_hangIn_31 at h
  refine lv_aload_n F.1 F.2.1 dX11_hangIn_31 rfl (lv_at hl 0 rfl) ?_
  refine gf11_27 F hx0 hr dX11_hangIn_32 ?_
  refine lv_iload_n F.1 F.2.1 dX11_hangIn_35 rfl (lv_at hl 2 rfl) ?_
  refine lv_aload_n F.1 F.2.1 dX11_hangIn_36 rfl (lv_at hl 1 rfl) ?_
  replace h := zk_some h
  obtain ⟨c1, h⟩ := h
  refine zr_aast (k := 142) (v := (some x1)) (T := TX7) (N := 20) (by decide) rfl (by decide) rfl rfl F (zal_a F hx0 (j := 10) rfl) hr dX11_hangIn_37 (by rw [zlen_d (by decide)]; exact c1) (zal_s hx1) (fun H locs z2 ez2 hr => ?_)
  replace h := zl_sub ez2 h
  clear ez2
  obtain ⟨rfl, rfl⟩ := zret h
  exact E _ _ _ _ dX11_hangIn_38 trivial hr
def fX11_hangIn (N : Nat)  (x0 : Nat) (x1 : Nat) (x2 : Int32) (z : St) : Option (Int32 × St) := zl (zsR z 7 14 x1 none) fun z1 => zk x2 256 <| zl (zgQ z1 142 x0 (Int32.toNatClampNeg x2)) fun y3 => zo y3 (zk x2 256 <| zl (zsQ z1 141 x0 (Int32.toNatClampNeg x2) (some x1)) fun z7 => fX11_hangIn_31 N x0 x1 x2 z7) fun a5 => zl (zsR z1 7 14 a5 (some x1)) fun z8 => fX11_hangIn_31 N x0 x1 x2 z8
set_option maxHeartbeats 4000000 in
set_option maxRecDepth 100000 in
theorem bX11_hangIn_0 (hst : zSt B ids) (F : zFx p m c cX11_hangIn 4 s args RX11 D cy B ids A) (hA : ∀ q : Nat, s.heap.size ≤ q → A q) {r : Int32} {z' : St} (E : zEnd p l e rmX11_hangIn s m args below meth c cX11_hangIn D cy B ids A Q none z' .return_ True) {N : Nat}  (x0 : Nat) (x1 : Nat) (x2 : Int32) (hx0 : (11, x0) ∈ ids) (hx1 : (7, x1) ∈ ids) {z : St} {H : Heap} {locs : List Loc} {ls : Array Slot} (hr : zRep D cy B ids A s.heap z H locs) (hl : lv_has ls 4 [(0, .ref (B 11 x0)), (1, .ref (B 7 x1)), (2, .int x2)]) (h : fX11_hangIn N x0 x1 x2 z = some (r, z')) : W p l e rmX11_hangIn s m args below meth c H locs 0 0 Q (F0 m 0 ls []) := by
  unfold fX11_hangIn at h
  refine lv_aload_n F.1 F.2.1 dX11_hangIn_0 rfl (lv_at hl 1 rfl) ?_
  refine lv_null F.1 F.2.1 dX11_hangIn_1 ?_
  refine pf11_58 F hx1 hr dX11_hangIn_2 none zal_0 (fun H locs z1 ez1 hr => ?_)
  replace h := zl_sub ez1 h
  clear ez1
  refine lv_aload_n F.1 F.2.1 dX11_hangIn_5 rfl (lv_at hl 0 rfl) ?_
  refine gf11_27 F hx0 hr dX11_hangIn_6 ?_
  refine lv_iload_n F.1 F.2.1 dX11_hangIn_9 rfl (lv_at hl 2 rfl) ?_
  replace h := zk_some h
  obtain ⟨c2, h⟩ := h
  refine zr_aaldv (k := 142) (by decide) rfl rfl (zlen_d (by decide)) F (zal_a F hx0 (j := 10) rfl) hr dX11_hangIn_10 c2 (fun y3 ey3 => ?_)
  replace h := zl_sub ey3 h
  have hy3 := zal_q hr (zal_a F hx0 (j := 10) rfl) rfl ey3
  clear ey3
  refine zr_astore_n (lv' := [(3, va_rf (Option.map (B 7) y3)), (0, .ref (B 11 x0)), (1, .ref (B 7 x1)), (2, .int x2)]) F.1 F.2.1 dX11_hangIn_11 rfl hl (by decide) rfl (fun ls hl => ?_)
  refine zr_aload_n F.1 F.2.1 dX11_hangIn_12 rfl (lv_at hl 0 rfl) ?_
  refine zr_ifnonnull (tgt := 26) F.1 F.2.1 dX11_hangIn_13 (by decide) (fun e4 => ?_) (fun a5 e4 => ?_)
  · replace h := zo_n e4 h
    subst e4
    refine lv_aload_n F.1 F.2.1 dX11_hangIn_16 rfl (lv_at hl 1 rfl) ?_
    refine gf11_23 F hx0 hr dX11_hangIn_17 ?_
    refine lv_iload_n F.1 F.2.1 dX11_hangIn_20 rfl (lv_at hl 3 rfl) ?_
    refine lv_aload_n F.1 F.2.1 dX11_hangIn_21 rfl (lv_at hl 2 rfl) ?_
    replace h := zk_some h
    obtain ⟨c6, h⟩ := h
    refine zr_aast (k := 141) (v := (some x1)) (T := TX7) (N := 20) (by decide) rfl (by decide) rfl rfl F (zal_a F hx0 (j := 9) rfl) hr dX11_hangIn_22 (by rw [zlen_d (by decide)]; exact c6) (zal_s hx1) (fun H locs z7 ez7 hr => ?_)
    replace h := zl_sub ez7 h
    clear ez7
    refine lv_goto (tgt := 31) F.1 F.2.1 dX11_hangIn_23 (by decide) ?_
    exact bX11_hangIn_31 hst F hA E  x0 x1 x2 hx0 hx1 hr (lv_sub hl [1, 2, 3] rfl) h
  · replace h := zo_s e4 h
    subst e4
    refine lv_aload_n F.1 F.2.1 dX11_hangIn_26 rfl (lv_at hl 0 rfl) ?_
    refine lv_aload_n F.1 F.2.1 dX11_hangIn_27 rfl (lv_at hl 2 rfl) ?_
    refine pf11_58 F (hy3 _ rfl) hr dX11_hangIn_28 (some x1) (zal_s hx1) (fun H locs z8 ez8 hr => ?_)
    replace h := zl_sub ez8 h
    clear ez8
    exact bX11_hangIn_31 hst F hA E  x0 x1 x2 hx0 hx1 hr (lv_sub hl [1, 2, 3] rfl) h
end SX11_hangIn
set_option maxRecDepth 100000 in
theorem okX11_hangIn (l : Launch) (D : va_G) (cy : Nat → ClassId) (B : Nat → Nat → Nat) (ids : List (Nat × Nat)) (hst : zSt B ids) (N : Nat) (x0 : Nat) (hx0 : (11, x0) ∈ ids) (x1 : Nat) (hx1 : (7, x1) ∈ ids) (x2 : Int32) {z : St} {r : Int32} {z' : St} (hW : zWf ids z) (h : fX11_hangIn N x0 x1 x2 z = some (r, z')) : zM l yX11_hangIn (zws yX11_hangIn cX11_hangIn 4 none) rmX11_hangIn D cy B ids [.ref (B 11 x0), .ref (B 7 x1), .int x2] none True z z' :=
  zM_of hst hW (by decide +kernel) (Nat.le_of_ble_eq_true rfl) (fun p e s m args below meth c A ls F hA hret hlocks hr hl => bX11_hangIn_0 hst F hA (zEnd_v F hret hlocks) x0 x1 x2 hx0 hx1 hr hl h)
abbrev rmX11_loseAllOn : Room := { frames := 1, cells := 0, slots := 0, locals := 23 }
theorem hdX11_loseAllOn : yX11_loseAllOn.cls ≠ "java/lang/invoke/MethodHandle" ∧ yX11_loseAllOn.cls ≠ "java/lang/invoke/VarHandle" ∧ (parseMethodDescriptor yX11_loseAllOn.desc).map (fun d => d.parameters.length) = some 1 := by decide +kernel
theorem hroX11_loseAllOn_X11_giveBack : rmX11_giveBack.frames + 1 ≤ rmX11_loseAllOn.frames ∧ 8 + (2 + 11) + rmX11_giveBack.locals ≤ rmX11_loseAllOn.locals := by decide
theorem hroX11_loseAllOn_X11_hangIn : rmX11_hangIn.frames + 1 ≤ rmX11_loseAllOn.frames ∧ 8 + (4 + 11) + rmX11_hangIn.locals ≤ rmX11_loseAllOn.locals := by decide
section SX11_loseAllOn
variable {p : Program} {l : Launch} {e : Env} {s : State} {m : MethodId} {args : Array Value} {below : List Frame} {meth : Method} {c : Code} {Q : State → Prop} {D : va_G} {cy : Nat → ClassId} {B : Nat → Nat → Nat} {ids : List (Nat × Nat)} {A : Nat → Prop}
def fX11_loseAllOn_83 (N : Nat) (K2 : Nat → Int32 → Int32 → St → Option (Int32 × St)) (K33 : Nat → Int32 → Int32 → Option Nat → Int32 → St → Option (Int32 × St)) (x0 : Nat) (x1 : Int32) (x2 : Int32) (x4 : Int32) (x5 : Option Nat) (z : St) : Option (Int32 × St) := zl (x4 + 1) fun v1 => K33 x0 x1 x2 x5 v1 z
set_option maxHeartbeats 4000000 in
set_option maxRecDepth 100000 in
theorem bX11_loseAllOn_83 (hst : zSt B ids) (F : zFx p m c cX11_loseAllOn 6 s args RX11 D cy B ids A) (hA : ∀ q : Nat, s.heap.size ≤ q → A q) {r : Int32} {z' : St} (E : zEnd p l e rmX11_loseAllOn s m args below meth c cX11_loseAllOn D cy B ids A Q none z' .return_ True) {N : Nat} {K2 : Nat → Int32 → Int32 → St → Option (Int32 × St)} {K33 : Nat → Int32 → Int32 → Option Nat → Int32 → St → Option (Int32 × St)} (hK2 : ∀ (x0 : Nat) (x1 : Int32) (x2 : Int32) (hx0 : (11, x0) ∈ ids) {z : St} {H : Heap} {locs : List Loc} {ls : Array Slot} (hr : zRep D cy B ids A s.heap z H locs) (hl : lv_has ls 6 [(0, .ref (B 11 x0)), (1, .int x1), (2, .int x2)]), K2 x0 x1 x2 z = some (r, z') → W p l e rmX11_loseAllOn s m args below meth c H locs 0 0 Q (F0 m 2 ls [])) (hK33 : ∀ (x0 : Nat) (x1 : Int32) (x2 : Int32) (x3 : Option Nat) (x4 : Int32) (hx0 : (11, x0) ∈ ids) (hx3 : ∀ t, x3 = some t → (7, t) ∈ ids) {z : St} {H : Heap} {locs : List Loc} {ls : Array Slot} (hr : zRep D cy B ids A s.heap z H locs) (hl : lv_has ls 6 [(0, .ref (B 11 x0)), (1, .int x1), (2, .int x2), (3, va_rf (Option.map (B 7) x3)), (4, .int x4)]), K33 x0 x1 x2 x3 x4 z = some (r, z') → W p l e rmX11_loseAllOn s m args below meth c H locs 0 0 Q (F0 m 33 ls [])) (x0 : Nat) (x1 : Int32) (x2 : Int32) (x4 : Int32) (x5 : Option Nat) (hx0 : (11, x0) ∈ ids) (hx5 : ∀ t, x5 = some t → (7, t) ∈ ids) {z : St} {H : Heap} {locs : List Loc} {ls : Array Slot} (hr : zRep D cy B ids A s.heap z H locs) (hl : lv_has ls 6 [(0, .ref (B 11 x0)), (1, .int x1), (2, .int x2), (4, .int x4), (5, va_rf (Option.map (B 7) x5))]) (h : fX11_loseAllOn_83 N K2 K33 x0 x1 x2 x4 x5 z = some (r, z')) : W p l e rmX11_loseAllOn s m args below meth c H locs 0 0 Q (F0 m 83 ls []) := by
  unfold fX11_loseAllOn_83 at h
  refine zr_aload F.1 F.2.1 dX11_loseAllOn_83 (lv_at hl 4 rfl) ?_
  refine zr_astore_n (lv' := [(3, va_rf (Option.map (B 7) x5)), (0, .ref (B 11 x0)), (1, .int x1), (2, .int x2), (4, .int x4), (5, va_rf (Option.map (B 7) x5))]) F.1 F.2.1 dX11_loseAllOn_85 rfl hl (by decide) rfl (fun ls hl => ?_)
  obtain ⟨v1, ev1⟩ : ∃ y : Int32, y = (x4 + 1) := ⟨_, rfl⟩
  replace h := zl_sub ev1 h
  refine lv_iinc (v := v1) (lv' := [(4, .int v1), (3, va_rf (Option.map (B 7) x5)), (0, .ref (B 11 x0)), (1, .int x1), (2, .int x2), (5, va_rf (Option.map (B 7) x5))]) F.1 F.2.1 dX11_loseAllOn_86 hl (k := 4) rfl (by rw [ev1]; rfl) (by decide) (by simp only [List.filter, zrf_cat]; rfl) (fun ls hl => ?_)
  refine lv_goto (tgt := 33) F.1 F.2.1 dX11_loseAllOn_89 (by decide) ?_
  exact hK33 x0 x1 x2 x5 v1 hx0 hx5 hr (lv_sub hl [2, 3, 4, 1, 0] rfl) h
def fX11_loseAllOn_92 (N : Nat) (K2 : Nat → Int32 → Int32 → St → Option (Int32 × St)) (x0 : Nat) (x1 : Int32) (x2 : Int32) (z : St) : Option (Int32 × St) := zl (x2 + 1) fun v1 => K2 x0 x1 v1 z
set_option maxHeartbeats 4000000 in
set_option maxRecDepth 100000 in
theorem bX11_loseAllOn_92 (hst : zSt B ids) (F : zFx p m c cX11_loseAllOn 6 s args RX11 D cy B ids A) (hA : ∀ q : Nat, s.heap.size ≤ q → A q) {r : Int32} {z' : St} (E : zEnd p l e rmX11_loseAllOn s m args below meth c cX11_loseAllOn D cy B ids A Q none z' .return_ True) {N : Nat} {K2 : Nat → Int32 → Int32 → St → Option (Int32 × St)} (hK2 : ∀ (x0 : Nat) (x1 : Int32) (x2 : Int32) (hx0 : (11, x0) ∈ ids) {z : St} {H : Heap} {locs : List Loc} {ls : Array Slot} (hr : zRep D cy B ids A s.heap z H locs) (hl : lv_has ls 6 [(0, .ref (B 11 x0)), (1, .int x1), (2, .int x2)]), K2 x0 x1 x2 z = some (r, z') → W p l e rmX11_loseAllOn s m args below meth c H locs 0 0 Q (F0 m 2 ls [])) (x0 : Nat) (x1 : Int32) (x2 : Int32) (hx0 : (11, x0) ∈ ids) {z : St} {H : Heap} {locs : List Loc} {ls : Array Slot} (hr : zRep D cy B ids A s.heap z H locs) (hl : lv_has ls 6 [(0, .ref (B 11 x0)), (1, .int x1), (2, .int x2)]) (h : fX11_loseAllOn_92 N K2 x0 x1 x2 z = some (r, z')) : W p l e rmX11_loseAllOn s m args below meth c H locs 0 0 Q (F0 m 92 ls []) := by
  unfold fX11_loseAllOn_92 at h
  obtain ⟨v1, ev1⟩ : ∃ y : Int32, y = (x2 + 1) := ⟨_, rfl⟩
  replace h := zl_sub ev1 h
  refine lv_iinc (v := v1) (lv' := [(2, .int v1), (0, .ref (B 11 x0)), (1, .int x1)]) F.1 F.2.1 dX11_loseAllOn_92 hl (k := 2) rfl (by rw [ev1]; rfl) (by decide) rfl (fun ls hl => ?_)
  refine lv_goto (tgt := 2) F.1 F.2.1 dX11_loseAllOn_95 (by decide) ?_
  exact hK2 x0 x1 v1 hx0 hr (lv_sub hl [1, 2, 0] rfl) h
def fX11_loseAllOn_33b (N : Nat) (K2 : Nat → Int32 → Int32 → St → Option (Int32 × St)) (K33 : Nat → Int32 → Int32 → Option Nat → Int32 → St → Option (Int32 × St)) (x0 : Nat) (x1 : Int32) (x2 : Int32) (x3 : Option Nat) (x4 : Int32) (z : St) : Option (Int32 × St) := if (512 : Int32) ≤ x4 then (fX11_loseAllOn_92 N K2 x0 x1 x2 z) else (zo x3 (fX11_loseAllOn_92 N K2 x0 x1 x2 z) fun a3 => zl (zgR z 7 14 a3) fun y4 => if ¬ (zgI z 7 12 a3) = x1 then (zc (fX11_hangIn N x0 a3 x2 z) fun _ z7 => fX11_loseAllOn_83 N K2 K33 x0 x1 x2 x4 y4 z7) else (zl (zsI z 11 12 x0 ((zgI z 11 12 x0) - (1 : Int32))) fun z10 => zc (fX11_giveBack N x0 a3 z10) fun _ z12 => fX11_loseAllOn_83 N K2 K33 x0 x1 x2 x4 y4 z12))
def fX11_loseAllOn_33 (N : Nat) (K2 : Nat → Int32 → Int32 → St → Option (Int32 × St)) : Nat → Nat → Int32 → Int32 → Option Nat → Int32 → St → Option (Int32 × St)
  | 0 => fun _ _ _ _ _ _ => none
  | n + 1 => fX11_loseAllOn_33b N K2 (fX11_loseAllOn_33 N K2 n)
set_option maxHeartbeats 4000000 in
set_option maxRecDepth 100000 in
theorem bX11_loseAllOn_33 (hst : zSt B ids) (F : zFx p m c cX11_loseAllOn 6 s args RX11 D cy B ids A) (hA : ∀ q : Nat, s.heap.size ≤ q → A q) {r : Int32} {z' : St} (E : zEnd p l e rmX11_loseAllOn s m args below meth c cX11_loseAllOn D cy B ids A Q none z' .return_ True) {N : Nat} {K2 : Nat → Int32 → Int32 → St → Option (Int32 × St)} {K33 : Nat → Int32 → Int32 → Option Nat → Int32 → St → Option (Int32 × St)} (hK2 : ∀ (x0 : Nat) (x1 : Int32) (x2 : Int32) (hx0 : (11, x0) ∈ ids) {z : St} {H : Heap} {locs : List Loc} {ls : Array Slot} (hr : zRep D cy B ids A s.heap z H locs) (hl : lv_has ls 6 [(0, .ref (B 11 x0)), (1, .int x1), (2, .int x2)]), K2 x0 x1 x2 z = some (r, z') → W p l e rmX11_loseAllOn s m args below meth c H locs 0 0 Q (F0 m 2 ls [])) (hK33 : ∀ (x0 : Nat) (x1 : Int32) (x2 : Int32) (x3 : Option Nat) (x4 : Int32) (hx0 : (11, x0) ∈ ids) (hx3 : ∀ t, x3 = some t → (7, t) ∈ ids) {z : St} {H : Heap} {locs : List Loc} {ls : Array Slot} (hr : zRep D cy B ids A s.heap z H locs) (hl : lv_has ls 6 [(0, .ref (B 11 x0)), (1, .int x1), (2, .int x2), (3, va_rf (Option.map (B 7) x3)), (4, .int x4)]), K33 x0 x1 x2 x3 x4 z = some (r, z') → W p l e rmX11_loseAllOn s m args below meth c H locs 0 0 Q (F0 m 33 ls [])) (x0 : Nat) (x1 : Int32) (x2 : Int32) (x3 : Option Nat) (x4 : Int32) (hx0 : (11, x0) ∈ ids) (hx3 : ∀ t, x3 = some t → (7, t) ∈ ids) {z : St} {H : Heap} {locs : List Loc} {ls : Array Slot} (hr : zRep D cy B ids A s.heap z H locs) (hl : lv_has ls 6 [(0, .ref (B 11 x0)), (1, .int x1), (2, .int x2), (3, va_rf (Option.map (B 7) x3)), (4, .int x4)]) (h : fX11_loseAllOn_33b N K2 K33 x0 x1 x2 x3 x4 z = some (r, z')) : W p l e rmX11_loseAllOn s m args below meth c H locs 0 0 Q (F0 m 33 ls []) := by
  unfold fX11_loseAllOn_33b at h
  refine lv_iload F.1 F.2.1 dX11_loseAllOn_33 (lv_at hl 4 rfl) ?_
  refine lv_sipush (v := (512 : Int32)) F.1 F.2.1 dX11_loseAllOn_35 (by decide) ?_
  refine lv_icmp_ge (tgt := 92) F.1 F.2.1 dX11_loseAllOn_38 (by decide) (fun c1 => ?_) (fun c1 => ?_)
  · replace h := zi_t c1 h
    exact bX11_loseAllOn_92 hst F hA E hK2 x0 x1 x2 hx0 hr (lv_sub hl [0, 1, 2] rfl) h
  · replace h := zi_f c1 h
    refine zr_aload_n F.1 F.2.1 dX11_loseAllOn_41 rfl (lv_at hl 3 rfl) ?_
    refine zr_ifnull (tgt := 92) F.1 F.2.1 dX11_loseAllOn_42 (by decide) (fun e2 => ?_) (fun a3 e2 => ?_)
    · replace h := zo_n e2 h
      subst e2
      exact bX11_loseAllOn_92 hst F hA E hK2 x0 x1 x2 hx0 hr (lv_sub hl [0, 1, 2] rfl) h
    · replace h := zo_s e2 h
      subst e2
      refine lv_aload_n F.1 F.2.1 dX11_loseAllOn_45 rfl (lv_at hl 3 rfl) ?_
      refine gf11_58 F (hx3 _ rfl) hr dX11_loseAllOn_46 (fun y4 ey4 => ?_)
      replace h := zl_sub ey4 h
      have hy4 := zal_g hr (hx3 _ rfl) (j := 14) rfl ey4
      clear ey4
      refine zr_astore (lv' := [(5, va_rf (Option.map (B 7) y4)), (0, .ref (B 11 x0)), (1, .int x1), (2, .int x2), (3, .ref (B 7 a3)), (4, .int x4)]) F.1 F.2.1 dX11_loseAllOn_49 hl (by decide) rfl (fun ls hl => ?_)
      refine lv_aload_n F.1 F.2.1 dX11_loseAllOn_51 rfl (lv_at hl 4 rfl) ?_
      refine gf11_501 F (hx3 _ rfl) hr dX11_loseAllOn_52 ?_
      refine lv_iload_n F.1 F.2.1 dX11_loseAllOn_55 rfl (lv_at hl 2 rfl) ?_
      refine lv_icmp_ne (tgt := 77) F.1 F.2.1 dX11_loseAllOn_56 (by decide) (fun c5 => ?_) (fun c5 => ?_)
      · replace h := zi_t c5 h
        refine lv_aload_n F.1 F.2.1 dX11_loseAllOn_77 rfl (lv_at hl 1 rfl) ?_
        refine lv_aload_n F.1 F.2.1 dX11_loseAllOn_78 rfl (lv_at hl 4 rfl) ?_
        refine lv_iload_n F.1 F.2.1 dX11_loseAllOn_79 rfl (lv_at hl 3 rfl) ?_
        replace h := zc_some h
        obtain ⟨r6, z7, hc8, h⟩ := h
        refine zr_callv (zrun_V (As := [.ref (B 7 a3), .int x2]) (rest := []) zq_1008 zq_1010 zs_X11_hangIn zq_1011 zq_1 hdX11_hangIn (by decide) (T := TX11) (N := 21) rfl (okX11_hangIn l D cy B ids hst N x0 hx0 a3 (hx3 _ rfl) x2  hr.2.2 hc8) F hr hx0 hl.1 rfl (by decide) dX11_loseAllOn_80 rfl rfl hroX11_loseAllOn_X11_hangIn ⟨Nat.zero_le _, Nat.zero_le _⟩) F hA hr (fun H locs hw9 hr => ?_)
        clear hc8
        exact bX11_loseAllOn_83 hst F hA E hK2 hK33 x0 x1 x2 x4 y4 hx0 hy4 hr (lv_sub hl [1, 2, 3, 5, 0] rfl) h
      · replace h := zi_f (fun q => q c5) h
        refine lv_aload_n F.1 F.2.1 dX11_loseAllOn_59 rfl (lv_at hl 1 rfl) ?_
        refine lv_dup F.1 F.2.1 dX11_loseAllOn_60 rfl ?_
        refine gf11_442 F hx0 hr dX11_loseAllOn_61 ?_
        refine lv_iconst (v := (1 : Int32)) F.1 F.2.1 dX11_loseAllOn_64 (by decide) ?_
        refine lv_isub F.1 F.2.1 dX11_loseAllOn_65 ?_
        refine pf11_442 F hx0 hr dX11_loseAllOn_66 ((zgI z 11 12 x0) - (1 : Int32)) (fun H locs z10 ez10 hr => ?_)
        replace h := zl_sub ez10 h
        clear ez10
        refine lv_aload_n F.1 F.2.1 dX11_loseAllOn_69 rfl (lv_at hl 1 rfl) ?_
        refine lv_aload_n F.1 F.2.1 dX11_loseAllOn_70 rfl (lv_at hl 4 rfl) ?_
        replace h := zc_some h
        obtain ⟨r11, z12, hc13, h⟩ := h
        refine zr_callv (zrun_V (As := [.ref (B 7 a3)]) (rest := []) zq_1004 zq_1006 zs_X11_giveBack zq_1007 zq_1 hdX11_giveBack (by decide) (T := TX11) (N := 21) rfl (okX11_giveBack l D cy B ids hst N x0 hx0 a3 (hx3 _ rfl) hr.2.2 hc13) F hr hx0 hl.1 rfl (by decide) dX11_loseAllOn_71 rfl rfl hroX11_loseAllOn_X11_giveBack ⟨Nat.zero_le _, Nat.zero_le _⟩) F hA hr (fun H locs hw14 hr => ?_)
        clear hc13
        refine lv_goto (tgt := 83) F.1 F.2.1 dX11_loseAllOn_74 (by decide) ?_
        exact bX11_loseAllOn_83 hst F hA E hK2 hK33 x0 x1 x2 x4 y4 hx0 hy4 hr (lv_sub hl [1, 2, 3, 5, 0] rfl) h
theorem lX11_loseAllOn_33 (hst : zSt B ids) (F : zFx p m c cX11_loseAllOn 6 s args RX11 D cy B ids A) (hA : ∀ q : Nat, s.heap.size ≤ q → A q) {r : Int32} {z' : St} (E : zEnd p l e rmX11_loseAllOn s m args below meth c cX11_loseAllOn D cy B ids A Q none z' .return_ True) {N : Nat} {K2 : Nat → Int32 → Int32 → St → Option (Int32 × St)} (hK2 : ∀ (x0 : Nat) (x1 : Int32) (x2 : Int32) (hx0 : (11, x0) ∈ ids) {z : St} {H : Heap} {locs : List Loc} {ls : Array Slot} (hr : zRep D cy B ids A s.heap z H locs) (hl : lv_has ls 6 [(0, .ref (B 11 x0)), (1, .int x1), (2, .int x2)]), K2 x0 x1 x2 z = some (r, z') → W p l e rmX11_loseAllOn s m args below meth c H locs 0 0 Q (F0 m 2 ls [])) : ∀ (n : Nat) (x0 : Nat) (x1 : Int32) (x2 : Int32) (x3 : Option Nat) (x4 : Int32) (hx0 : (11, x0) ∈ ids) (hx3 : ∀ t, x3 = some t → (7, t) ∈ ids) {z : St} {H : Heap} {locs : List Loc} {ls : Array Slot} (hr : zRep D cy B ids A s.heap z H locs) (hl : lv_has ls 6 [(0, .ref (B 11 x0)), (1, .int x1), (2, .int x2), (3, va_rf (Option.map (B 7) x3)), (4, .int x4)]), fX11_loseAllOn_33 N K2 n x0 x1 x2 x3 x4 z = some (r, z') → W p l e rmX11_loseAllOn s m args below meth c H locs 0 0 Q (F0 m 33 ls []) := by
  intro n
  induction n with
  | zero => intro x0 x1 x2 x3 x4 hx0 hx3 z H locs ls hr hl h; cases h
  | succ n ih => intro x0 x1 x2 x3 x4 hx0 hx3 z H locs ls hr hl h; exact bX11_loseAllOn_33 hst F hA E hK2 ih x0 x1 x2 x3 x4 hx0 hx3 hr hl h
def fX11_loseAllOn_2b (N : Nat) (K2 : Nat → Int32 → Int32 → St → Option (Int32 × St)) (x0 : Nat) (x1 : Int32) (x2 : Int32) (z : St) : Option (Int32 × St) := if (256 : Int32) ≤ x2 then (some (0, z)) else (zk x2 256 <| zl (zgQ z 141 x0 (Int32.toNatClampNeg x2)) fun y3 => zk x2 256 <| zl (zsQ z 141 x0 (Int32.toNatClampNeg x2) none) fun z5 => zk x2 256 <| zl (zsQ z5 142 x0 (Int32.toNatClampNeg x2) none) fun z7 => fX11_loseAllOn_33 N K2 N x0 x1 x2 y3 (0 : Int32) z7)
def fX11_loseAllOn_2 (N : Nat)  : Nat → Nat → Int32 → Int32 → St → Option (Int32 × St)
  | 0 => fun _ _ _ _ => none
  | n + 1 => fX11_loseAllOn_2b N (fX11_loseAllOn_2 N  n)
set_option maxHeartbeats 4000000 in
set_option maxRecDepth 100000 in
theorem bX11_loseAllOn_2 (hst : zSt B ids) (F : zFx p m c cX11_loseAllOn 6 s args RX11 D cy B ids A) (hA : ∀ q : Nat, s.heap.size ≤ q → A q) {r : Int32} {z' : St} (E : zEnd p l e rmX11_loseAllOn s m args below meth c cX11_loseAllOn D cy B ids A Q none z' .return_ True) {N : Nat} {K2 : Nat → Int32 → Int32 → St → Option (Int32 × St)} (hK2 : ∀ (x0 : Nat) (x1 : Int32) (x2 : Int32) (hx0 : (11, x0) ∈ ids) {z : St} {H : Heap} {locs : List Loc} {ls : Array Slot} (hr : zRep D cy B ids A s.heap z H locs) (hl : lv_has ls 6 [(0, .ref (B 11 x0)), (1, .int x1), (2, .int x2)]), K2 x0 x1 x2 z = some (r, z') → W p l e rmX11_loseAllOn s m args below meth c H locs 0 0 Q (F0 m 2 ls [])) (x0 : Nat) (x1 : Int32) (x2 : Int32) (hx0 : (11, x0) ∈ ids) {z : St} {H : Heap} {locs : List Loc} {ls : Array Slot} (hr : zRep D cy B ids A s.heap z H locs) (hl : lv_has ls 6 [(0, .ref (B 11 x0)), (1, .int x1), (2, .int x2)]) (h : fX11_loseAllOn_2b N K2 x0 x1 x2 z = some (r, z')) : W p l e rmX11_loseAllOn s m args below meth c H locs 0 0 Q (F0 m 2 ls []) := by
  unfold fX11_loseAllOn_2b at h
  refine lv_iload_n F.1 F.2.1 dX11_loseAllOn_2 rfl (lv_at hl 2 rfl) ?_
  refine lv_sipush (v := (256 : Int32)) F.1 F.2.1 dX11_loseAllOn_3 (by decide) ?_
  refine lv_icmp_ge (tgt := 98) F.1 F.2.1 dX11_loseAllOn_6 (by decide) (fun c1 => ?_) (fun c1 => ?_)
  · replace h := zi_t c1 h
    obtain ⟨rfl, rfl⟩ := zret h
    exact E _ _ _ _ dX11_loseAllOn_98 trivial hr
  · replace h := zi_f c1 h
    refine lv_aload_n F.1 F.2.1 dX11_loseAllOn_9 rfl (lv_at hl 0 rfl) ?_
    refine gf11_23 F hx0 hr dX11_loseAllOn_10 ?_
    refine lv_iload_n F.1 F.2.1 dX11_loseAllOn_13 rfl (lv_at hl 2 rfl) ?_
    replace h := zk_some h
    obtain ⟨c2, h⟩ := h
    refine zr_aaldv (k := 141) (by decide) rfl rfl (zlen_d (by decide)) F (zal_a F hx0 (j := 9) rfl) hr dX11_loseAllOn_14 c2 (fun y3 ey3 => ?_)
    replace h := zl_sub ey3 h
    have hy3 := zal_q hr (zal_a F hx0 (j := 9) rfl) rfl ey3
    clear ey3
    refine zr_astore_n (lv' := [(3, va_rf (Option.map (B 7) y3)), (0, .ref (B 11 x0)), (1, .int x1), (2, .int x2)]) F.1 F.2.1 dX11_loseAllOn_15 rfl hl (by decide) rfl (fun ls hl => ?_)
    refine lv_aload_n F.1 F.2.1 dX11_loseAllOn_16 rfl (lv_at hl 1 rfl) ?_
    refine gf11_23 F hx0 hr dX11_loseAllOn_17 ?_
    refine lv_iload_n F.1 F.2.1 dX11_loseAllOn_20 rfl (lv_at hl 3 rfl) ?_
    refine lv_null F.1 F.2.1 dX11_loseAllOn_21 ?_
    replace h := zk_some h
    obtain ⟨c4, h⟩ := h
    refine zr_aast (k := 141) (v := none) (T := TX7) (N := 20) (by decide) rfl (by decide) rfl rfl F (zal_a F hx0 (j := 9) rfl) hr dX11_loseAllOn_22 (by rw [zlen_d (by decide)]; exact c4) zal_0 (fun H locs z5 ez5 hr => ?_)
    replace h := zl_sub ez5 h
    clear ez5
    refine lv_aload_n F.1 F.2.1 dX11_loseAllOn_23 rfl (lv_at hl 1 rfl) ?_
    refine gf11_27 F hx0 hr dX11_loseAllOn_24 ?_
    refine lv_iload_n F.1 F.2.1 dX11_loseAllOn_27 rfl (lv_at hl 3 rfl) ?_
    refine lv_null F.1 F.2.1 dX11_loseAllOn_28 ?_
    replace h := zk_some h
    obtain ⟨c6, h⟩ := h
    refine zr_aast (k := 142) (v := none) (T := TX7) (N := 20) (by decide) rfl (by decide) rfl rfl F (zal_a F hx0 (j := 10) rfl) hr dX11_loseAllOn_29 (by rw [zlen_d (by decide)]; exact c6) zal_0 (fun H locs z7 ez7 hr => ?_)
    replace h := zl_sub ez7 h
    clear ez7
    refine lv_iconst (v := (0 : Int32)) F.1 F.2.1 dX11_loseAllOn_30 (by decide) ?_
    refine lv_istore (lv' := [(4, .int (0 : Int32)), (3, va_rf (Option.map (B 7) y3)), (0, .ref (B 11 x0)), (1, .int x1), (2, .int x2)]) F.1 F.2.1 dX11_loseAllOn_31 hl (by decide) (by simp only [List.filter, zrf_cat]; rfl) (fun ls hl => ?_)
    exact lX11_loseAllOn_33 hst F hA E hK2 _ x0 x1 x2 y3 (0 : Int32) hx0 hy3 hr (lv_sub hl [2, 3, 4, 1, 0] rfl) h
theorem lX11_loseAllOn_2 (hst : zSt B ids) (F : zFx p m c cX11_loseAllOn 6 s args RX11 D cy B ids A) (hA : ∀ q : Nat, s.heap.size ≤ q → A q) {r : Int32} {z' : St} (E : zEnd p l e rmX11_loseAllOn s m args below meth c cX11_loseAllOn D cy B ids A Q none z' .return_ True) {N : Nat}  : ∀ (n : Nat) (x0 : Nat) (x1 : Int32) (x2 : Int32) (hx0 : (11, x0) ∈ ids) {z : St} {H : Heap} {locs : List Loc} {ls : Array Slot} (hr : zRep D cy B ids A s.heap z H locs) (hl : lv_has ls 6 [(0, .ref (B 11 x0)), (1, .int x1), (2, .int x2)]), fX11_loseAllOn_2 N  n x0 x1 x2 z = some (r, z') → W p l e rmX11_loseAllOn s m args below meth c H locs 0 0 Q (F0 m 2 ls []) := by
  intro n
  induction n with
  | zero => intro x0 x1 x2 hx0 z H locs ls hr hl h; cases h
  | succ n ih => intro x0 x1 x2 hx0 z H locs ls hr hl h; exact bX11_loseAllOn_2 hst F hA E ih x0 x1 x2 hx0 hr hl h
def fX11_loseAllOn (N : Nat)  (x0 : Nat) (x1 : Int32) (z : St) : Option (Int32 × St) := fX11_loseAllOn_2 N N x0 x1 (0 : Int32) z
set_option maxHeartbeats 4000000 in
set_option maxRecDepth 100000 in
theorem bX11_loseAllOn_0 (hst : zSt B ids) (F : zFx p m c cX11_loseAllOn 6 s args RX11 D cy B ids A) (hA : ∀ q : Nat, s.heap.size ≤ q → A q) {r : Int32} {z' : St} (E : zEnd p l e rmX11_loseAllOn s m args below meth c cX11_loseAllOn D cy B ids A Q none z' .return_ True) {N : Nat}  (x0 : Nat) (x1 : Int32) (hx0 : (11, x0) ∈ ids) {z : St} {H : Heap} {locs : List Loc} {ls : Array Slot} (hr : zRep D cy B ids A s.heap z H locs) (hl : lv_has ls 6 [(0, .ref (B 11 x0)), (1, .int x1)]) (h : fX11_loseAllOn N x0 x1 z = some (r, z')) : W p l e rmX11_loseAllOn s m args below meth c H locs 0 0 Q (F0 m 0 ls []) := by
  unfold fX11_loseAllOn at h
  refine lv_iconst (v := (0 : Int32)) F.1 F.2.1 dX11_loseAllOn_0 (by decide) ?_
  refine lv_istore_n (lv' := [(2, .int (0 : Int32)), (0, .ref (B 11 x0)), (1, .int x1)]) F.1 F.2.1 dX11_loseAllOn_1 rfl hl (by decide) rfl (fun ls hl => ?_)
  exact lX11_loseAllOn_2 hst F hA E  _ x0 x1 (0 : Int32) hx0 hr (lv_sub hl [1, 2, 0] rfl) h
end SX11_loseAllOn
set_option maxRecDepth 100000 in
theorem okX11_loseAllOn (l : Launch) (D : va_G) (cy : Nat → ClassId) (B : Nat → Nat → Nat) (ids : List (Nat × Nat)) (hst : zSt B ids) (N : Nat) (x0 : Nat) (hx0 : (11, x0) ∈ ids) (x1 : Int32) {z : St} {r : Int32} {z' : St} (hW : zWf ids z) (h : fX11_loseAllOn N x0 x1 z = some (r, z')) : zM l yX11_loseAllOn (zws yX11_loseAllOn cX11_loseAllOn 6 none) rmX11_loseAllOn D cy B ids [.ref (B 11 x0), .int x1] none True z z' :=
  zM_of hst hW (by decide +kernel) (Nat.le_of_ble_eq_true rfl) (fun p e s m args below meth c A ls F hA hret hlocks hr hl => bX11_loseAllOn_0 hst F hA (zEnd_v F hret hlocks) x0 x1 hx0 hr hl h)
abbrev rmX11_putFrame : Room := { frames := 2, cells := 0, slots := 0, locals := 83 }
theorem hdX11_putFrame : yX11_putFrame.cls ≠ "java/lang/invoke/MethodHandle" ∧ yX11_putFrame.cls ≠ "java/lang/invoke/VarHandle" ∧ (parseMethodDescriptor yX11_putFrame.desc).map (fun d => d.parameters.length) = some 5 := by decide +kernel
theorem hroX11_putFrame_X11_hangIn : rmX11_hangIn.frames + 1 ≤ rmX11_putFrame.frames ∧ 8 + (4 + 11) + rmX11_hangIn.locals ≤ rmX11_putFrame.locals := by decide
theorem hroX11_putFrame_X11_stir : rmX11_stir.frames + 1 ≤ rmX11_putFrame.frames ∧ 8 + (1 + 11) + rmX11_stir.locals ≤ rmX11_putFrame.locals := by decide
theorem hroX11_putFrame_X5_nextFate : rmX5_nextFate.frames + 1 ≤ rmX11_putFrame.frames ∧ 8 + (2 + 11) + rmX5_nextFate.locals ≤ rmX11_putFrame.locals := by decide
theorem hroX11_putFrame_X7_copyPart : rmX7_copyPart.frames + 1 ≤ rmX11_putFrame.frames ∧ 8 + (4 + 11) + rmX7_copyPart.locals ≤ rmX11_putFrame.locals := by decide
section SX11_putFrame
variable {p : Program} {l : Launch} {e : Env} {s : State} {m : MethodId} {args : Array Value} {below : List Frame} {meth : Method} {c : Code} {Q : State → Prop} {D : va_G} {cy : Nat → ClassId} {B : Nat → Nat → Nat} {ids : List (Nat × Nat)} {A : Nat → Prop}
def fX11_putFrame_106b (N : Nat) (K106 : Nat → Nat → Int32 → Nat → Int32 → Int32 → Nat → Int32 → Int32 → Int32 → St → Option (Int32 × St)) (x0 : Nat) (x1 : Nat) (x2 : Int32) (x3 : Nat) (x4 : Int32) (x5 : Int32) (x6 : Nat) (x8 : Int32) (x9 : Int32) (x10 : Int32) (z : St) : Option (Int32 × St) := if x8 ≤ x10 then (some (0, z)) else (zl (zgR z 11 11 x0) fun y2 => zo y2 (some (0, z)) fun a4 => zl (zgR z 11 11 x0) fun y5 => zd y5 fun a6 => zl (zgR z 7 14 a6) fun y7 => zl (zsR z 11 11 x0 y7) fun z8 => zc (fX7_copyPart N a6 x3 x4 x5 z8) fun _ z10 => zl (zsI z10 7 12 a6 (zgI z10 5 0 x6)) fun z13 => zl (zsI z13 7 13 a6 (zgI z13 8 3 x1)) fun z14 => zl (zsI z14 7 11 a6 x2) fun z15 => zc (fX11_hangIn N x0 a6 (((zgI z15 11 4 x0) + x9) &&& (255 : Int32)) z15) fun _ z17 => zl (zsI z17 11 12 x0 ((zgI z17 11 12 x0) + (1 : Int32))) fun z20 => zl ((3 : Int32) * (zgI z20 5 2 x6)) fun v21 => zl (x10 + 1) fun v22 => K106 x0 x1 x2 x3 x4 x5 x6 x8 v21 v22 z20)
def fX11_putFrame_106 (N : Nat)  : Nat → Nat → Nat → Int32 → Nat → Int32 → Int32 → Nat → Int32 → Int32 → Int32 → St → Option (Int32 × St)
  | 0 => fun _ _ _ _ _ _ _ _ _ _ _ => none
  | n + 1 => fX11_putFrame_106b N (fX11_putFrame_106 N  n)
set_option maxHeartbeats 4000000 in
set_option maxRecDepth 100000 in
theorem bX11_putFrame_106 (hst : zSt B ids) (F : zFx p m c cX11_putFrame 12 s args RX11 D cy B ids A) (hA : ∀ q : Nat, s.heap.size ≤ q → A q) {r : Int32} {z' : St} (E : zEnd p l e rmX11_putFrame s m args below meth c cX11_putFrame D cy B ids A Q none z' .return_ True) {N : Nat} {K106 : Nat → Nat → Int32 → Nat → Int32 → Int32 → Nat → Int32 → Int32 → Int32 → St → Option (Int32 × St)} (hK106 : ∀ (x0 : Nat) (x1 : Nat) (x2 : Int32) (x3 : Nat) (x4 : Int32) (x5 : Int32) (x6 : Nat) (x8 : Int32) (x9 : Int32) (x10 : Int32) (hx0 : (11, x0) ∈ ids) (hx1 : (8, x1) ∈ ids) (hx3 : (7, x3) ∈ ids) (hx6 : (5, x6) ∈ ids) {z : St} {H : Heap} {locs : List Loc} {ls : Array Slot} (hr : zRep D cy B ids A s.heap z H locs) (hl : lv_has ls 12 [(0, .ref (B 11 x0)), (1, .ref (B 8 x1)), (2, .int x2), (3, .ref (B 7 x3)), (4, .int x4), (5, .int x5), (6, .ref (B 5 x6)), (8, .int x8), (9, .int x9), (10, .int x10)]), K106 x0 x1 x2 x3 x4 x5 x6 x8 x9 x10 z = some (r, z') → W p l e rmX11_putFrame s m args below meth c H locs 0 0 Q (F0 m 106 ls [])) (x0 : Nat) (x1 : Nat) (x2 : Int32) (x3 : Nat) (x4 : Int32) (x5 : Int32) (x6 : Nat) (x8 : Int32) (x9 : Int32) (x10 : Int32) (hx0 : (11, x0) ∈ ids) (hx1 : (8, x1) ∈ ids) (hx3 : (7, x3) ∈ ids) (hx6 : (5, x6) ∈ ids) {z : St} {H : Heap} {locs : List Loc} {ls : Array Slot} (hr : zRep D cy B ids A s.heap z H locs) (hl : lv_has ls 12 [(0, .ref (B 11 x0)), (1, .ref (B 8 x1)), (2, .int x2), (3, .ref (B 7 x3)), (4, .int x4), (5, .int x5), (6, .ref (B 5 x6)), (8, .int x8), (9, .int x9), (10, .int x10)]) (h : fX11_putFrame_106b N K106 x0 x1 x2 x3 x4 x5 x6 x8 x9 x10 z = some (r, z')) : W p l e rmX11_putFrame s m args below meth c H locs 0 0 Q (F0 m 106 ls []) := by
  unfold fX11_putFrame_106b at h
  refine lv_iload F.1 F.2.1 dX11_putFrame_106 (lv_at hl 9 rfl) ?_
  refine lv_iload F.1 F.2.1 dX11_putFrame_108 (lv_at hl 7 rfl) ?_
  refine lv_icmp_ge (tgt := 212) F.1 F.2.1 dX11_putFrame_110 (by decide) (fun c1 => ?_) (fun c1 => ?_)
  · replace h := zi_t c1 h
    obtain ⟨rfl, rfl⟩ := zret h
    exact E _ _ _ _ dX11_putFrame_212 trivial hr
  · replace h := zi_f c1 h
    refine lv_aload_n F.1 F.2.1 dX11_putFrame_113 rfl (lv_at hl 0 rfl) ?_
    refine gf11_55 F hx0 hr dX11_putFrame_114 (fun y2 ey2 => ?_)
    replace h := zl_sub ey2 h
    have hy2 := zal_g hr hx0 (j := 11) rfl ey2
    clear ey2
    refine zr_ifnull (tgt := 212) F.1 F.2.1 dX11_putFrame_117 (by decide) (fun e3 => ?_) (fun a4 e3 => ?_)
    · replace h := zo_n e3 h
      subst e3
      obtain ⟨rfl, rfl⟩ := zret h
      exact E _ _ _ _ dX11_putFrame_212 trivial hr
    · replace h := zo_s e3 h
      subst e3
      refine lv_aload_n F.1 F.2.1 dX11_putFrame_120 rfl (lv_at hl 0 rfl) ?_
      refine gf11_55 F hx0 hr dX11_putFrame_121 (fun y5 ey5 => ?_)
      replace h := zl_sub ey5 h
      have hy5 := zal_g hr hx0 (j := 11) rfl ey5
      clear ey5
      refine zr_astore (lv' := [(11, va_rf (Option.map (B 7) y5)), (0, .ref (B 11 x0)), (1, .ref (B 8 x1)), (2, .int x2), (3, .ref (B 7 x3)), (4, .int x4), (5, .int x5), (6, .ref (B 5 x6)), (8, .int x8), (9, .int x9), (10, .int x10)]) F.1 F.2.1 dX11_putFrame_124 hl (by decide) rfl (fun ls hl => ?_)
      refine lv_aload_n F.1 F.2.1 dX11_putFrame_126 rfl (lv_at hl 1 rfl) ?_
      refine zr_aload F.1 F.2.1 dX11_putFrame_127 (lv_at hl 0 rfl) ?_
      replace h := zd_some h
      obtain ⟨a6, rfl, h⟩ := h
      refine gf11_58 F (hy5 _ rfl) hr dX11_putFrame_129 (fun y7 ey7 => ?_)
      replace h := zl_sub ey7 h
      have hy7 := zal_g hr (hy5 _ rfl) (j := 14) rfl ey7
      clear ey7
      refine pf11_55 F hx0 hr dX11_putFrame_132 y7 hy7 (fun H locs z8 ez8 hr => ?_)
      replace h := zl_sub ez8 h
      clear ez8
      refine lv_aload F.1 F.2.1 dX11_putFrame_135 (lv_at hl 0 rfl) ?_
      refine lv_aload_n F.1 F.2.1 dX11_putFrame_137 rfl (lv_at hl 4 rfl) ?_
      refine lv_iload F.1 F.2.1 dX11_putFrame_138 (lv_at hl 5 rfl) ?_
      refine lv_iload F.1 F.2.1 dX11_putFrame_140 (lv_at hl 6 rfl) ?_
      replace h := zc_some h
      obtain ⟨r9, z10, hc11, h⟩ := h
      refine zr_callv (zrun_VN (As := [.ref (B 7 x3), .int x4, .int x5]) (rest := []) zn_1071 zq_1073 zs_X7_copyPart zq_1074 zq_2 hdX7_copyPart (by decide) (T := TX7) (N := 20) rfl (okX7_copyPart l D cy B ids hst N a6 (hy5 _ rfl) x3 hx3 x4  x5  hr.2.2 hc11) F hr (hy5 _ rfl) hl.1 rfl (by decide) dX11_putFrame_142 rfl rfl hroX11_putFrame_X7_copyPart ⟨Nat.zero_le _, Nat.zero_le _⟩) F hA hr (fun H locs hw12 hr => ?_)
      clear hc11
      refine lv_aload F.1 F.2.1 dX11_putFrame_145 (lv_at hl 0 rfl) ?_
      refine lv_aload F.1 F.2.1 dX11_putFrame_147 (lv_at hl 7 rfl) ?_
      refine gf11_478 F hx6 hr dX11_putFrame_149 ?_
      refine pf11_501 F (hy5 _ rfl) hr dX11_putFrame_152 (zgI z10 5 0 x6) (fun H locs z13 ez13 hr => ?_)
      replace h := zl_sub ez13 h
      clear ez13
      refine lv_aload F.1 F.2.1 dX11_putFrame_155 (lv_at hl 0 rfl) ?_
      refine lv_aload_n F.1 F.2.1 dX11_putFrame_157 rfl (lv_at hl 2 rfl) ?_
      refine gf11_519 F hx1 hr dX11_putFrame_158 ?_
      refine pf11_522 F (hy5 _ rfl) hr dX11_putFrame_161 (zgI z13 8 3 x1) (fun H locs z14 ez14 hr => ?_)
      replace h := zl_sub ez14 h
      clear ez14
      refine lv_aload F.1 F.2.1 dX11_putFrame_164 (lv_at hl 0 rfl) ?_
      refine lv_iload_n F.1 F.2.1 dX11_putFrame_166 rfl (lv_at hl 3 rfl) ?_
      refine pf11_525 F (hy5 _ rfl) hr dX11_putFrame_167 x2 (fun H locs z15 ez15 hr => ?_)
      replace h := zl_sub ez15 h
      clear ez15
      refine lv_aload_n F.1 F.2.1 dX11_putFrame_170 rfl (lv_at hl 1 rfl) ?_
      refine lv_aload F.1 F.2.1 dX11_putFrame_171 (lv_at hl 0 rfl) ?_
      refine lv_aload_n F.1 F.2.1 dX11_putFrame_173 rfl (lv_at hl 1 rfl) ?_
      refine gf11_176 F hx0 hr dX11_putFrame_174 ?_
      refine lv_iload F.1 F.2.1 dX11_putFrame_177 (lv_at hl 9 rfl) ?_
      refine lv_iadd F.1 F.2.1 dX11_putFrame_179 ?_
      refine lv_sipush (v := (255 : Int32)) F.1 F.2.1 dX11_putFrame_180 (by decide) ?_
      refine lv_iand F.1 F.2.1 dX11_putFrame_183 ?_
      replace h := zc_some h
      obtain ⟨r16, z17, hc18, h⟩ := h
      refine zr_callv (zrun_V (As := [.ref (B 7 a6), .int (((zgI z15 11 4 x0) + x9) &&& (255 : Int32))]) (rest := []) zq_1008 zq_1010 zs_X11_hangIn zq_1011 zq_1 hdX11_hangIn (by decide) (T := TX11) (N := 21) rfl (okX11_hangIn l D cy B ids hst N x0 hx0 a6 (hy5 _ rfl) (((zgI z15 11 4 x0) + x9) &&& (255 : Int32))  hr.2.2 hc18) F hr hx0 hl.1 rfl (by decide) dX11_putFrame_184 rfl rfl hroX11_putFrame_X11_hangIn ⟨Nat.zero_le _, Nat.zero_le _⟩) F hA hr (fun H locs hw19 hr => ?_)
      clear hc18
      refine lv_aload_n F.1 F.2.1 dX11_putFrame_187 rfl (lv_at hl 1 rfl) ?_
      refine lv_dup F.1 F.2.1 dX11_putFrame_188 rfl ?_
      refine gf11_442 F hx0 hr dX11_putFrame_189 ?_
      refine lv_iconst (v := (1 : Int32)) F.1 F.2.1 dX11_putFrame_192 (by decide) ?_
      refine lv_iadd F.1 F.2.1 dX11_putFrame_193 ?_
      refine pf11_442 F hx0 hr dX11_putFrame_194 ((zgI z17 11 12 x0) + (1 : Int32)) (fun H locs z20 ez20 hr => ?_)
      replace h := zl_sub ez20 h
      clear ez20
      refine lv_iconst (v := (3 : Int32)) F.1 F.2.1 dX11_putFrame_197 (by decide) ?_
      refine lv_aload F.1 F.2.1 dX11_putFrame_198 (lv_at hl 7 rfl) ?_
      refine gf11_93 F hx6 hr dX11_putFrame_200 ?_
      refine lv_imul F.1 F.2.1 dX11_putFrame_203 ?_
      refine lv_topi (fun v21 ev21 => ?_)
      replace h := zl_sub ev21 h
      refine lv_istore (lv' := [(9, .int v21), (11, .ref (B 7 a6)), (0, .ref (B 11 x0)), (1, .ref (B 8 x1)), (2, .int x2), (3, .ref (B 7 x3)), (4, .int x4), (5, .int x5), (6, .ref (B 5 x6)), (8, .int x8), (10, .int x10)]) F.1 F.2.1 dX11_putFrame_204 hl (by decide) rfl (fun ls hl => ?_)
      obtain ⟨v22, ev22⟩ : ∃ y : Int32, y = (x10 + 1) := ⟨_, rfl⟩
      replace h := zl_sub ev22 h
      refine lv_iinc (v := v22) (lv' := [(10, .int v22), (9, .int v21), (11, .ref (B 7 a6)), (0, .ref (B 11 x0)), (1, .ref (B 8 x1)), (2, .int x2), (3, .ref (B 7 x3)), (4, .int x4), (5, .int x5), (6, .ref (B 5 x6)), (8, .int x8)]) F.1 F.2.1 dX11_putFrame_206 hl (k := 10) rfl (by rw [ev22]; rfl) (by decide) rfl (fun ls hl => ?_)
      refine lv_goto (tgt := 106) F.1 F.2.1 dX11_putFrame_209 (by decide) ?_
      exact hK106 x0 x1 x2 x3 x4 x5 x6 x8 v21 v22 hx0 hx1 hx3 hx6 hr (lv_sub hl [3, 4, 5, 6, 7, 8, 9, 10, 1, 0] rfl) h
theorem lX11_putFrame_106 (hst : zSt B ids) (F : zFx p m c cX11_putFrame 12 s args RX11 D cy B ids A) (hA : ∀ q : Nat, s.heap.size ≤ q → A q) {r : Int32} {z' : St} (E : zEnd p l e rmX11_putFrame s m args below meth c cX11_putFrame D cy B ids A Q none z' .return_ True) {N : Nat}  : ∀ (n : Nat) (x0 : Nat) (x1 : Nat) (x2 : Int32) (x3 : Nat) (x4 : Int32) (x5 : Int32) (x6 : Nat) (x8 : Int32) (x9 : Int32) (x10 : Int32) (hx0 : (11, x0) ∈ ids) (hx1 : (8, x1) ∈ ids) (hx3 : (7, x3) ∈ ids) (hx6 : (5, x6) ∈ ids) {z : St} {H : Heap} {locs : List Loc} {ls : Array Slot} (hr : zRep D cy B ids A s.heap z H locs) (hl : lv_has ls 12 [(0, .ref (B 11 x0)), (1, .ref (B 8 x1)), (2, .int x2), (3, .ref (B 7 x3)), (4, .int x4), (5, .int x5), (6, .ref (B 5 x6)), (8, .int x8), (9, .int x9), (10, .int x10)]), fX11_putFrame_106 N  n x0 x1 x2 x3 x4 x5 x6 x8 x9 x10 z = some (r, z') → W p l e rmX11_putFrame s m args below meth c H locs 0 0 Q (F0 m 106 ls []) := by
  intro n
  induction n with
  | zero => intro x0 x1 x2 x3 x4 x5 x6 x8 x9 x10 hx0 hx1 hx3 hx6 z H locs ls hr hl h; cases h
  | succ n ih => intro x0 x1 x2 x3 x4 x5 x6 x8 x9 x10 hx0 hx1 hx3 hx6 z H locs ls hr hl h; exact bX11_putFrame_106 hst F hA E ih x0 x1 x2 x3 x4 x5 x6 x8 x9 x10 hx0 hx1 hx3 hx6 hr hl h
def fX11_putFrame_101 (N : Nat)  (x0 : Nat) (x1 : Nat) (x2 : Int32) (x3 : Nat) (x4 : Int32) (x5 : Int32) (x6 : Nat) (x8 : Int32) (s0 : Int32) (z : St) : Option (Int32 × St) := fX11_putFrame_106 N N x0 x1 x2 x3 x4 x5 x6 x8 s0 (0 : Int32) z
set_option maxHeartbeats 4000000 in
set_option maxRecDepth 100000 in
theorem bX11_putFrame_101 (hst : zSt B ids) (F : zFx p m c cX11_putFrame 12 s args RX11 D cy B ids A) (hA : ∀ q : Nat, s.heap.size ≤ q → A q) {r : Int32} {z' : St} (E : zEnd p l e rmX11_putFrame s m args below meth c cX11_putFrame D cy B ids A Q none z' .return_ True) {N : Nat}  (x0 : Nat) (x1 : Nat) (x2 : Int32) (x3 : Nat) (x4 : Int32) (x5 : Int32) (x6 : Nat) (x8 : Int32) (s0 : Int32) (hx0 : (11, x0) ∈ ids) (hx1 : (8, x1) ∈ ids) (hx3 : (7, x3) ∈ ids) (hx6 : (5, x6) ∈ ids) {z : St} {H : Heap} {locs : List Loc} {ls : Array Slot} (hr : zRep D cy B ids A s.heap z H locs) (hl : lv_has ls 12 [(0, .ref (B 11 x0)), (1, .ref (B 8 x1)), (2, .int x2), (3, .ref (B 7 x3)), (4, .int x4), (5, .int x5), (6, .ref (B 5 x6)), (8, .int x8)]) (h : fX11_putFrame_101 N x0 x1 x2 x3 x4 x5 x6 x8 s0 z = some (r, z')) : W p l e rmX11_putFrame s m args below meth c H locs 0 0 Q (F0 m 101 ls [.int s0]) := by
  unfold fX11_putFrame_101 at h
  refine lv_istore (lv' := [(9, .int s0), (0, .ref (B 11 x0)), (1, .ref (B 8 x1)), (2, .int x2), (3, .ref (B 7 x3)), (4, .int x4), (5, .int x5), (6, .ref (B 5 x6)), (8, .int x8)]) F.1 F.2.1 dX11_putFrame_101 hl (by decide) rfl (fun ls hl => ?_)
  refine lv_iconst (v := (0 : Int32)) F.1 F.2.1 dX11_putFrame_103 (by decide) ?_
  refine lv_istore (lv' := [(10, .int (0 : Int32)), (9, .int s0), (0, .ref (B 11 x0)), (1, .ref (B 8 x1)), (2, .int x2), (3, .ref (B 7 x3)), (4, .int x4), (5, .int x5), (6, .ref (B 5 x6)), (8, .int x8)]) F.1 F.2.1 dX11_putFrame_104 hl (by decide) rfl (fun ls hl => ?_)
  exact lX11_putFrame_106 hst F hA E  _ x0 x1 x2 x3 x4 x5 x6 x8 s0 (0 : Int32) hx0 hx1 hx3 hx6 hr (lv_sub hl [2, 3, 4, 5, 6, 7, 8, 9, 1, 0] rfl) h
def fX11_putFrame_60 (N : Nat)  (x0 : Nat) (x1 : Nat) (x2 : Int32) (x3 : Nat) (x4 : Int32) (x5 : Int32) (x6 : Nat) (x7 : Int32) (s0 : Int32) (z : St) : Option (Int32 × St) := if ((zgI z 11 12 x0) + s0) ≤ (512 : Int32) then (if ¬ x7 = (3 : Int32) then (fX11_putFrame_101 N x0 x1 x2 x3 x4 x5 x6 s0 (zgI z 5 2 x6) z) else (fX11_putFrame_101 N x0 x1 x2 x3 x4 x5 x6 s0 ((4 : Int32) * (zgI z 5 2 x6)) z)) else (zc (fX11_stir N x0 z) fun _ z4 => some (0, z4))
set_option maxHeartbeats 4000000 in
set_option maxRecDepth 100000 in
theorem bX11_putFrame_60 (hst : zSt B ids) (F : zFx p m c cX11_putFrame 12 s args RX11 D cy B ids A) (hA : ∀ q : Nat, s.heap.size ≤ q → A q) {r : Int32} {z' : St} (E : zEnd p l e rmX11_putFrame s m args below meth c cX11_putFrame D cy B ids A Q none z' .return_ True) {N : Nat}  (x0 : Nat) (x1 : Nat) (x2 : Int32) (x3 : Nat) (x4 : Int32) (x5 : Int32) (x6 : Nat) (x7 : Int32) (s0 : Int32) (hx0 : (11, x0) ∈ ids) (hx1 : (8, x1) ∈ ids) (hx3 : (7, x3) ∈ ids) (hx6 : (5, x6) ∈ ids) {z : St} {H : Heap} {locs : List Loc} {ls : Array Slot} (hr : zRep D cy B ids A s.heap z H locs) (hl : lv_has ls 12 [(0, .ref (B 11 x0)), (1, .ref (B 8 x1)), (2, .int x2), (3, .ref (B 7 x3)), (4, .int x4), (5, .int x5), (6, .ref (B 5 x6)), (7, .int x7)]) (h : fX11_putFrame_60 N x0 x1 x2 x3 x4 x5 x6 x7 s0 z = some (r, z')) : W p l e rmX11_putFrame s m args below meth c H locs 0 0 Q (F0 m 60 ls [.int s0]) := by
  unfold fX11_putFrame_60 at h
  refine lv_istore (lv' := [(8, .int s0), (0, .ref (B 11 x0)), (1, .ref (B 8 x1)), (2, .int x2), (3, .ref (B 7 x3)), (4, .int x4), (5, .int x5), (6, .ref (B 5 x6)), (7, .int x7)]) F.1 F.2.1 dX11_putFrame_60 hl (by decide) rfl (fun ls hl => ?_)
  refine lv_aload_n F.1 F.2.1 dX11_putFrame_62 rfl (lv_at hl 1 rfl) ?_
  refine gf11_442 F hx0 hr dX11_putFrame_63 ?_
  refine lv_iload F.1 F.2.1 dX11_putFrame_66 (lv_at hl 0 rfl) ?_
  refine lv_iadd F.1 F.2.1 dX11_putFrame_68 ?_
  refine lv_sipush (v := (512 : Int32)) F.1 F.2.1 dX11_putFrame_69 (by decide) ?_
  refine lv_icmp_le (tgt := 80) F.1 F.2.1 dX11_putFrame_72 (by decide) (fun c1 => ?_) (fun c1 => ?_)
  · replace h := zi_t c1 h
    refine lv_iload F.1 F.2.1 dX11_putFrame_80 (lv_at hl 8 rfl) ?_
    refine lv_iconst (v := (3 : Int32)) F.1 F.2.1 dX11_putFrame_82 (by decide) ?_
    refine lv_icmp_ne (tgt := 96) F.1 F.2.1 dX11_putFrame_83 (by decide) (fun c2 => ?_) (fun c2 => ?_)
    · replace h := zi_t c2 h
      refine lv_aload F.1 F.2.1 dX11_putFrame_96 (lv_at hl 7 rfl) ?_
      refine gf11_93 F hx6 hr dX11_putFrame_98 ?_
      exact bX11_putFrame_101 hst F hA E  x0 x1 x2 x3 x4 x5 x6 s0 (zgI z 5 2 x6) hx0 hx1 hx3 hx6 hr (lv_sub hl [1, 2, 3, 4, 5, 6, 7, 0] rfl) h
    · replace h := zi_f (fun q => q c2) h
      refine lv_iconst (v := (4 : Int32)) F.1 F.2.1 dX11_putFrame_86 (by decide) ?_
      refine lv_aload F.1 F.2.1 dX11_putFrame_87 (lv_at hl 7 rfl) ?_
      refine gf11_93 F hx6 hr dX11_putFrame_89 ?_
      refine lv_imul F.1 F.2.1 dX11_putFrame_92 ?_
      refine lv_goto (tgt := 101) F.1 F.2.1 dX11_putFrame_93 (by decide) ?_
      exact bX11_putFrame_101 hst F hA E  x0 x1 x2 x3 x4 x5 x6 s0 ((4 : Int32) * (zgI z 5 2 x6)) hx0 hx1 hx3 hx6 hr (lv_sub hl [1, 2, 3, 4, 5, 6, 7, 0] rfl) h
  · replace h := zi_f c1 h
    refine lv_aload_n F.1 F.2.1 dX11_putFrame_75 rfl (lv_at hl 1 rfl) ?_
    replace h := zc_some h
    obtain ⟨r3, z4, hc5, h⟩ := h
    refine zr_callv (zrun_V (As := []) (rest := []) zq_858 zq_860 zs_X11_stir zq_861 zq_1 hdX11_stir (by decide) (T := TX11) (N := 21) rfl (okX11_stir l D cy B ids hst N x0 hx0 hr.2.2 hc5) F hr hx0 hl.1 rfl (by decide) dX11_putFrame_76 rfl rfl hroX11_putFrame_X11_stir ⟨Nat.zero_le _, Nat.zero_le _⟩) F hA hr (fun H locs hw6 hr => ?_)
    clear hc5
    obtain ⟨rfl, rfl⟩ := zret h
    exact E _ _ _ _ dX11_putFrame_79 trivial hr
def fX11_putFrame_42 (N : Nat)  (x0 : Nat) (x1 : Nat) (x2 : Int32) (x3 : Nat) (x4 : Int32) (x5 : Int32) (x6 : Nat) (x7 : Int32) (z : St) : Option (Int32 × St) := if ¬ x7 = (1 : Int32) then (if ¬ x7 = (2 : Int32) then (fX11_putFrame_60 N x0 x1 x2 x3 x4 x5 x6 x7 (1 : Int32) z) else (fX11_putFrame_60 N x0 x1 x2 x3 x4 x5 x6 x7 (2 : Int32) z)) else (some (0, z))
set_option maxHeartbeats 4000000 in
set_option maxRecDepth 100000 in
theorem bX11_putFrame_42 (hst : zSt B ids) (F : zFx p m c cX11_putFrame 12 s args RX11 D cy B ids A) (hA : ∀ q : Nat, s.heap.size ≤ q → A q) {r : Int32} {z' : St} (E : zEnd p l e rmX11_putFrame s m args below meth c cX11_putFrame D cy B ids A Q none z' .return_ True) {N : Nat}  (x0 : Nat) (x1 : Nat) (x2 : Int32) (x3 : Nat) (x4 : Int32) (x5 : Int32) (x6 : Nat) (x7 : Int32) (hx0 : (11, x0) ∈ ids) (hx1 : (8, x1) ∈ ids) (hx3 : (7, x3) ∈ ids) (hx6 : (5, x6) ∈ ids) {z : St} {H : Heap} {locs : List Loc} {ls : Array Slot} (hr : zRep D cy B ids A s.heap z H locs) (hl : lv_has ls 12 [(0, .ref (B 11 x0)), (1, .ref (B 8 x1)), (2, .int x2), (3, .ref (B 7 x3)), (4, .int x4), (5, .int x5), (6, .ref (B 5 x6)), (7, .int x7)]) (h : fX11_putFrame_42 N x0 x1 x2 x3 x4 x5 x6 x7 z = some (r, z')) : W p l e rmX11_putFrame s m args below meth c H locs 0 0 Q (F0 m 42 ls []) := by
  unfold fX11_putFrame_42 at h
  refine lv_iload F.1 F.2.1 dX11_putFrame_42 (lv_at hl 7 rfl) ?_
  refine lv_iconst (v := (1 : Int32)) F.1 F.2.1 dX11_putFrame_44 (by decide) ?_
  refine lv_icmp_ne (tgt := 49) F.1 F.2.1 dX11_putFrame_45 (by decide) (fun c1 => ?_) (fun c1 => ?_)
  · replace h := zi_t c1 h
    refine lv_iload F.1 F.2.1 dX11_putFrame_49 (lv_at hl 7 rfl) ?_
    refine lv_iconst (v := (2 : Int32)) F.1 F.2.1 dX11_putFrame_51 (by decide) ?_
    refine lv_icmp_ne (tgt := 59) F.1 F.2.1 dX11_putFrame_52 (by decide) (fun c2 => ?_) (fun c2 => ?_)
    · replace h := zi_t c2 h
      refine lv_iconst (v := (1 : Int32)) F.1 F.2.1 dX11_putFrame_59 (by decide) ?_
      exact bX11_putFrame_60 hst F hA E  x0 x1 x2 x3 x4 x5 x6 x7 (1 : Int32) hx0 hx1 hx3 hx6 hr (lv_sub hl [0, 1, 2, 3, 4, 5, 6, 7] rfl) h
    · replace h := zi_f (fun q => q c2) h
      refine lv_iconst (v := (2 : Int32)) F.1 F.2.1 dX11_putFrame_55 (by decide) ?_
      refine lv_goto (tgt := 60) F.1 F.2.1 dX11_putFrame_56 (by decide) ?_
      exact bX11_putFrame_60 hst F hA E  x0 x1 x2 x3 x4 x5 x6 x7 (2 : Int32) hx0 hx1 hx3 hx6 hr (lv_sub hl [0, 1, 2, 3, 4, 5, 6, 7] rfl) h
  · replace h := zi_f (fun q => q c1) h
    obtain ⟨rfl, rfl⟩ := zret h
    exact E _ _ _ _ dX11_putFrame_48 trivial hr
def fX11_putFrame (N : Nat)  (x0 : Nat) (x1 : Nat) (x2 : Int32) (x3 : Nat) (x4 : Int32) (x5 : Int32) (z : St) : Option (Int32 × St) := zl (zgR z 8 1 x1) fun y1 => zd y1 fun a2 => zl (zsI z 5 9 a2 ((zgI z 5 9 a2) + (1 : Int32))) fun z3 => if ¬ (zgI z3 5 3 a2) = 0 then (zc (fX5_nextFate N a2 z3) fun r5 z6 => if r5 = 0 then (fX11_putFrame_42 N x0 x1 x2 x3 x4 x5 a2 r5 z6) else (zc (fX11_stir N x0 z6) fun _ z11 => fX11_putFrame_42 N x0 x1 x2 x3 x4 x5 a2 r5 z11)) else (some (0, z3))
set_option maxHeartbeats 4000000 in
set_option maxRecDepth 100000 in
theorem bX11_putFrame_0 (hst : zSt B ids) (F : zFx p m c cX11_putFrame 12 s args RX11 D cy B ids A) (hA : ∀ q : Nat, s.heap.size ≤ q → A q) {r : Int32} {z' : St} (E : zEnd p l e rmX11_putFrame s m args below meth c cX11_putFrame D cy B ids A Q none z' .return_ True) {N : Nat}  (x0 : Nat) (x1 : Nat) (x2 : Int32) (x3 : Nat) (x4 : Int32) (x5 : Int32) (hx0 : (11, x0) ∈ ids) (hx1 : (8, x1) ∈ ids) (hx3 : (7, x3) ∈ ids) {z : St} {H : Heap} {locs : List Loc} {ls : Array Slot} (hr : zRep D cy B ids A s.heap z H locs) (hl : lv_has ls 12 [(0, .ref (B 11 x0)), (1, .ref (B 8 x1)), (2, .int x2), (3, .ref (B 7 x3)), (4, .int x4), (5, .int x5)]) (h : fX11_putFrame N x0 x1 x2 x3 x4 x5 z = some (r, z')) : W p l e rmX11_putFrame s m args below meth c H locs 0 0 Q (F0 m 0 ls []) := by
  unfold fX11_putFrame at h
  refine lv_aload_n F.1 F.2.1 dX11_putFrame_0 rfl (lv_at hl 1 rfl) ?_
  refine gf11_261 F hx1 hr dX11_putFrame_1 (fun y1 ey1 => ?_)
  replace h := zl_sub ey1 h
  have hy1 := zal_g hr hx1 (j := 1) rfl ey1
  clear ey1
  refine zr_astore (lv' := [(6, va_rf (Option.map (B 5) y1)), (0, .ref (B 11 x0)), (1, .ref (B 8 x1)), (2, .int x2), (3, .ref (B 7 x3)), (4, .int x4), (5, .int x5)]) F.1 F.2.1 dX11_putFrame_4 hl (by decide) rfl (fun ls hl => ?_)
  refine zr_aload F.1 F.2.1 dX11_putFrame_6 (lv_at hl 0 rfl) ?_
  refine lv_dup F.1 F.2.1 dX11_putFrame_8 zrf_cat ?_
  replace h := zd_some h
  obtain ⟨a2, rfl, h⟩ := h
  refine gf11_431 F (hy1 _ rfl) hr dX11_putFrame_9 ?_
  refine lv_iconst (v := (1 : Int32)) F.1 F.2.1 dX11_putFrame_12 (by decide) ?_
  refine lv_iadd F.1 F.2.1 dX11_putFrame_13 ?_
  refine pf11_431 F (hy1 _ rfl) hr dX11_putFrame_14 ((zgI z 5 9 a2) + (1 : Int32)) (fun H locs z3 ez3 hr => ?_)
  replace h := zl_sub ez3 h
  clear ez3
  refine lv_aload F.1 F.2.1 dX11_putFrame_17 (lv_at hl 0 rfl) ?_
  refine gf11_158 F (hy1 _ rfl) hr dX11_putFrame_19 ?_
  refine lv_if_ne (tgt := 26) F.1 F.2.1 dX11_putFrame_22 (by decide) (fun c4 => ?_) (fun c4 => ?_)
  · replace h := zi_t c4 h
    refine lv_aload F.1 F.2.1 dX11_putFrame_26 (lv_at hl 0 rfl) ?_
    replace h := zc_some h
    obtain ⟨r5, z6, hc7, h⟩ := h
    refine zr_calli (zrun_VN (As := []) (rest := []) zn_1067 zq_1069 zs_X5_nextFate zq_1070 zq_3 hdX5_nextFate (by decide) (T := TX5) (N := 11) rfl (okX5_nextFate l D cy B ids hst N a2 (hy1 _ rfl) hr.2.2 hc7) F hr (hy1 _ rfl) hl.1 rfl (by decide) dX11_putFrame_28 rfl rfl hroX11_putFrame_X5_nextFate ⟨Nat.zero_le _, Nat.zero_le _⟩) F hA hr (fun H locs hw8 hr => ?_)
    clear hc7
    refine lv_istore (lv' := [(7, .int r5), (6, .ref (B 5 a2)), (0, .ref (B 11 x0)), (1, .ref (B 8 x1)), (2, .int x2), (3, .ref (B 7 x3)), (4, .int x4), (5, .int x5)]) F.1 F.2.1 dX11_putFrame_31 hl (by decide) rfl (fun ls hl => ?_)
    refine lv_iload F.1 F.2.1 dX11_putFrame_33 (lv_at hl 0 rfl) ?_
    refine lv_if_eq (tgt := 42) F.1 F.2.1 dX11_putFrame_35 (by decide) (fun c9 => ?_) (fun c9 => ?_)
    · replace h := zi_t c9 h
      exact bX11_putFrame_42 hst F hA E  x0 x1 x2 x3 x4 x5 a2 r5 hx0 hx1 hx3 (hy1 _ rfl) hr (lv_sub hl [2, 3, 4, 5, 6, 7, 1, 0] rfl) h
    · replace h := zi_f c9 h
      refine lv_aload_n F.1 F.2.1 dX11_putFrame_38 rfl (lv_at hl 2 rfl) ?_
      replace h := zc_some h
      obtain ⟨r10, z11, hc12, h⟩ := h
      refine zr_callv (zrun_V (As := []) (rest := []) zq_858 zq_860 zs_X11_stir zq_861 zq_1 hdX11_stir (by decide) (T := TX11) (N := 21) rfl (okX11_stir l D cy B ids hst N x0 hx0 hr.2.2 hc12) F hr hx0 hl.1 rfl (by decide) dX11_putFrame_39 rfl rfl hroX11_putFrame_X11_stir ⟨Nat.zero_le _, Nat.zero_le _⟩) F hA hr (fun H locs hw13 hr => ?_)
      clear hc12
      exact bX11_putFrame_42 hst F hA E  x0 x1 x2 x3 x4 x5 a2 r5 hx0 hx1 hx3 (hy1 _ rfl) hr (lv_sub hl [2, 3, 4, 5, 6, 7, 1, 0] rfl) h
  · replace h := zi_f (fun q => q c4) h
    obtain ⟨rfl, rfl⟩ := zret h
    exact E _ _ _ _ dX11_putFrame_25 trivial hr
end SX11_putFrame
set_option maxRecDepth 100000 in
theorem okX11_putFrame (l : Launch) (D : va_G) (cy : Nat → ClassId) (B : Nat → Nat → Nat) (ids : List (Nat × Nat)) (hst : zSt B ids) (N : Nat) (x0 : Nat) (hx0 : (11, x0) ∈ ids) (x1 : Nat) (hx1 : (8, x1) ∈ ids) (x2 : Int32) (x3 : Nat) (hx3 : (7, x3) ∈ ids) (x4 : Int32) (x5 : Int32) {z : St} {r : Int32} {z' : St} (hW : zWf ids z) (h : fX11_putFrame N x0 x1 x2 x3 x4 x5 z = some (r, z')) : zM l yX11_putFrame (zws yX11_putFrame cX11_putFrame 12 none) rmX11_putFrame D cy B ids [.ref (B 11 x0), .ref (B 8 x1), .int x2, .ref (B 7 x3), .int x4, .int x5] none True z z' :=
  zM_of hst hW (by decide +kernel) (Nat.le_of_ble_eq_true rfl) (fun p e s m args below meth c A ls F hA hret hlocks hr hl => bX11_putFrame_0 hst F hA (zEnd_v F hret hlocks) x0 x1 x2 x3 x4 x5 hx0 hx1 hx3 hr hl h)
abbrev rmX11_putOn : Room := { frames := 3, cells := 0, slots := 0, locals := 114 }
theorem hdX11_putOn : yX11_putOn.cls ≠ "java/lang/invoke/MethodHandle" ∧ yX11_putOn.cls ≠ "java/lang/invoke/VarHandle" ∧ (parseMethodDescriptor yX11_putOn.desc).map (fun d => d.parameters.length) = some 3 := by decide +kernel
theorem hroX11_putOn_X11_putFrame : rmX11_putFrame.frames + 1 ≤ rmX11_putOn.frames ∧ 8 + (12 + 11) + rmX11_putFrame.locals ≤ rmX11_putOn.locals := by decide
section SX11_putOn
variable {p : Program} {l : Launch} {e : Env} {s : State} {m : MethodId} {args : Array Value} {below : List Frame} {meth : Method} {c : Code} {Q : State → Prop} {D : va_G} {cy : Nat → ClassId} {B : Nat → Nat → Nat} {ids : List (Nat × Nat)} {A : Nat → Prop}
def fX11_putOn_52b (N : Nat) (K52 : Nat → Nat → Int32 → Nat → Int32 → Int32 → St → Option (Int32 × St)) (x0 : Nat) (x1 : Nat) (x2 : Int32) (x3 : Nat) (x5 : Int32) (x6 : Int32) (z : St) : Option (Int32 × St) := if (zgI z 7 6 x3) ≤ x6 then (some (0, z)) else (zl (zgR z 8 0 x1) fun y2 => zd y2 fun a3 => zk (5 : Int32) 8 <| zk (5 : Int32) 8 <| zl (zsA z 113 a3 (Int32.toNatClampNeg (5 : Int32)) ((zgA z 113 a3 (Int32.toNatClampNeg (5 : Int32))) + (1 : Int32))) fun z6 => zc (fX11_putFrame N x0 x1 x2 x3 x6 (if ((zgI z6 7 6 x3) - x6) < x5 then ((zgI z6 7 6 x3) - x6) else x5) z6) fun _ z8 => zl (x6 + x5) fun v11 => K52 x0 x1 x2 x3 x5 v11 z8)
def fX11_putOn_52 (N : Nat)  : Nat → Nat → Nat → Int32 → Nat → Int32 → Int32 → St → Option (Int32 × St)
  | 0 => fun _ _ _ _ _ _ _ => none
  | n + 1 => fX11_putOn_52b N (fX11_putOn_52 N  n)
set_option maxHeartbeats 4000000 in
set_option maxRecDepth 100000 in
theorem bX11_putOn_52 (hst : zSt B ids) (F : zFx p m c cX11_putOn 7 s args RX11 D cy B ids A) (hA : ∀ q : Nat, s.heap.size ≤ q → A q) {r : Int32} {z' : St} (E : zEnd p l e rmX11_putOn s m args below meth c cX11_putOn D cy B ids A Q none z' .return_ True) {N : Nat} {K52 : Nat → Nat → Int32 → Nat → Int32 → Int32 → St → Option (Int32 × St)} (hK52 : ∀ (x0 : Nat) (x1 : Nat) (x2 : Int32) (x3 : Nat) (x5 : Int32) (x6 : Int32) (hx0 : (11, x0) ∈ ids) (hx1 : (8, x1) ∈ ids) (hx3 : (7, x3) ∈ ids) {z : St} {H : Heap} {locs : List Loc} {ls : Array Slot} (hr : zRep D cy B ids A s.heap z H locs) (hl : lv_has ls 7 [(0, .ref (B 11 x0)), (1, .ref (B 8 x1)), (2, .int x2), (3, .ref (B 7 x3)), (5, .int x5), (6, .int x6)]), K52 x0 x1 x2 x3 x5 x6 z = some (r, z') → W p l e rmX11_putOn s m args below meth c H locs 0 0 Q (F0 m 52 ls [])) (x0 : Nat) (x1 : Nat) (x2 : Int32) (x3 : Nat) (x5 : Int32) (x6 : Int32) (hx0 : (11, x0) ∈ ids) (hx1 : (8, x1) ∈ ids) (hx3 : (7, x3) ∈ ids) {z : St} {H : Heap} {locs : List Loc} {ls : Array Slot} (hr : zRep D cy B ids A s.heap z H locs) (hl : lv_has ls 7 [(0, .ref (B 11 x0)), (1, .ref (B 8 x1)), (2, .int x2), (3, .ref (B 7 x3)), (5, .int x5), (6, .int x6)]) (h : fX11_putOn_52b N K52 x0 x1 x2 x3 x5 x6 z = some (r, z')) : W p l e rmX11_putOn s m args below meth c H locs 0 0 Q (F0 m 52 ls []) := by
  unfold fX11_putOn_52b at h
  refine lv_iload F.1 F.2.1 dX11_putOn_52 (lv_at hl 5 rfl) ?_
  refine lv_aload_n F.1 F.2.1 dX11_putOn_54 rfl (lv_at hl 3 rfl) ?_
  refine gf11_528 F hx3 hr dX11_putOn_55 ?_
  refine lv_icmp_ge (tgt := 105) F.1 F.2.1 dX11_putOn_58 (by decide) (fun c1 => ?_) (fun c1 => ?_)
  · replace h := zi_t c1 h
    obtain ⟨rfl, rfl⟩ := zret h
    exact E _ _ _ _ dX11_putOn_105 trivial hr
  · replace h := zi_f c1 h
    refine lv_aload_n F.1 F.2.1 dX11_putOn_61 rfl (lv_at hl 1 rfl) ?_
    refine gf11_474 F hx1 hr dX11_putOn_62 (fun y2 ey2 => ?_)
    replace h := zl_sub ey2 h
    have hy2 := zal_g hr hx1 (j := 0) rfl ey2
    clear ey2
    replace h := zd_some h
    obtain ⟨a3, rfl, h⟩ := h
    refine gf11_439 F (hy2 _ rfl) hr dX11_putOn_65 ?_
    refine lv_iconst (v := (5 : Int32)) F.1 F.2.1 dX11_putOn_68 (by decide) ?_
    refine lv_dup2_11 F.1 F.2.1 dX11_putOn_69 rfl rfl ?_
    replace h := zk_some h
    obtain ⟨c4, h⟩ := h
    refine zr_iald (k := 113) (by decide) rfl (by decide) F (zal_a F (hy2 _ rfl) (j := 4) rfl) hr dX11_putOn_70 c4 ?_
    refine lv_iconst (v := (1 : Int32)) F.1 F.2.1 dX11_putOn_71 (by decide) ?_
    refine lv_iadd F.1 F.2.1 dX11_putOn_72 ?_
    replace h := zk_some h
    obtain ⟨c5, h⟩ := h
    refine zr_iast (k := 113) (by decide) rfl (by decide) F (zal_a F (hy2 _ rfl) (j := 4) rfl) hr dX11_putOn_73 c5 (fun H locs z6 ez6 hr => ?_)
    replace h := zl_sub ez6 h
    clear ez6
    refine lv_aload_n F.1 F.2.1 dX11_putOn_74 rfl (lv_at hl 0 rfl) ?_
    refine lv_aload_n F.1 F.2.1 dX11_putOn_75 rfl (lv_at hl 1 rfl) ?_
    refine lv_iload_n F.1 F.2.1 dX11_putOn_76 rfl (lv_at hl 2 rfl) ?_
    refine lv_aload_n F.1 F.2.1 dX11_putOn_77 rfl (lv_at hl 3 rfl) ?_
    refine lv_iload F.1 F.2.1 dX11_putOn_78 (lv_at hl 5 rfl) ?_
    refine lv_iload F.1 F.2.1 dX11_putOn_80 (lv_at hl 4 rfl) ?_
    refine lv_aload_n F.1 F.2.1 dX11_putOn_82 rfl (lv_at hl 3 rfl) ?_
    refine gf11_528 F hx3 hr dX11_putOn_83 ?_
    refine lv_iload F.1 F.2.1 dX11_putOn_86 (lv_at hl 5 rfl) ?_
    refine lv_isub F.1 F.2.1 dX11_putOn_88 ?_
    refine va_mmin F.1 F.2.1 (F.2.2.1.trans hl.1.symm) F.2.2.2.1 (F.2.2.2.2.1 _ zq_303) (F.2.2.2.2.1 _ zq_304) (F.2.2.2.2.1 _ zq_27) (F.2.2.2.2.1 _ zq_305) (Nat.le_of_ble_eq_true rfl) (Nat.le_of_ble_eq_true rfl) (Nat.zero_le _) (Nat.zero_le _) dX11_putOn_89 ?_
    replace h := zc_some h
    obtain ⟨r7, z8, hc9, h⟩ := h
    refine zr_callv (zrun_V (As := [.ref (B 8 x1), .int x2, .ref (B 7 x3), .int x6, .int (if ((zgI z6 7 6 x3) - x6) < x5 then ((zgI z6 7 6 x3) - x6) else x5)]) (rest := []) zq_1063 zq_1065 zs_X11_putFrame zq_1066 zq_1 hdX11_putFrame (by decide) (T := TX11) (N := 21) rfl (okX11_putFrame l D cy B ids hst N x0 hx0 x1 hx1 x2  x3 hx3 x6  (if ((zgI z6 7 6 x3) - x6) < x5 then ((zgI z6 7 6 x3) - x6) else x5)  hr.2.2 hc9) F hr hx0 hl.1 rfl (by decide) dX11_putOn_92 rfl rfl hroX11_putOn_X11_putFrame ⟨Nat.zero_le _, Nat.zero_le _⟩) F hA hr (fun H locs hw10 hr => ?_)
    clear hc9
    refine lv_iload F.1 F.2.1 dX11_putOn_95 (lv_at hl 5 rfl) ?_
    refine lv_iload F.1 F.2.1 dX11_putOn_97 (lv_at hl 4 rfl) ?_
    refine lv_iadd F.1 F.2.1 dX11_putOn_99 ?_
    refine lv_topi (fun v11 ev11 => ?_)
    replace h := zl_sub ev11 h
    refine lv_istore (lv' := [(6, .int v11), (0, .ref (B 11 x0)), (1, .ref (B 8 x1)), (2, .int x2), (3, .ref (B 7 x3)), (5, .int x5)]) F.1 F.2.1 dX11_putOn_100 hl (by decide) rfl (fun ls hl => ?_)
    refine lv_goto (tgt := 52) F.1 F.2.1 dX11_putOn_102 (by decide) ?_
    exact hK52 x0 x1 x2 x3 x5 v11 hx0 hx1 hx3 hr (lv_sub hl [1, 2, 3, 4, 5, 0] rfl) h
theorem lX11_putOn_52 (hst : zSt B ids) (F : zFx p m c cX11_putOn 7 s args RX11 D cy B ids A) (hA : ∀ q : Nat, s.heap.size ≤ q → A q) {r : Int32} {z' : St} (E : zEnd p l e rmX11_putOn s m args below meth c cX11_putOn D cy B ids A Q none z' .return_ True) {N : Nat}  : ∀ (n : Nat) (x0 : Nat) (x1 : Nat) (x2 : Int32) (x3 : Nat) (x5 : Int32) (x6 : Int32) (hx0 : (11, x0) ∈ ids) (hx1 : (8, x1) ∈ ids) (hx3 : (7, x3) ∈ ids) {z : St} {H : Heap} {locs : List Loc} {ls : Array Slot} (hr : zRep D cy B ids A s.heap z H locs) (hl : lv_has ls 7 [(0, .ref (B 11 x0)), (1, .ref (B 8 x1)), (2, .int x2), (3, .ref (B 7 x3)), (5, .int x5), (6, .int x6)]), fX11_putOn_52 N  n x0 x1 x2 x3 x5 x6 z = some (r, z') → W p l e rmX11_putOn s m args below meth c H locs 0 0 Q (F0 m 52 ls []) := by
  intro n
  induction n with
  | zero => intro x0 x1 x2 x3 x5 x6 hx0 hx1 hx3 z H locs ls hr hl h; cases h
  | succ n ih => intro x0 x1 x2 x3 x5 x6 hx0 hx1 hx3 z H locs ls hr hl h; exact bX11_putOn_52 hst F hA E ih x0 x1 x2 x3 x5 x6 hx0 hx1 hx3 hr hl h
def fX11_putOn (N : Nat)  (x0 : Nat) (x1 : Nat) (x2 : Int32) (x3 : Nat) (z : St) : Option (Int32 × St) := zl (zgR z 8 1 x1) fun y1 => zd y1 fun a2 => zl ((zgI z 5 1 a2) - (20 : Int32)) fun v3 => if v3 < (zgI z 7 6 x3) then (zl (if (8 : Int32) < ((v3 / (8 : Int32)) * (8 : Int32)) then ((v3 / (8 : Int32)) * (8 : Int32)) else (8 : Int32)) fun v5 => fX11_putOn_52 N N x0 x1 x2 x3 v5 (0 : Int32) z) else (zc (fX11_putFrame N x0 x1 x2 x3 (0 : Int32) (zgI z 7 6 x3) z) fun _ z7 => some (0, z7))
set_option maxHeartbeats 4000000 in
set_option maxRecDepth 100000 in
theorem bX11_putOn_0 (hst : zSt B ids) (F : zFx p m c cX11_putOn 7 s args RX11 D cy B ids A) (hA : ∀ q : Nat, s.heap.size ≤ q → A q) {r : Int32} {z' : St} (E : zEnd p l e rmX11_putOn s m args below meth c cX11_putOn D cy B ids A Q none z' .return_ True) {N : Nat}  (x0 : Nat) (x1 : Nat) (x2 : Int32) (x3 : Nat) (hx0 : (11, x0) ∈ ids) (hx1 : (8, x1) ∈ ids) (hx3 : (7, x3) ∈ ids) {z : St} {H : Heap} {locs : List Loc} {ls : Array Slot} (hr : zRep D cy B ids A s.heap z H locs) (hl : lv_has ls 7 [(0, .ref (B 11 x0)), (1, .ref (B 8 x1)), (2, .int x2), (3, .ref (B 7 x3))]) (h : fX11_putOn N x0 x1 x2 x3 z = some (r, z')) : W p l e rmX11_putOn s m args below meth c H locs 0 0 Q (F0 m 0 ls []) := by
  unfold fX11_putOn at h
  refine lv_aload_n F.1 F.2.1 dX11_putOn_0 rfl (lv_at hl 1 rfl) ?_
  refine gf11_261 F hx1 hr dX11_putOn_1 (fun y1 ey1 => ?_)
  replace h := zl_sub ey1 h
  have hy1 := zal_g hr hx1 (j := 1) rfl ey1
  clear ey1
  replace h := zd_some h
  obtain ⟨a2, rfl, h⟩ := h
  refine gf11_90 F (hy1 _ rfl) hr dX11_putOn_4 ?_
  refine lv_bipush (v := (20 : Int32)) F.1 F.2.1 dX11_putOn_7 (by decide) ?_
  refine lv_isub F.1 F.2.1 dX11_putOn_9 ?_
  refine lv_topi (fun v3 ev3 => ?_)
  replace h := zl_sub ev3 h
  refine lv_istore (lv' := [(4, .int v3), (0, .ref (B 11 x0)), (1, .ref (B 8 x1)), (2, .int x2), (3, .ref (B 7 x3))]) F.1 F.2.1 dX11_putOn_10 hl (by decide) rfl (fun ls hl => ?_)
  refine lv_aload_n F.1 F.2.1 dX11_putOn_12 rfl (lv_at hl 4 rfl) ?_
  refine gf11_528 F hx3 hr dX11_putOn_13 ?_
  refine lv_iload F.1 F.2.1 dX11_putOn_16 (lv_at hl 0 rfl) ?_
  refine lv_icmp_gt (tgt := 34) F.1 F.2.1 dX11_putOn_18 (by decide) (fun c4 => ?_) (fun c4 => ?_)
  · replace h := zi_t c4 h
    refine lv_bipush (v := (8 : Int32)) F.1 F.2.1 dX11_putOn_34 (by decide) ?_
    refine lv_iload F.1 F.2.1 dX11_putOn_36 (lv_at hl 0 rfl) ?_
    refine lv_bipush (v := (8 : Int32)) F.1 F.2.1 dX11_putOn_38 (by decide) ?_
    refine lv_idiv F.1 F.2.1 dX11_putOn_40 (by decide) ?_
    refine lv_bipush (v := (8 : Int32)) F.1 F.2.1 dX11_putOn_41 (by decide) ?_
    refine lv_imul F.1 F.2.1 dX11_putOn_43 ?_
    refine va_mmax F.1 F.2.1 (F.2.2.1.trans hl.1.symm) F.2.2.2.1 (F.2.2.2.2.1 _ zq_274) (F.2.2.2.2.1 _ zq_275) (F.2.2.2.2.1 _ zq_27) (F.2.2.2.2.1 _ zq_276) (Nat.le_of_ble_eq_true rfl) (Nat.le_of_ble_eq_true rfl) (Nat.zero_le _) (Nat.zero_le _) dX11_putOn_44 ?_
    refine lv_topi (fun v5 ev5 => ?_)
    replace h := zl_sub ev5 h
    refine lv_istore (lv' := [(5, .int v5), (4, .int v3), (0, .ref (B 11 x0)), (1, .ref (B 8 x1)), (2, .int x2), (3, .ref (B 7 x3))]) F.1 F.2.1 dX11_putOn_47 hl (by decide) rfl (fun ls hl => ?_)
    refine lv_iconst (v := (0 : Int32)) F.1 F.2.1 dX11_putOn_49 (by decide) ?_
    refine lv_istore (lv' := [(6, .int (0 : Int32)), (5, .int v5), (4, .int v3), (0, .ref (B 11 x0)), (1, .ref (B 8 x1)), (2, .int x2), (3, .ref (B 7 x3))]) F.1 F.2.1 dX11_putOn_50 hl (by decide) rfl (fun ls hl => ?_)
    exact lX11_putOn_52 hst F hA E  _ x0 x1 x2 x3 v5 (0 : Int32) hx0 hx1 hx3 hr (lv_sub hl [3, 4, 5, 6, 1, 0] rfl) h
  · replace h := zi_f c4 h
    refine lv_aload_n F.1 F.2.1 dX11_putOn_21 rfl (lv_at hl 1 rfl) ?_
    refine lv_aload_n F.1 F.2.1 dX11_putOn_22 rfl (lv_at hl 2 rfl) ?_
    refine lv_iload_n F.1 F.2.1 dX11_putOn_23 rfl (lv_at hl 3 rfl) ?_
    refine lv_aload_n F.1 F.2.1 dX11_putOn_24 rfl (lv_at hl 4 rfl) ?_
    refine lv_iconst (v := (0 : Int32)) F.1 F.2.1 dX11_putOn_25 (by decide) ?_
    refine lv_aload_n F.1 F.2.1 dX11_putOn_26 rfl (lv_at hl 4 rfl) ?_
    refine gf11_528 F hx3 hr dX11_putOn_27 ?_
    replace h := zc_some h
    obtain ⟨r6, z7, hc8, h⟩ := h
    refine zr_callv (zrun_V (As := [.ref (B 8 x1), .int x2, .ref (B 7 x3), .int (0 : Int32), .int (zgI z 7 6 x3)]) (rest := []) zq_1063 zq_1065 zs_X11_putFrame zq_1066 zq_1 hdX11_putFrame (by decide) (T := TX11) (N := 21) rfl (okX11_putFrame l D cy B ids hst N x0 hx0 x1 hx1 x2  x3 hx3 (0 : Int32)  (zgI z 7 6 x3)  hr.2.2 hc8) F hr hx0 hl.1 rfl (by decide) dX11_putOn_30 rfl rfl hroX11_putOn_X11_putFrame ⟨Nat.zero_le _, Nat.zero_le _⟩) F hA hr (fun H locs hw9 hr => ?_)
    clear hc8
    obtain ⟨rfl, rfl⟩ := zret h
    exact E _ _ _ _ dX11_putOn_33 trivial hr
end SX11_putOn
set_option maxRecDepth 100000 in
theorem okX11_putOn (l : Launch) (D : va_G) (cy : Nat → ClassId) (B : Nat → Nat → Nat) (ids : List (Nat × Nat)) (hst : zSt B ids) (N : Nat) (x0 : Nat) (hx0 : (11, x0) ∈ ids) (x1 : Nat) (hx1 : (8, x1) ∈ ids) (x2 : Int32) (x3 : Nat) (hx3 : (7, x3) ∈ ids) {z : St} {r : Int32} {z' : St} (hW : zWf ids z) (h : fX11_putOn N x0 x1 x2 x3 z = some (r, z')) : zM l yX11_putOn (zws yX11_putOn cX11_putOn 7 none) rmX11_putOn D cy B ids [.ref (B 11 x0), .ref (B 8 x1), .int x2, .ref (B 7 x3)] none True z z' :=
  zM_of hst hW (by decide +kernel) (Nat.le_of_ble_eq_true rfl) (fun p e s m args below meth c A ls F hA hret hlocks hr hl => bX11_putOn_0 hst F hA (zEnd_v F hret hlocks) x0 x1 x2 x3 hx0 hx1 hx3 hr hl h)
abbrev rmX11_putNote : Room := { frames := 3, cells := 0, slots := 0, locals := 114 }
theorem hdX11_putNote : yX11_putNote.cls ≠ "java/lang/invoke/MethodHandle" ∧ yX11_putNote.cls ≠ "java/lang/invoke/VarHandle" ∧ (parseMethodDescriptor yX11_putNote.desc).map (fun d => d.parameters.length) = some 4 := by decide +kernel
theorem hroX11_putNote_X11_putFrame : rmX11_putFrame.frames + 1 ≤ rmX11_putNote.frames ∧ 8 + (12 + 11) + rmX11_putFrame.locals ≤ rmX11_putNote.locals := by decide
theorem hroX11_putNote_X7_begin : rmX7_begin.frames + 1 ≤ rmX11_putNote.frames ∧ 8 + (3 + 11) + rmX7_begin.locals ≤ rmX11_putNote.locals := by decide
section SX11_putNote
variable {p : Program} {l : Launch} {e : Env} {s : State} {m : MethodId} {args : Array Value} {below : List Frame} {meth : Method} {c : Code} {Q : State → Prop} {D : va_G} {cy : Nat → ClassId} {B : Nat → Nat → Nat} {ids : List (Nat × Nat)} {A : Nat → Prop}
def fX11_putNote (N : Nat)  (x0 : Nat) (x1 : Nat) (x2 : Int32) (x3 : Int32) (x4 : Int32) (z : St) : Option (Int32 × St) := zl (zgR z 11 14 x0) fun y1 => zd y1 fun a2 => zc (fX7_begin N a2 x3 (28 : Int32) z) fun _ z4 => zl (zgR z4 11 14 x0) fun y7 => zd y7 fun a8 => zl (zsI z4 7 0 a8 (zgI z4 8 4 x1)) fun z9 => zl (zgR z9 11 14 x0) fun y10 => zd y10 fun a11 => zl (zsI z9 7 1 a11 x4) fun z12 => zl (zgR z12 11 14 x0) fun y13 => zl (zgR z12 11 14 x0) fun y14 => zd y14 fun a15 => zd y13 fun a16 => zc (fX11_putFrame N x0 x1 x2 a16 (0 : Int32) (zgI z12 7 6 a15) z12) fun _ z18 => some (0, z18)
set_option maxHeartbeats 4000000 in
set_option maxRecDepth 100000 in
theorem bX11_putNote_0 (hst : zSt B ids) (F : zFx p m c cX11_putNote 5 s args RX11 D cy B ids A) (hA : ∀ q : Nat, s.heap.size ≤ q → A q) {r : Int32} {z' : St} (E : zEnd p l e rmX11_putNote s m args below meth c cX11_putNote D cy B ids A Q none z' .return_ True) {N : Nat}  (x0 : Nat) (x1 : Nat) (x2 : Int32) (x3 : Int32) (x4 : Int32) (hx0 : (11, x0) ∈ ids) (hx1 : (8, x1) ∈ ids) {z : St} {H : Heap} {locs : List Loc} {ls : Array Slot} (hr : zRep D cy B ids A s.heap z H locs) (hl : lv_has ls 5 [(0, .ref (B 11 x0)), (1, .ref (B 8 x1)), (2, .int x2), (3, .int x3), (4, .int x4)]) (h : fX11_putNote N x0 x1 x2 x3 x4 z = some (r, z')) : W p l e rmX11_putNote s m args below meth c H locs 0 0 Q (F0 m 0 ls []) := by
  unfold fX11_putNote at h
  refine lv_aload_n F.1 F.2.1 dX11_putNote_0 rfl (lv_at hl 0 rfl) ?_
  refine gf11_35 F hx0 hr dX11_putNote_1 (fun y1 ey1 => ?_)
  replace h := zl_sub ey1 h
  have hy1 := zal_g hr hx0 (j := 14) rfl ey1
  clear ey1
  refine lv_iload_n F.1 F.2.1 dX11_putNote_4 rfl (lv_at hl 3 rfl) ?_
  refine lv_bipush (v := (28 : Int32)) F.1 F.2.1 dX11_putNote_5 (by decide) ?_
  replace h := zd_some h
  obtain ⟨a2, rfl, h⟩ := h
  replace h := zc_some h
  obtain ⟨r3, z4, hc5, h⟩ := h
  refine zr_callv (zrun_VN (As := [.int x3, .int (28 : Int32)]) (rest := []) zn_1086 zq_1088 zs_X7_begin zq_1089 zq_2 hdX7_begin (by decide) (T := TX7) (N := 20) rfl (okX7_begin l D cy B ids hst N a2 (hy1 _ rfl) x3  (28 : Int32)  hr.2.2 hc5) F hr (hy1 _ rfl) hl.1 rfl (by decide) dX11_putNote_7 rfl rfl hroX11_putNote_X7_begin ⟨Nat.zero_le _, Nat.zero_le _⟩) F hA hr (fun H locs hw6 hr => ?_)
  clear hc5
  refine lv_aload_n F.1 F.2.1 dX11_putNote_10 rfl (lv_at hl 0 rfl) ?_
  refine gf11_35 F hx0 hr dX11_putNote_11 (fun y7 ey7 => ?_)
  replace h := zl_sub ey7 h
  have hy7 := zal_g hr hx0 (j := 14) rfl ey7
  clear ey7
  refine lv_aload_n F.1 F.2.1 dX11_putNote_14 rfl (lv_at hl 1 rfl) ?_
  refine gf11_141 F hx1 hr dX11_putNote_15 ?_
  replace h := zd_some h
  obtain ⟨a8, rfl, h⟩ := h
  refine pf11_535 F (hy7 _ rfl) hr dX11_putNote_18 (zgI z4 8 4 x1) (fun H locs z9 ez9 hr => ?_)
  replace h := zl_sub ez9 h
  clear ez9
  refine lv_aload_n F.1 F.2.1 dX11_putNote_21 rfl (lv_at hl 0 rfl) ?_
  refine gf11_35 F hx0 hr dX11_putNote_22 (fun y10 ey10 => ?_)
  replace h := zl_sub ey10 h
  have hy10 := zal_g hr hx0 (j := 14) rfl ey10
  clear ey10
  refine lv_iload F.1 F.2.1 dX11_putNote_25 (lv_at hl 4 rfl) ?_
  replace h := zd_some h
  obtain ⟨a11, rfl, h⟩ := h
  refine pf11_538 F (hy10 _ rfl) hr dX11_putNote_27 x4 (fun H locs z12 ez12 hr => ?_)
  replace h := zl_sub ez12 h
  clear ez12
  refine lv_aload_n F.1 F.2.1 dX11_putNote_30 rfl (lv_at hl 0 rfl) ?_
  refine lv_aload_n F.1 F.2.1 dX11_putNote_31 rfl (lv_at hl 1 rfl) ?_
  refine lv_iload_n F.1 F.2.1 dX11_putNote_32 rfl (lv_at hl 2 rfl) ?_
  refine lv_aload_n F.1 F.2.1 dX11_putNote_33 rfl (lv_at hl 0 rfl) ?_
  refine gf11_35 F hx0 hr dX11_putNote_34 (fun y13 ey13 => ?_)
  replace h := zl_sub ey13 h
  have hy13 := zal_g hr hx0 (j := 14) rfl ey13
  clear ey13
  refine lv_iconst (v := (0 : Int32)) F.1 F.2.1 dX11_putNote_37 (by decide) ?_
  refine lv_aload_n F.1 F.2.1 dX11_putNote_38 rfl (lv_at hl 0 rfl) ?_
  refine gf11_35 F hx0 hr dX11_putNote_39 (fun y14 ey14 => ?_)
  replace h := zl_sub ey14 h
  have hy14 := zal_g hr hx0 (j := 14) rfl ey14
  clear ey14
  replace h := zd_some h
  obtain ⟨a15, rfl, h⟩ := h
  refine gf11_528 F (hy14 _ rfl) hr dX11_putNote_42 ?_
  replace h := zd_some h
  obtain ⟨a16, rfl, h⟩ := h
  replace h := zc_some h
  obtain ⟨r17, z18, hc19, h⟩ := h
  refine zr_callv (zrun_V (As := [.ref (B 8 x1), .int x2, .ref (B 7 a16), .int (0 : Int32), .int (zgI z12 7 6 a15)]) (rest := []) zq_1063 zq_1065 zs_X11_putFrame zq_1066 zq_1 hdX11_putFrame (by decide) (T := TX11) (N := 21) rfl (okX11_putFrame l D cy B ids hst N x0 hx0 x1 hx1 x2  a16 (hy13 _ rfl) (0 : Int32)  (zgI z12 7 6 a15)  hr.2.2 hc19) F hr hx0 hl.1 rfl (by decide) dX11_putNote_45 rfl rfl hroX11_putNote_X11_putFrame ⟨Nat.zero_le _, Nat.zero_le _⟩) F hA hr (fun H locs hw20 hr => ?_)
  clear hc19
  obtain ⟨rfl, rfl⟩ := zret h
  exact E _ _ _ _ dX11_putNote_48 trivial hr
end SX11_putNote
set_option maxRecDepth 100000 in
theorem okX11_putNote (l : Launch) (D : va_G) (cy : Nat → ClassId) (B : Nat → Nat → Nat) (ids : List (Nat × Nat)) (hst : zSt B ids) (N : Nat) (x0 : Nat) (hx0 : (11, x0) ∈ ids) (x1 : Nat) (hx1 : (8, x1) ∈ ids) (x2 : Int32) (x3 : Int32) (x4 : Int32) {z : St} {r : Int32} {z' : St} (hW : zWf ids z) (h : fX11_putNote N x0 x1 x2 x3 x4 z = some (r, z')) : zM l yX11_putNote (zws yX11_putNote cX11_putNote 5 none) rmX11_putNote D cy B ids [.ref (B 11 x0), .ref (B 8 x1), .int x2, .int x3, .int x4] none True z z' :=
  zM_of hst hW (by decide +kernel) (Nat.le_of_ble_eq_true rfl) (fun p e s m args below meth c A ls F hA hret hlocks hr hl => bX11_putNote_0 hst F hA (zEnd_v F hret hlocks) x0 x1 x2 x3 x4 hx0 hx1 hr hl h)
abbrev rmX11_hand : Room := { frames := 4, cells := 0, slots := 0, locals := 140 }
theorem hdX11_hand : yX11_hand.cls ≠ "java/lang/invoke/MethodHandle" ∧ yX11_hand.cls ≠ "java/lang/invoke/VarHandle" ∧ (parseMethodDescriptor yX11_hand.desc).map (fun d => d.parameters.length) = some 3 := by decide +kernel
theorem hroX11_hand_X11_putNote : rmX11_putNote.frames + 1 ≤ rmX11_hand.frames ∧ 8 + (5 + 11) + rmX11_putNote.locals ≤ rmX11_hand.locals := by decide
theorem hroX11_hand_X11_putOn : rmX11_putOn.frames + 1 ≤ rmX11_hand.frames ∧ 8 + (7 + 11) + rmX11_putOn.locals ≤ rmX11_hand.locals := by decide
theorem hroX11_hand_X11_stir : rmX11_stir.frames + 1 ≤ rmX11_hand.frames ∧ 8 + (1 + 11) + rmX11_stir.locals ≤ rmX11_hand.locals := by decide
theorem hroX11_hand_X5_addressOf : rmX5_addressOf.frames + 1 ≤ rmX11_hand.frames ∧ 8 + (2 + 11) + rmX5_addressOf.locals ≤ rmX11_hand.locals := by decide
theorem hroX11_hand_X8_beginAsking : rmX8_beginAsking.frames + 1 ≤ rmX11_hand.frames ∧ 8 + (3 + 11) + rmX8_beginAsking.locals ≤ rmX11_hand.locals := by decide
theorem hroX11_hand_X8_endAsking : rmX8_endAsking.frames + 1 ≤ rmX11_hand.frames ∧ 8 + (4 + 11) + rmX8_endAsking.locals ≤ rmX11_hand.locals := by decide
theorem hroX11_hand_X8_firstWaitingFor : rmX8_firstWaitingFor.frames + 1 ≤ rmX11_hand.frames ∧ 8 + (3 + 11) + rmX8_firstWaitingFor.locals ≤ rmX11_hand.locals := by decide
theorem hroX11_hand_X8_isAsked : rmX8_isAsked.frames + 1 ≤ rmX11_hand.frames ∧ 8 + (2 + 11) + rmX8_isAsked.locals ≤ rmX11_hand.locals := by decide
theorem hroX11_hand_X8_knows : rmX8_knows.frames + 1 ≤ rmX11_hand.frames ∧ 8 + (3 + 11) + rmX8_knows.locals ≤ rmX11_hand.locals := by decide
theorem hroX11_hand_X8_letWait : rmX8_letWait.frames + 1 ≤ rmX11_hand.frames ∧ 8 + (4 + 11) + rmX8_letWait.locals ≤ rmX11_hand.locals := by decide
theorem hroX11_hand_X8_takeWaiting : rmX8_takeWaiting.frames + 1 ≤ rmX11_hand.frames ∧ 8 + (4 + 11) + rmX8_takeWaiting.locals ≤ rmX11_hand.locals := by decide
section SX11_hand
variable {p : Program} {l : Launch} {e : Env} {s : State} {m : MethodId} {args : Array Value} {below : List Frame} {meth : Method} {c : Code} {Q : State → Prop} {D : va_G} {cy : Nat → ClassId} {B : Nat → Nat → Nat} {ids : List (Nat × Nat)} {A : Nat → Prop}
def fX11_hand_95 (N : Nat)  (x0 : Nat) (z : St) : Option (Int32 × St) := zc (fX11_stir N x0 z) fun _ z2 => some (0, z2)
set_option maxHeartbeats 4000000 in
set_option maxRecDepth 100000 in
theorem bX11_hand_95 (hst : zSt B ids) (F : zFx p m c cX11_hand 5 s args RX11 D cy B ids A) (hA : ∀ q : Nat, s.heap.size ≤ q → A q) {r : Int32} {z' : St} (E : zEnd p l e rmX11_hand s m args below meth c cX11_hand D cy B ids A Q none z' .return_ True) {N : Nat}  (x0 : Nat) (hx0 : (11, x0) ∈ ids) {z : St} {H : Heap} {locs : List Loc} {ls : Array Slot} (hr : zRep D cy B ids A s.heap z H locs) (hl : lv_has ls 5 [(0, .ref (B 11 x0))]) (h : fX11_hand_95 N x0 z = some (r, z')) : W p l e rmX11_hand s m args below meth c H locs 0 0 Q (F0 m 95 ls []) := by
  unfold fX11_hand_95 at h
  refine lv_aload_n F.1 F.2.1 dX11_hand_95 rfl (lv_at hl 0 rfl) ?_
  replace h := zc_some h
  obtain ⟨r1, z2, hc3, h⟩ := h
  refine zr_callv (zrun_V (As := []) (rest := []) zq_858 zq_860 zs_X11_stir zq_861 zq_1 hdX11_stir (by decide) (T := TX11) (N := 21) rfl (okX11_stir l D cy B ids hst N x0 hx0 hr.2.2 hc3) F hr hx0 hl.1 rfl (by decide) dX11_hand_96 rfl rfl hroX11_hand_X11_stir ⟨Nat.zero_le _, Nat.zero_le _⟩) F hA hr (fun H locs hw4 hr => ?_)
  clear hc3
  obtain ⟨rfl, rfl⟩ := zret h
  exact E _ _ _ _ dX11_hand_99 trivial hr
def fX11_hand_52 (N : Nat)  (x0 : Nat) (x1 : Nat) (x2 : Int32) (x3 : Nat) (z : St) : Option (Int32 × St) := zc (fX8_letWait N x1 x3 x2 z) fun _ z2 => if (zgI z2 8 12 x1) ≤ (16 : Int32) then (some (0, z2)) else (zc (fX8_takeWaiting N x1 (0 : Int32) z2) fun r6 z7 => zd r6 fun a10 => zc (fX8_firstWaitingFor N x1 (zgI z7 7 11 a10) z7) fun r11 z12 => if 0 ≤ r11 then (fX11_hand_95 N x0 z12) else (zc (fX8_endAsking N x1 (zgI z12 7 11 a10) z12) fun _ z17 => fX11_hand_95 N x0 z17))
set_option maxHeartbeats 4000000 in
set_option maxRecDepth 100000 in
theorem bX11_hand_52 (hst : zSt B ids) (F : zFx p m c cX11_hand 5 s args RX11 D cy B ids A) (hA : ∀ q : Nat, s.heap.size ≤ q → A q) {r : Int32} {z' : St} (E : zEnd p l e rmX11_hand s m args below meth c cX11_hand D cy B ids A Q none z' .return_ True) {N : Nat}  (x0 : Nat) (x1 : Nat) (x2 : Int32) (x3 : Nat) (hx0 : (11, x0) ∈ ids) (hx1 : (8, x1) ∈ ids) (hx3 : (7, x3) ∈ ids) {z : St} {H : Heap} {locs : List Loc} {ls : Array Slot} (hr : zRep D cy B ids A s.heap z H locs) (hl : lv_has ls 5 [(0, .ref (B 11 x0)), (1, .ref (B 8 x1)), (2, .int x2), (3, .ref (B 7 x3))]) (h : fX11_hand_52 N x0 x1 x2 x3 z = some (r, z')) : W p l e rmX11_hand s m args below meth c H locs 0 0 Q (F0 m 52 ls []) := by
  unfold fX11_hand_52 at h
  refine lv_aload_n F.1 F.2.1 dX11_hand_52 rfl (lv_at hl 1 rfl) ?_
  refine lv_aload_n F.1 F.2.1 dX11_hand_53 rfl (lv_at hl 3 rfl) ?_
  refine lv_iload_n F.1 F.2.1 dX11_hand_54 rfl (lv_at hl 2 rfl) ?_
  replace h := zc_some h
  obtain ⟨r1, z2, hc3, h⟩ := h
  refine zr_callv (zrun_VN (As := [.ref (B 7 x3), .int x2]) (rest := []) zn_1448 zq_1450 zs_X8_letWait zq_1451 zq_24 hdX8_letWait (by decide) (T := TX8) (N := 13) rfl (okX8_letWait l D cy B ids hst N x1 hx1 x3 hx3 x2  hr.2.2 hc3) F hr hx1 hl.1 rfl (by decide) dX11_hand_55 rfl rfl hroX11_hand_X8_letWait ⟨Nat.zero_le _, Nat.zero_le _⟩) F hA hr (fun H locs hw4 hr => ?_)
  clear hc3
  refine lv_aload_n F.1 F.2.1 dX11_hand_58 rfl (lv_at hl 1 rfl) ?_
  refine gf11_565 F hx1 hr dX11_hand_59 ?_
  refine lv_bipush (v := (16 : Int32)) F.1 F.2.1 dX11_hand_62 (by decide) ?_
  refine lv_icmp_le (tgt := 99) F.1 F.2.1 dX11_hand_64 (by decide) (fun c5 => ?_) (fun c5 => ?_)
  · replace h := zi_t c5 h
    obtain ⟨rfl, rfl⟩ := zret h
    exact E _ _ _ _ dX11_hand_99 trivial hr
  · replace h := zi_f c5 h
    refine lv_aload_n F.1 F.2.1 dX11_hand_67 rfl (lv_at hl 1 rfl) ?_
    refine lv_iconst (v := (0 : Int32)) F.1 F.2.1 dX11_hand_68 (by decide) ?_
    replace h := zc_some h
    obtain ⟨r6, z7, hc8, h⟩ := h
    refine zr_callr (zrun_VN (As := [.int (0 : Int32)]) (rest := []) zn_1055 zq_1057 zs_X8_takeWaiting zq_1058 zq_24 hdX8_takeWaiting (by decide) (T := TX8) (N := 13) rfl (okX8_takeWaiting l D cy B ids hst N x1 hx1 (0 : Int32)  hr.2.2 hc8) F hr hx1 hl.1 rfl (by decide) dX11_hand_69 rfl rfl hroX11_hand_X8_takeWaiting ⟨Nat.zero_le _, Nat.zero_le _⟩) F hA hr (fun H locs hw9 hr => ?_)
    clear hc8
    refine zr_astore (lv' := [(4, va_rf (Option.map (B 7) r6)), (0, .ref (B 11 x0)), (1, .ref (B 8 x1)), (2, .int x2), (3, .ref (B 7 x3))]) F.1 F.2.1 dX11_hand_72 hl (by decide) rfl (fun ls hl => ?_)
    refine lv_aload_n F.1 F.2.1 dX11_hand_74 rfl (lv_at hl 2 rfl) ?_
    refine zr_aload F.1 F.2.1 dX11_hand_75 (lv_at hl 0 rfl) ?_
    replace h := zd_some h
    obtain ⟨a10, rfl, h⟩ := h
    refine gf11_525 F (hw9 _ rfl) hr dX11_hand_77 ?_
    replace h := zc_some h
    obtain ⟨r11, z12, hc13, h⟩ := h
    refine zr_calli (zrun_VN (As := [.int (zgI z7 7 11 a10)]) (rest := []) zn_1051 zq_1053 zs_X8_firstWaitingFor zq_1054 zq_24 hdX8_firstWaitingFor (by decide) (T := TX8) (N := 13) rfl (okX8_firstWaitingFor l D cy B ids hst N x1 hx1 (zgI z7 7 11 a10)  hr.2.2 hc13) F hr hx1 hl.1 rfl (by decide) dX11_hand_80 rfl rfl hroX11_hand_X8_firstWaitingFor ⟨Nat.zero_le _, Nat.zero_le _⟩) F hA hr (fun H locs hw14 hr => ?_)
    clear hc13
    refine lv_if_ge (tgt := 95) F.1 F.2.1 dX11_hand_83 (by decide) (fun c15 => ?_) (fun c15 => ?_)
    · replace h := zi_t c15 h
      exact bX11_hand_95 hst F hA E  x0 hx0 hr (lv_sub hl [1] rfl) h
    · replace h := zi_f c15 h
      refine lv_aload_n F.1 F.2.1 dX11_hand_86 rfl (lv_at hl 2 rfl) ?_
      refine lv_aload F.1 F.2.1 dX11_hand_87 (lv_at hl 0 rfl) ?_
      refine gf11_525 F (hw9 _ rfl) hr dX11_hand_89 ?_
      replace h := zc_some h
      obtain ⟨r16, z17, hc18, h⟩ := h
      refine zr_callv (zrun_VN (As := [.int (zgI z12 7 11 a10)]) (rest := []) zn_1078 zq_1080 zs_X8_endAsking zq_1081 zq_24 hdX8_endAsking (by decide) (T := TX8) (N := 13) rfl (okX8_endAsking l D cy B ids hst N x1 hx1 (zgI z12 7 11 a10)  hr.2.2 hc18) F hr hx1 hl.1 rfl (by decide) dX11_hand_92 rfl rfl hroX11_hand_X8_endAsking ⟨Nat.zero_le _, Nat.zero_le _⟩) F hA hr (fun H locs hw19 hr => ?_)
      clear hc18
      exact bX11_hand_95 hst F hA E  x0 hx0 hr (lv_sub hl [1] rfl) h
def fX11_hand (N : Nat)  (x0 : Nat) (x1 : Nat) (x2 : Int32) (x3 : Nat) (z : St) : Option (Int32 × St) := zc (fX8_knows N x1 x2 (zgI z 11 4 x0) z) fun r1 z2 => if r1 = 0 then (zc (fX8_isAsked N x1 x2 z2) fun r6 z7 => if ¬ r6 = 0 then (fX11_hand_52 N x0 x1 x2 x3 z7) else (zc (fX8_beginAsking N x1 x2 (zgI z7 11 4 x0) z7) fun _ z12 => zl (zgR z12 8 1 x1) fun y15 => zd y15 fun a16 => zc (fX5_addressOf N a16 x2 z12) fun r17 z18 => zc (fX11_putNote N x0 x1 (-1 : Int32) (5 : Int32) r17 z18) fun _ z22 => fX11_hand_52 N x0 x1 x2 x3 z22)) else (zc (fX11_putOn N x0 x1 x2 x3 z2) fun _ z26 => some (0, z26))
set_option maxHeartbeats 4000000 in
set_option maxRecDepth 100000 in
theorem bX11_hand_0 (hst : zSt B ids) (F : zFx p m c cX11_hand 5 s args RX11 D cy B ids A) (hA : ∀ q : Nat, s.heap.size ≤ q → A q) {r : Int32} {z' : St} (E : zEnd p l e rmX11_hand s m args below meth c cX11_hand D cy B ids A Q none z' .return_ True) {N : Nat}  (x0 : Nat) (x1 : Nat) (x2 : Int32) (x3 : Nat) (hx0 : (11, x0) ∈ ids) (hx1 : (8, x1) ∈ ids) (hx3 : (7, x3) ∈ ids) {z : St} {H : Heap} {locs : List Loc} {ls : Array Slot} (hr : zRep D cy B ids A s.heap z H locs) (hl : lv_has ls 5 [(0, .ref (B 11 x0)), (1, .ref (B 8 x1)), (2, .int x2), (3, .ref (B 7 x3))]) (h : fX11_hand N x0 x1 x2 x3 z = some (r, z')) : W p l e rmX11_hand s m args below meth c H locs 0 0 Q (F0 m 0 ls []) := by
  unfold fX11_hand at h
  refine lv_aload_n F.1 F.2.1 dX11_hand_0 rfl (lv_at hl 1 rfl) ?_
  refine lv_iload_n F.1 F.2.1 dX11_hand_1 rfl (lv_at hl 2 rfl) ?_
  refine lv_aload_n F.1 F.2.1 dX11_hand_2 rfl (lv_at hl 0 rfl) ?_
  refine gf11_176 F hx0 hr dX11_hand_3 ?_
  replace h := zc_some h
  obtain ⟨r1, z2, hc3, h⟩ := h
  refine zr_calli (zrun_VN (As := [.int x2, .int (zgI z 11 4 x0)]) (rest := []) zn_1435 zq_1437 zs_X8_knows zq_1438 zq_24 hdX8_knows (by decide) (T := TX8) (N := 13) rfl (okX8_knows l D cy B ids hst N x1 hx1 x2  (zgI z 11 4 x0)  hr.2.2 hc3) F hr hx1 hl.1 rfl (by decide) dX11_hand_6 rfl rfl hroX11_hand_X8_knows ⟨Nat.zero_le _, Nat.zero_le _⟩) F hA hr (fun H locs hw4 hr => ?_)
  clear hc3
  refine lv_if_eq (tgt := 20) F.1 F.2.1 dX11_hand_9 (by decide) (fun c5 => ?_) (fun c5 => ?_)
  · replace h := zi_t c5 h
    refine lv_aload_n F.1 F.2.1 dX11_hand_20 rfl (lv_at hl 1 rfl) ?_
    refine lv_iload_n F.1 F.2.1 dX11_hand_21 rfl (lv_at hl 2 rfl) ?_
    replace h := zc_some h
    obtain ⟨r6, z7, hc8, h⟩ := h
    refine zr_calli (zrun_VN (As := [.int x2]) (rest := []) zn_1043 zq_1045 zs_X8_isAsked zq_1046 zq_24 hdX8_isAsked (by decide) (T := TX8) (N := 13) rfl (okX8_isAsked l D cy B ids hst N x1 hx1 x2  hr.2.2 hc8) F hr hx1 hl.1 rfl (by decide) dX11_hand_22 rfl rfl hroX11_hand_X8_isAsked ⟨Nat.zero_le _, Nat.zero_le _⟩) F hA hr (fun H locs hw9 hr => ?_)
    clear hc8
    refine lv_if_ne (tgt := 52) F.1 F.2.1 dX11_hand_25 (by decide) (fun c10 => ?_) (fun c10 => ?_)
    · replace h := zi_t c10 h
      exact bX11_hand_52 hst F hA E  x0 x1 x2 x3 hx0 hx1 hx3 hr (lv_sub hl [0, 1, 2, 3] rfl) h
    · replace h := zi_f (fun q => q c10) h
      refine lv_aload_n F.1 F.2.1 dX11_hand_28 rfl (lv_at hl 1 rfl) ?_
      refine lv_iload_n F.1 F.2.1 dX11_hand_29 rfl (lv_at hl 2 rfl) ?_
      refine lv_aload_n F.1 F.2.1 dX11_hand_30 rfl (lv_at hl 0 rfl) ?_
      refine gf11_176 F hx0 hr dX11_hand_31 ?_
      replace h := zc_some h
      obtain ⟨r11, z12, hc13, h⟩ := h
      refine zr_callv (zrun_VN (As := [.int x2, .int (zgI z7 11 4 x0)]) (rest := []) zn_1439 zq_1441 zs_X8_beginAsking zq_1442 zq_24 hdX8_beginAsking (by decide) (T := TX8) (N := 13) rfl (okX8_beginAsking l D cy B ids hst N x1 hx1 x2  (zgI z7 11 4 x0)  hr.2.2 hc13) F hr hx1 hl.1 rfl (by decide) dX11_hand_34 rfl rfl hroX11_hand_X8_beginAsking ⟨Nat.zero_le _, Nat.zero_le _⟩) F hA hr (fun H locs hw14 hr => ?_)
      clear hc13
      refine lv_aload_n F.1 F.2.1 dX11_hand_37 rfl (lv_at hl 0 rfl) ?_
      refine lv_aload_n F.1 F.2.1 dX11_hand_38 rfl (lv_at hl 1 rfl) ?_
      refine lv_iconst (v := (-1 : Int32)) F.1 F.2.1 dX11_hand_39 (by decide) ?_
      refine lv_iconst (v := (5 : Int32)) F.1 F.2.1 dX11_hand_40 (by decide) ?_
      refine lv_aload_n F.1 F.2.1 dX11_hand_41 rfl (lv_at hl 1 rfl) ?_
      refine gf11_261 F hx1 hr dX11_hand_42 (fun y15 ey15 => ?_)
      replace h := zl_sub ey15 h
      have hy15 := zal_g hr hx1 (j := 1) rfl ey15
      clear ey15
      refine lv_iload_n F.1 F.2.1 dX11_hand_45 rfl (lv_at hl 2 rfl) ?_
      replace h := zd_some h
      obtain ⟨a16, rfl, h⟩ := h
      replace h := zc_some h
      obtain ⟨r17, z18, hc19, h⟩ := h
      refine zr_calli (zrun_VN (As := [.int x2]) (rest := [.int (5 : Int32), .int (-1 : Int32), .ref (B 8 x1), .ref (B 11 x0)]) zn_1443 zq_1445 zs_X5_addressOf zq_1446 zq_3 hdX5_addressOf (by decide) (T := TX5) (N := 11) rfl (okX5_addressOf l D cy B ids hst N a16 (hy15 _ rfl) x2  hr.2.2 hc19) F hr (hy15 _ rfl) hl.1 rfl (Nat.le_of_ble_eq_true rfl) dX11_hand_46 rfl rfl hroX11_hand_X5_addressOf ⟨Nat.zero_le _, Nat.zero_le _⟩) F hA hr (fun H locs hw20 hr => ?_)
      clear hc19
      replace h := zc_some h
      obtain ⟨r21, z22, hc23, h⟩ := h
      refine zr_callv (zrun_V (As := [.ref (B 8 x1), .int (-1 : Int32), .int (5 : Int32), .int r17]) (rest := []) zq_1082 zq_1084 zs_X11_putNote zq_1085 zq_1 hdX11_putNote (by decide) (T := TX11) (N := 21) rfl (okX11_putNote l D cy B ids hst N x0 hx0 x1 hx1 (-1 : Int32)  (5 : Int32)  r17  hr.2.2 hc23) F hr hx0 hl.1 rfl (by decide) dX11_hand_49 rfl rfl hroX11_hand_X11_putNote ⟨Nat.zero_le _, Nat.zero_le _⟩) F hA hr (fun H locs hw24 hr => ?_)
      clear hc23
      exact bX11_hand_52 hst F hA E  x0 x1 x2 x3 hx0 hx1 hx3 hr (lv_sub hl [0, 1, 2, 3] rfl) h
  · replace h := zi_f c5 h
    refine lv_aload_n F.1 F.2.1 dX11_hand_12 rfl (lv_at hl 0 rfl) ?_
    refine lv_aload_n F.1 F.2.1 dX11_hand_13 rfl (lv_at hl 1 rfl) ?_
    refine lv_iload_n F.1 F.2.1 dX11_hand_14 rfl (lv_at hl 2 rfl) ?_
    refine lv_aload_n F.1 F.2.1 dX11_hand_15 rfl (lv_at hl 3 rfl) ?_
    replace h := zc_some h
    obtain ⟨r25, z26, hc27, h⟩ := h
    refine zr_callv (zrun_V (As := [.ref (B 8 x1), .int x2, .ref (B 7 x3)]) (rest := []) zq_1059 zq_1061 zs_X11_putOn zq_1062 zq_1 hdX11_putOn (by decide) (T := TX11) (N := 21) rfl (okX11_putOn l D cy B ids hst N x0 hx0 x1 hx1 x2  x3 hx3 hr.2.2 hc27) F hr hx0 hl.1 rfl (by decide) dX11_hand_16 rfl rfl hroX11_hand_X11_putOn ⟨Nat.zero_le _, Nat.zero_le _⟩) F hA hr (fun H locs hw28 hr => ?_)
    clear hc27
    obtain ⟨rfl, rfl⟩ := zret h
    exact E _ _ _ _ dX11_hand_19 trivial hr
end SX11_hand
set_option maxRecDepth 100000 in
theorem okX11_hand (l : Launch) (D : va_G) (cy : Nat → ClassId) (B : Nat → Nat → Nat) (ids : List (Nat × Nat)) (hst : zSt B ids) (N : Nat) (x0 : Nat) (hx0 : (11, x0) ∈ ids) (x1 : Nat) (hx1 : (8, x1) ∈ ids) (x2 : Int32) (x3 : Nat) (hx3 : (7, x3) ∈ ids) {z : St} {r : Int32} {z' : St} (hW : zWf ids z) (h : fX11_hand N x0 x1 x2 x3 z = some (r, z')) : zM l yX11_hand (zws yX11_hand cX11_hand 5 none) rmX11_hand D cy B ids [.ref (B 11 x0), .ref (B 8 x1), .int x2, .ref (B 7 x3)] none True z z' :=
  zM_of hst hW (by decide +kernel) (Nat.le_of_ble_eq_true rfl) (fun p e s m args below meth c A ls F hA hret hlocks hr hl => bX11_hand_0 hst F hA (zEnd_v F hret hlocks) x0 x1 x2 x3 hx0 hx1 hx3 hr hl h)
