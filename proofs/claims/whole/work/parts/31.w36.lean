abbrev rmX19_isNet : Room := { frames := 0, cells := 0, slots := 0, locals := 0 }
theorem hdX19_isNet : yX19_isNet.cls ≠ "java/lang/invoke/MethodHandle" ∧ yX19_isNet.cls ≠ "java/lang/invoke/VarHandle" ∧ (parseMethodDescriptor yX19_isNet.desc).map (fun d => d.parameters.length) = some 1 := by decide +kernel
section SX19_isNet
variable {p : Program} {l : Launch} {e : Env} {s : State} {m : MethodId} {args : Array Value} {below : List Frame} {meth : Method} {c : Code} {Q : State → Prop} {D : va_G} {cy : Nat → ClassId} {B : Nat → Nat → Nat} {ids : List (Nat × Nat)} {A : Nat → Prop}
def fX19_isNet (N : Nat)  (x0 : Nat) (x1 : Int32) (z : St) : Option (Int32 × St) := if x1 < 0 then (some ((0 : Int32), z)) else (if (zgI z 19 21 x0) ≤ x1 then (some ((0 : Int32), z)) else (some ((1 : Int32), z)))
set_option maxHeartbeats 4000000 in
set_option maxRecDepth 100000 in
theorem bX19_isNet_0 (hst : zSt B ids) (F : zFx p m c cX19_isNet 2 s args RX19 D cy B ids A) (hA : ∀ q : Nat, s.heap.size ≤ q → A q) {r : Int32} {z' : St} (E : zEnd p l e rmX19_isNet s m args below meth c cX19_isNet D cy B ids A Q (some (.int r)) z' .ireturn (r = 0 ∨ r = 1)) {N : Nat}  (x0 : Nat) (x1 : Int32) (hx0 : (19, x0) ∈ ids) {z : St} {H : Heap} {locs : List Loc} {ls : Array Slot} (hr : zRep D cy B ids A s.heap z H locs) (hl : lv_has ls 2 [(0, .ref (B 19 x0)), (1, .int x1)]) (h : fX19_isNet N x0 x1 z = some (r, z')) : W p l e rmX19_isNet s m args below meth c H locs 0 0 Q (F0 m 0 ls []) := by
  unfold fX19_isNet at h
  refine lv_iload_n F.1 F.2.1 dX19_isNet_0 rfl (lv_at hl 1 rfl) ?_
  refine lv_if_lt (tgt := 16) F.1 F.2.1 dX19_isNet_1 (by decide) (fun c1 => ?_) (fun c1 => ?_)
  · replace h := zi_t c1 h
    refine lv_iconst (v := (0 : Int32)) F.1 F.2.1 dX19_isNet_16 (by decide) ?_
    obtain ⟨rfl, rfl⟩ := zret h
    exact E _ _ _ _ dX19_isNet_17 (by decide) hr
  · replace h := zi_f c1 h
    refine lv_iload_n F.1 F.2.1 dX19_isNet_4 rfl (lv_at hl 1 rfl) ?_
    refine lv_aload_n F.1 F.2.1 dX19_isNet_5 rfl (lv_at hl 0 rfl) ?_
    refine gf19_270 F hx0 hr dX19_isNet_6 ?_
    refine lv_icmp_ge (tgt := 16) F.1 F.2.1 dX19_isNet_9 (by decide) (fun c2 => ?_) (fun c2 => ?_)
    · replace h := zi_t c2 h
      refine lv_iconst (v := (0 : Int32)) F.1 F.2.1 dX19_isNet_16 (by decide) ?_
      obtain ⟨rfl, rfl⟩ := zret h
      exact E _ _ _ _ dX19_isNet_17 (by decide) hr
    · replace h := zi_f c2 h
      refine lv_iconst (v := (1 : Int32)) F.1 F.2.1 dX19_isNet_12 (by decide) ?_
      refine lv_goto (tgt := 17) F.1 F.2.1 dX19_isNet_13 (by decide) ?_
      obtain ⟨rfl, rfl⟩ := zret h
      exact E _ _ _ _ dX19_isNet_17 (by decide) hr
end SX19_isNet
set_option maxRecDepth 100000 in
theorem okX19_isNet (l : Launch) (D : va_G) (cy : Nat → ClassId) (B : Nat → Nat → Nat) (ids : List (Nat × Nat)) (hst : zSt B ids) (N : Nat) (x0 : Nat) (hx0 : (19, x0) ∈ ids) (x1 : Int32) {z : St} {r : Int32} {z' : St} (hW : zWf ids z) (h : fX19_isNet N x0 x1 z = some (r, z')) : zM l yX19_isNet (zws yX19_isNet cX19_isNet 2 (some .boolean)) rmX19_isNet D cy B ids [.ref (B 19 x0), .int x1] (some (.int r)) (r = 0 ∨ r = 1) z z' :=
  zM_of hst hW (by decide +kernel) (Nat.le_of_ble_eq_true rfl) (fun p e s m args below meth c A ls F hA hret hlocks hr hl => bX19_isNet_0 hst F hA (zEnd_z F hret hlocks) x0 x1 hx0 hr hl h)
abbrev rmX19_isDoor : Room := { frames := 2, cells := 0, slots := 0, locals := 42 }
theorem hdX19_isDoor : yX19_isDoor.cls ≠ "java/lang/invoke/MethodHandle" ∧ yX19_isDoor.cls ≠ "java/lang/invoke/VarHandle" ∧ (parseMethodDescriptor yX19_isDoor.desc).map (fun d => d.parameters.length) = some 2 := by decide +kernel
theorem hroX19_isDoor_X19_isHost : rmX19_isHost.frames + 1 ≤ rmX19_isDoor.frames ∧ 8 + (2 + 11) + rmX19_isHost.locals ≤ rmX19_isDoor.locals := by decide
section SX19_isDoor
variable {p : Program} {l : Launch} {e : Env} {s : State} {m : MethodId} {args : Array Value} {below : List Frame} {meth : Method} {c : Code} {Q : State → Prop} {D : va_G} {cy : Nat → ClassId} {B : Nat → Nat → Nat} {ids : List (Nat × Nat)} {A : Nat → Prop}
def fX19_isDoor (N : Nat)  (x0 : Nat) (x1 : Int32) (x2 : Int32) (z : St) : Option (Int32 × St) := zc (fX19_isHost N x0 x1 z) fun r1 z2 => if r1 = 0 then (some ((0 : Int32), z2)) else (if x2 < 0 then (some ((0 : Int32), z2)) else (if (6 : Int32) ≤ x2 then (some ((0 : Int32), z2)) else (some ((1 : Int32), z2))))
set_option maxHeartbeats 4000000 in
set_option maxRecDepth 100000 in
theorem bX19_isDoor_0 (hst : zSt B ids) (F : zFx p m c cX19_isDoor 3 s args RX19 D cy B ids A) (hA : ∀ q : Nat, s.heap.size ≤ q → A q) {r : Int32} {z' : St} (E : zEnd p l e rmX19_isDoor s m args below meth c cX19_isDoor D cy B ids A Q (some (.int r)) z' .ireturn (r = 0 ∨ r = 1)) {N : Nat}  (x0 : Nat) (x1 : Int32) (x2 : Int32) (hx0 : (19, x0) ∈ ids) {z : St} {H : Heap} {locs : List Loc} {ls : Array Slot} (hr : zRep D cy B ids A s.heap z H locs) (hl : lv_has ls 3 [(0, .ref (B 19 x0)), (1, .int x1), (2, .int x2)]) (h : fX19_isDoor N x0 x1 x2 z = some (r, z')) : W p l e rmX19_isDoor s m args below meth c H locs 0 0 Q (F0 m 0 ls []) := by
  unfold fX19_isDoor at h
  refine lv_aload_n F.1 F.2.1 dX19_isDoor_0 rfl (lv_at hl 0 rfl) ?_
  refine lv_iload_n F.1 F.2.1 dX19_isDoor_1 rfl (lv_at hl 1 rfl) ?_
  replace h := zc_some h
  obtain ⟨r1, z2, hc3, h⟩ := h
  refine zr_calli (zrun_V (As := [.int x1]) (rest := []) zq_2998 zq_3000 zs_X19_isHost zq_3001 zq_4 hdX19_isHost (by decide) (T := TX19) (N := 32) rfl (okX19_isHost l D cy B ids hst N x0 hx0 x1  hr.2.2 hc3) F hr hx0 hl.1 rfl (by decide) dX19_isDoor_2 rfl rfl hroX19_isDoor_X19_isHost ⟨Nat.zero_le _, Nat.zero_le _⟩) F hA hr (fun H locs hw4 hr => ?_)
  clear hc3
  refine lv_if_eq (tgt := 22) F.1 F.2.1 dX19_isDoor_5 (by decide) (fun c5 => ?_) (fun c5 => ?_)
  · replace h := zi_t c5 h
    refine lv_iconst (v := (0 : Int32)) F.1 F.2.1 dX19_isDoor_22 (by decide) ?_
    obtain ⟨rfl, rfl⟩ := zret h
    exact E _ _ _ _ dX19_isDoor_23 (by decide) hr
  · replace h := zi_f c5 h
    refine lv_iload_n F.1 F.2.1 dX19_isDoor_8 rfl (lv_at hl 2 rfl) ?_
    refine lv_if_lt (tgt := 22) F.1 F.2.1 dX19_isDoor_9 (by decide) (fun c6 => ?_) (fun c6 => ?_)
    · replace h := zi_t c6 h
      refine lv_iconst (v := (0 : Int32)) F.1 F.2.1 dX19_isDoor_22 (by decide) ?_
      obtain ⟨rfl, rfl⟩ := zret h
      exact E _ _ _ _ dX19_isDoor_23 (by decide) hr
    · replace h := zi_f c6 h
      refine lv_iload_n F.1 F.2.1 dX19_isDoor_12 rfl (lv_at hl 2 rfl) ?_
      refine lv_bipush (v := (6 : Int32)) F.1 F.2.1 dX19_isDoor_13 (by decide) ?_
      refine lv_icmp_ge (tgt := 22) F.1 F.2.1 dX19_isDoor_15 (by decide) (fun c7 => ?_) (fun c7 => ?_)
      · replace h := zi_t c7 h
        refine lv_iconst (v := (0 : Int32)) F.1 F.2.1 dX19_isDoor_22 (by decide) ?_
        obtain ⟨rfl, rfl⟩ := zret h
        exact E _ _ _ _ dX19_isDoor_23 (by decide) hr
      · replace h := zi_f c7 h
        refine lv_iconst (v := (1 : Int32)) F.1 F.2.1 dX19_isDoor_18 (by decide) ?_
        refine lv_goto (tgt := 23) F.1 F.2.1 dX19_isDoor_19 (by decide) ?_
        obtain ⟨rfl, rfl⟩ := zret h
        exact E _ _ _ _ dX19_isDoor_23 (by decide) hr
end SX19_isDoor
set_option maxRecDepth 100000 in
theorem okX19_isDoor (l : Launch) (D : va_G) (cy : Nat → ClassId) (B : Nat → Nat → Nat) (ids : List (Nat × Nat)) (hst : zSt B ids) (N : Nat) (x0 : Nat) (hx0 : (19, x0) ∈ ids) (x1 : Int32) (x2 : Int32) {z : St} {r : Int32} {z' : St} (hW : zWf ids z) (h : fX19_isDoor N x0 x1 x2 z = some (r, z')) : zM l yX19_isDoor (zws yX19_isDoor cX19_isDoor 3 (some .boolean)) rmX19_isDoor D cy B ids [.ref (B 19 x0), .int x1, .int x2] (some (.int r)) (r = 0 ∨ r = 1) z z' :=
  zM_of hst hW (by decide +kernel) (Nat.le_of_ble_eq_true rfl) (fun p e s m args below meth c A ls F hA hret hlocks hr hl => bX19_isDoor_0 hst F hA (zEnd_z F hret hlocks) x0 x1 x2 hx0 hr hl h)
abbrev rmX19_fails : Room := { frames := 0, cells := 0, slots := 0, locals := 0 }
theorem hdX19_fails : yX19_fails.cls ≠ "java/lang/invoke/MethodHandle" ∧ yX19_fails.cls ≠ "java/lang/invoke/VarHandle" ∧ (parseMethodDescriptor yX19_fails.desc).map (fun d => d.parameters.length) = some 2 := by decide +kernel
section SX19_fails
variable {p : Program} {l : Launch} {e : Env} {s : State} {m : MethodId} {args : Array Value} {below : List Frame} {meth : Method} {c : Code} {Q : State → Prop} {D : va_G} {cy : Nat → ClassId} {B : Nat → Nat → Nat} {ids : List (Nat × Nat)} {A : Nat → Prop}
def fX19_fails_18 (N : Nat)  (x0 : Nat) (s0 : Nat) (s1 : Int32) (z : St) : Option (Int32 × St) := zl (zsI z 19 25 s0 s1) fun z1 => if (zgI z1 19 25 x0) ≤ 0 then (some ((0 : Int32), z1)) else (some ((1 : Int32), z1))
set_option maxHeartbeats 4000000 in
set_option maxRecDepth 100000 in
theorem bX19_fails_18 (hst : zSt B ids) (F : zFx p m c cX19_fails 3 s args RX19 D cy B ids A) (hA : ∀ q : Nat, s.heap.size ≤ q → A q) {r : Int32} {z' : St} (E : zEnd p l e rmX19_fails s m args below meth c cX19_fails D cy B ids A Q (some (.int r)) z' .ireturn (r = 0 ∨ r = 1)) {N : Nat}  (x0 : Nat) (s0 : Nat) (s1 : Int32) (hx0 : (19, x0) ∈ ids) (hs0 : (19, s0) ∈ ids) {z : St} {H : Heap} {locs : List Loc} {ls : Array Slot} (hr : zRep D cy B ids A s.heap z H locs) (hl : lv_has ls 3 [(0, .ref (B 19 x0))]) (h : fX19_fails_18 N x0 s0 s1 z = some (r, z')) : W p l e rmX19_fails s m args below meth c H locs 0 0 Q (F0 m 18 ls [.int s1, .ref (B 19 s0)]) := by
  unfold fX19_fails_18 at h
  refine pf19_140 F hs0 hr dX19_fails_18 s1 (fun H locs z1 ez1 hr => ?_)
  replace h := zl_sub ez1 h
  clear ez1
  refine lv_aload_n F.1 F.2.1 dX19_fails_21 rfl (lv_at hl 0 rfl) ?_
  refine gf19_140 F hx0 hr dX19_fails_22 ?_
  refine lv_if_le (tgt := 32) F.1 F.2.1 dX19_fails_25 (by decide) (fun c2 => ?_) (fun c2 => ?_)
  · replace h := zi_t c2 h
    refine lv_iconst (v := (0 : Int32)) F.1 F.2.1 dX19_fails_32 (by decide) ?_
    obtain ⟨rfl, rfl⟩ := zret h
    exact E _ _ _ _ dX19_fails_33 (by decide) hr
  · replace h := zi_f c2 h
    refine lv_iconst (v := (1 : Int32)) F.1 F.2.1 dX19_fails_28 (by decide) ?_
    refine lv_goto (tgt := 33) F.1 F.2.1 dX19_fails_29 (by decide) ?_
    obtain ⟨rfl, rfl⟩ := zret h
    exact E _ _ _ _ dX19_fails_33 (by decide) hr
def fX19_fails (N : Nat)  (x0 : Nat) (x1 : Int32) (x2 : Int32) (z : St) : Option (Int32 × St) := if x1 = 0 then (if x2 = 0 then (fX19_fails_18 N x0 x0 (0 : Int32) z) else (fX19_fails_18 N x0 x0 (2 : Int32) z)) else (fX19_fails_18 N x0 x0 (1 : Int32) z)
set_option maxHeartbeats 4000000 in
set_option maxRecDepth 100000 in
theorem bX19_fails_0 (hst : zSt B ids) (F : zFx p m c cX19_fails 3 s args RX19 D cy B ids A) (hA : ∀ q : Nat, s.heap.size ≤ q → A q) {r : Int32} {z' : St} (E : zEnd p l e rmX19_fails s m args below meth c cX19_fails D cy B ids A Q (some (.int r)) z' .ireturn (r = 0 ∨ r = 1)) {N : Nat}  (x0 : Nat) (x1 : Int32) (x2 : Int32) (hx0 : (19, x0) ∈ ids) {z : St} {H : Heap} {locs : List Loc} {ls : Array Slot} (hr : zRep D cy B ids A s.heap z H locs) (hl : lv_has ls 3 [(0, .ref (B 19 x0)), (1, .int x1), (2, .int x2)]) (h : fX19_fails N x0 x1 x2 z = some (r, z')) : W p l e rmX19_fails s m args below meth c H locs 0 0 Q (F0 m 0 ls []) := by
  unfold fX19_fails at h
  refine lv_aload_n F.1 F.2.1 dX19_fails_0 rfl (lv_at hl 0 rfl) ?_
  refine lv_iload_n F.1 F.2.1 dX19_fails_1 rfl (lv_at hl 1 rfl) ?_
  refine lv_if_eq (tgt := 9) F.1 F.2.1 dX19_fails_2 (by decide) (fun c1 => ?_) (fun c1 => ?_)
  · replace h := zi_t c1 h
    refine lv_iload_n F.1 F.2.1 dX19_fails_9 rfl (lv_at hl 2 rfl) ?_
    refine lv_if_eq (tgt := 17) F.1 F.2.1 dX19_fails_10 (by decide) (fun c2 => ?_) (fun c2 => ?_)
    · replace h := zi_t c2 h
      refine lv_iconst (v := (0 : Int32)) F.1 F.2.1 dX19_fails_17 (by decide) ?_
      exact bX19_fails_18 hst F hA E  x0 x0 (0 : Int32) hx0 hx0 hr (lv_sub hl [0] rfl) h
    · replace h := zi_f c2 h
      refine lv_iconst (v := (2 : Int32)) F.1 F.2.1 dX19_fails_13 (by decide) ?_
      refine lv_goto (tgt := 18) F.1 F.2.1 dX19_fails_14 (by decide) ?_
      exact bX19_fails_18 hst F hA E  x0 x0 (2 : Int32) hx0 hx0 hr (lv_sub hl [0] rfl) h
  · replace h := zi_f c1 h
    refine lv_iconst (v := (1 : Int32)) F.1 F.2.1 dX19_fails_5 (by decide) ?_
    refine lv_goto (tgt := 18) F.1 F.2.1 dX19_fails_6 (by decide) ?_
    exact bX19_fails_18 hst F hA E  x0 x0 (1 : Int32) hx0 hx0 hr (lv_sub hl [0] rfl) h
end SX19_fails
set_option maxRecDepth 100000 in
theorem okX19_fails (l : Launch) (D : va_G) (cy : Nat → ClassId) (B : Nat → Nat → Nat) (ids : List (Nat × Nat)) (hst : zSt B ids) (N : Nat) (x0 : Nat) (hx0 : (19, x0) ∈ ids) (x1 : Int32) (x2 : Int32) {z : St} {r : Int32} {z' : St} (hW : zWf ids z) (h : fX19_fails N x0 x1 x2 z = some (r, z')) : zM l yX19_fails (zws yX19_fails cX19_fails 3 (some .boolean)) rmX19_fails D cy B ids [.ref (B 19 x0), .int x1, .int x2] (some (.int r)) (r = 0 ∨ r = 1) z z' :=
  zM_of hst hW (by decide +kernel) (Nat.le_of_ble_eq_true rfl) (fun p e s m args below meth c A ls F hA hret hlocks hr hl => bX19_fails_0 hst F hA (zEnd_z F hret hlocks) x0 x1 x2 hx0 hr hl h)
abbrev rmX19_portOn : Room := { frames := 0, cells := 0, slots := 0, locals := 0 }
theorem hdX19_portOn : yX19_portOn.cls ≠ "java/lang/invoke/MethodHandle" ∧ yX19_portOn.cls ≠ "java/lang/invoke/VarHandle" ∧ (parseMethodDescriptor yX19_portOn.desc).map (fun d => d.parameters.length) = some 2 := by decide +kernel
section SX19_portOn
variable {p : Program} {l : Launch} {e : Env} {s : State} {m : MethodId} {args : Array Value} {below : List Frame} {meth : Method} {c : Code} {Q : State → Prop} {D : va_G} {cy : Nat → ClassId} {B : Nat → Nat → Nat} {ids : List (Nat × Nat)} {A : Nat → Prop}
def fX19_portOn_10b (N : Nat) (K10 : Int32 → Option Nat → Int32 → St → Option (Option Nat × St)) (x2 : Int32) (x3 : Option Nat) (x4 : Int32) (z : St) : Option (Option Nat × St) := zd x3 fun a1 => if (zgI z 12 3 a1) ≤ x4 then (some (none, z)) else (zk x4 6 <| zl (zgQ z 147 a1 (Int32.toNatClampNeg x4)) fun y4 => zd y4 fun a5 => zl (zgR z 18 2 a5) fun y6 => zd y6 fun a7 => if ¬ (zgI z 16 0 a7) = x2 then (zl (x4 + 1) fun v9 => K10 x2 (some a1) v9 z) else (zk x4 6 <| zl (zgQ z 147 a1 (Int32.toNatClampNeg x4)) fun y11 => some (y11, z)))
def fX19_portOn_10 (N : Nat)  : Nat → Int32 → Option Nat → Int32 → St → Option (Option Nat × St)
  | 0 => fun _ _ _ _ => none
  | n + 1 => fX19_portOn_10b N (fX19_portOn_10 N  n)
set_option maxHeartbeats 4000000 in
set_option maxRecDepth 100000 in
theorem bX19_portOn_10 (hst : zSt B ids) (F : zFx p m c cX19_portOn 5 s args RX19 D cy B ids A) (hA : ∀ q : Nat, s.heap.size ≤ q → A q) {r : Option Nat} {z' : St} (E : zEnd p l e rmX19_portOn s m args below meth c cX19_portOn D cy B ids A Q (some (va_rf (r.map (B 18)))) z' .areturn (∀ i, r = some i → (18, i) ∈ ids)) {N : Nat} {K10 : Int32 → Option Nat → Int32 → St → Option (Option Nat × St)} (hK10 : ∀ (x2 : Int32) (x3 : Option Nat) (x4 : Int32) (hx3 : ∀ t, x3 = some t → (12, t) ∈ ids) {z : St} {H : Heap} {locs : List Loc} {ls : Array Slot} (hr : zRep D cy B ids A s.heap z H locs) (hl : lv_has ls 5 [(2, .int x2), (3, va_rf (Option.map (B 12) x3)), (4, .int x4)]), K10 x2 x3 x4 z = some (r, z') → W p l e rmX19_portOn s m args below meth c H locs 0 0 Q (F0 m 10 ls [])) (x2 : Int32) (x3 : Option Nat) (x4 : Int32) (hx3 : ∀ t, x3 = some t → (12, t) ∈ ids) {z : St} {H : Heap} {locs : List Loc} {ls : Array Slot} (hr : zRep D cy B ids A s.heap z H locs) (hl : lv_has ls 5 [(2, .int x2), (3, va_rf (Option.map (B 12) x3)), (4, .int x4)]) (h : fX19_portOn_10b N K10 x2 x3 x4 z = some (r, z')) : W p l e rmX19_portOn s m args below meth c H locs 0 0 Q (F0 m 10 ls []) := by
  unfold fX19_portOn_10b at h
  refine lv_iload F.1 F.2.1 dX19_portOn_10 (lv_at hl 2 rfl) ?_
  refine zr_aload_n F.1 F.2.1 dX19_portOn_12 rfl (lv_at hl 1 rfl) ?_
  replace h := zd_some h
  obtain ⟨a1, rfl, h⟩ := h
  refine gf19_273 F (hx3 _ rfl) hr dX19_portOn_13 ?_
  refine lv_icmp_ge (tgt := 50) F.1 F.2.1 dX19_portOn_16 (by decide) (fun c2 => ?_) (fun c2 => ?_)
  · replace h := zi_t c2 h
    refine lv_null F.1 F.2.1 dX19_portOn_50 ?_
    obtain ⟨rfl, rfl⟩ := zret h
    exact E _ _ _ _ dX19_portOn_51 zal_0 hr
  · replace h := zi_f c2 h
    refine lv_aload_n F.1 F.2.1 dX19_portOn_19 rfl (lv_at hl 1 rfl) ?_
    refine gf19_276 F (hx3 _ rfl) hr dX19_portOn_20 ?_
    refine lv_iload F.1 F.2.1 dX19_portOn_23 (lv_at hl 2 rfl) ?_
    replace h := zk_some h
    obtain ⟨c3, h⟩ := h
    refine zr_aaldv (k := 147) (by decide) rfl rfl (zlen_d (by decide)) F (zal_a F (hx3 _ rfl) (j := 2) rfl) hr dX19_portOn_25 c3 (fun y4 ey4 => ?_)
    replace h := zl_sub ey4 h
    have hy4 := zal_q hr (zal_a F (hx3 _ rfl) (j := 2) rfl) rfl ey4
    clear ey4
    replace h := zd_some h
    obtain ⟨a5, rfl, h⟩ := h
    refine gf19_149 F (hy4 _ rfl) hr dX19_portOn_26 (fun y6 ey6 => ?_)
    replace h := zl_sub ey6 h
    have hy6 := zal_g hr (hy4 _ rfl) (j := 2) rfl ey6
    clear ey6
    replace h := zd_some h
    obtain ⟨a7, rfl, h⟩ := h
    refine gf19_181 F (hy6 _ rfl) hr dX19_portOn_29 ?_
    refine lv_iload_n F.1 F.2.1 dX19_portOn_32 rfl (lv_at hl 0 rfl) ?_
    refine lv_icmp_ne (tgt := 44) F.1 F.2.1 dX19_portOn_33 (by decide) (fun c8 => ?_) (fun c8 => ?_)
    · replace h := zi_t c8 h
      obtain ⟨v9, ev9⟩ : ∃ y : Int32, y = (x4 + 1) := ⟨_, rfl⟩
      replace h := zl_sub ev9 h
      refine lv_iinc (v := v9) (lv' := [(4, .int v9), (2, .int x2), (3, .ref (B 12 a1))]) F.1 F.2.1 dX19_portOn_44 hl (k := 2) rfl (by rw [ev9]; rfl) (by decide) rfl (fun ls hl => ?_)
      refine lv_goto (tgt := 10) F.1 F.2.1 dX19_portOn_47 (by decide) ?_
      exact hK10 x2 (some a1) v9 (zal_s (hx3 _ rfl)) hr (lv_sub hl [1, 2, 0] rfl) h
    · replace h := zi_f (fun q => q c8) h
      refine lv_aload_n F.1 F.2.1 dX19_portOn_36 rfl (lv_at hl 1 rfl) ?_
      refine gf19_276 F (hx3 _ rfl) hr dX19_portOn_37 ?_
      refine lv_iload F.1 F.2.1 dX19_portOn_40 (lv_at hl 2 rfl) ?_
      replace h := zk_some h
      obtain ⟨c10, h⟩ := h
      refine zr_aaldv (k := 147) (by decide) rfl rfl (zlen_d (by decide)) F (zal_a F (hx3 _ rfl) (j := 2) rfl) hr dX19_portOn_42 c10 (fun y11 ey11 => ?_)
      replace h := zl_sub ey11 h
      have hy11 := zal_q hr (zal_a F (hx3 _ rfl) (j := 2) rfl) rfl ey11
      clear ey11
      obtain ⟨rfl, rfl⟩ := zret h
      exact E _ _ _ _ dX19_portOn_43 hy11 hr
theorem lX19_portOn_10 (hst : zSt B ids) (F : zFx p m c cX19_portOn 5 s args RX19 D cy B ids A) (hA : ∀ q : Nat, s.heap.size ≤ q → A q) {r : Option Nat} {z' : St} (E : zEnd p l e rmX19_portOn s m args below meth c cX19_portOn D cy B ids A Q (some (va_rf (r.map (B 18)))) z' .areturn (∀ i, r = some i → (18, i) ∈ ids)) {N : Nat}  : ∀ (n : Nat) (x2 : Int32) (x3 : Option Nat) (x4 : Int32) (hx3 : ∀ t, x3 = some t → (12, t) ∈ ids) {z : St} {H : Heap} {locs : List Loc} {ls : Array Slot} (hr : zRep D cy B ids A s.heap z H locs) (hl : lv_has ls 5 [(2, .int x2), (3, va_rf (Option.map (B 12) x3)), (4, .int x4)]), fX19_portOn_10 N  n x2 x3 x4 z = some (r, z') → W p l e rmX19_portOn s m args below meth c H locs 0 0 Q (F0 m 10 ls []) := by
  intro n
  induction n with
  | zero => intro x2 x3 x4 hx3 z H locs ls hr hl h; cases h
  | succ n ih => intro x2 x3 x4 hx3 z H locs ls hr hl h; exact bX19_portOn_10 hst F hA E ih x2 x3 x4 hx3 hr hl h
def fX19_portOn (N : Nat)  (x0 : Nat) (x1 : Int32) (x2 : Int32) (z : St) : Option (Option Nat × St) := zk x1 16 <| zl (zgQ z 186 x0 (Int32.toNatClampNeg x1)) fun y2 => fX19_portOn_10 N N x2 y2 (0 : Int32) z
set_option maxHeartbeats 4000000 in
set_option maxRecDepth 100000 in
theorem bX19_portOn_0 (hst : zSt B ids) (F : zFx p m c cX19_portOn 5 s args RX19 D cy B ids A) (hA : ∀ q : Nat, s.heap.size ≤ q → A q) {r : Option Nat} {z' : St} (E : zEnd p l e rmX19_portOn s m args below meth c cX19_portOn D cy B ids A Q (some (va_rf (r.map (B 18)))) z' .areturn (∀ i, r = some i → (18, i) ∈ ids)) {N : Nat}  (x0 : Nat) (x1 : Int32) (x2 : Int32) (hx0 : (19, x0) ∈ ids) {z : St} {H : Heap} {locs : List Loc} {ls : Array Slot} (hr : zRep D cy B ids A s.heap z H locs) (hl : lv_has ls 5 [(0, .ref (B 19 x0)), (1, .int x1), (2, .int x2)]) (h : fX19_portOn N x0 x1 x2 z = some (r, z')) : W p l e rmX19_portOn s m args below meth c H locs 0 0 Q (F0 m 0 ls []) := by
  unfold fX19_portOn at h
  refine lv_aload_n F.1 F.2.1 dX19_portOn_0 rfl (lv_at hl 0 rfl) ?_
  refine gf19_114 F hx0 hr dX19_portOn_1 ?_
  refine lv_iload_n F.1 F.2.1 dX19_portOn_4 rfl (lv_at hl 1 rfl) ?_
  replace h := zk_some h
  obtain ⟨c1, h⟩ := h
  refine zr_aaldv (k := 186) (by decide) rfl rfl (zlen_d (by decide)) F (zal_a F hx0 (j := 18) rfl) hr dX19_portOn_5 c1 (fun y2 ey2 => ?_)
  replace h := zl_sub ey2 h
  have hy2 := zal_q hr (zal_a F hx0 (j := 18) rfl) rfl ey2
  clear ey2
  refine zr_astore_n (lv' := [(3, va_rf (Option.map (B 12) y2)), (0, .ref (B 19 x0)), (1, .int x1), (2, .int x2)]) F.1 F.2.1 dX19_portOn_6 rfl hl (by decide) rfl (fun ls hl => ?_)
  refine lv_iconst (v := (0 : Int32)) F.1 F.2.1 dX19_portOn_7 (by decide) ?_
  refine lv_istore (lv' := [(4, .int (0 : Int32)), (3, va_rf (Option.map (B 12) y2)), (0, .ref (B 19 x0)), (1, .int x1), (2, .int x2)]) F.1 F.2.1 dX19_portOn_8 hl (by decide) (by simp only [List.filter, zrf_cat]; rfl) (fun ls hl => ?_)
  exact lX19_portOn_10 hst F hA E  _ x2 y2 (0 : Int32) hy2 hr (lv_sub hl [4, 1, 0] rfl) h
end SX19_portOn
set_option maxRecDepth 100000 in
theorem okX19_portOn (l : Launch) (D : va_G) (cy : Nat → ClassId) (B : Nat → Nat → Nat) (ids : List (Nat × Nat)) (hst : zSt B ids) (N : Nat) (x0 : Nat) (hx0 : (19, x0) ∈ ids) (x1 : Int32) (x2 : Int32) {z : St} {r : Option Nat} {z' : St} (hW : zWf ids z) (h : fX19_portOn N x0 x1 x2 z = some (r, z')) : zM l yX19_portOn (zws yX19_portOn cX19_portOn 5 (some (.object "WholeInternetModel$Port"))) rmX19_portOn D cy B ids [.ref (B 19 x0), .int x1, .int x2] (some (va_rf (r.map (B 18)))) (∀ i, r = some i → (18, i) ∈ ids) z z' :=
  zM_of hst hW (by decide +kernel) (Nat.le_of_ble_eq_true rfl) (fun p e s m args below meth c A ls F hA hret hlocks hr hl => bX19_portOn_0 hst F hA (zEnd_r F hret hlocks) x0 x1 x2 hx0 hr hl h)
abbrev rmX19_cost : Room := { frames := 2, cells := 0, slots := 0, locals := 42 }
theorem hdX19_cost : yX19_cost.cls ≠ "java/lang/invoke/MethodHandle" ∧ yX19_cost.cls ≠ "java/lang/invoke/VarHandle" ∧ (parseMethodDescriptor yX19_cost.desc).map (fun d => d.parameters.length) = some 3 := by decide +kernel
theorem hroX19_cost_X19_fails : rmX19_fails.frames + 1 ≤ rmX19_cost.frames ∧ 8 + (3 + 11) + rmX19_fails.locals ≤ rmX19_cost.locals := by decide
theorem hroX19_cost_X19_isNet : rmX19_isNet.frames + 1 ≤ rmX19_cost.frames ∧ 8 + (2 + 11) + rmX19_isNet.locals ≤ rmX19_cost.locals := by decide
theorem hroX19_cost_X19_isRouter : rmX19_isRouter.frames + 1 ≤ rmX19_cost.frames ∧ 8 + (2 + 11) + rmX19_isRouter.locals ≤ rmX19_cost.locals := by decide
theorem hroX19_cost_X19_portOn : rmX19_portOn.frames + 1 ≤ rmX19_cost.frames ∧ 8 + (5 + 11) + rmX19_portOn.locals ≤ rmX19_cost.locals := by decide
theorem hroX19_cost_X19_stir : rmX19_stir.frames + 1 ≤ rmX19_cost.frames ∧ 8 + (1 + 11) + rmX19_stir.locals ≤ rmX19_cost.locals := by decide
section SX19_cost
variable {p : Program} {l : Launch} {e : Env} {s : State} {m : MethodId} {args : Array Value} {below : List Frame} {meth : Method} {c : Code} {Q : State → Prop} {D : va_G} {cy : Nat → ClassId} {B : Nat → Nat → Nat} {ids : List (Nat × Nat)} {A : Nat → Prop}
def fX19_cost_43 (N : Nat)  (x0 : Nat) (x1 : Int32) (x2 : Int32) (x3 : Int32) (s0 : Nat) (s1 : Int32) (z : St) : Option (Int32 × St) := zc (fX19_fails N s0 s1 (0 : Int32) z) fun r1 z2 => if r1 = 0 then (zc (fX19_portOn N x0 x1 x2 z2) fun r6 z7 => zd r6 fun a10 => zl (zgI z7 18 4 a10) fun v11 => zl (zsI z7 18 4 a10 x3) fun z12 => zl (zgR z12 18 0 a10) fun y13 => zd y13 fun a14 => zl (zsI z12 12 23 a14 (1 : Int32)) fun z15 => zl (zgR z15 18 0 a10) fun y16 => zd y16 fun a17 => zl (zsI z15 12 24 a17 (1 : Int32)) fun z18 => if v11 = x3 then (some (v11, z18)) else (zc (fX19_stir N x0 z18) fun _ z21 => some (v11, z21))) else (some ((0 : Int32), z2))
set_option maxHeartbeats 4000000 in
set_option maxRecDepth 100000 in
theorem bX19_cost_43 (hst : zSt B ids) (F : zFx p m c cX19_cost 6 s args RX19 D cy B ids A) (hA : ∀ q : Nat, s.heap.size ≤ q → A q) {r : Int32} {z' : St} (E : zEnd p l e rmX19_cost s m args below meth c cX19_cost D cy B ids A Q (some (.int r)) z' .ireturn True) {N : Nat}  (x0 : Nat) (x1 : Int32) (x2 : Int32) (x3 : Int32) (s0 : Nat) (s1 : Int32) (hx0 : (19, x0) ∈ ids) (hs0 : (19, s0) ∈ ids) {z : St} {H : Heap} {locs : List Loc} {ls : Array Slot} (hr : zRep D cy B ids A s.heap z H locs) (hl : lv_has ls 6 [(0, .ref (B 19 x0)), (1, .int x1), (2, .int x2), (3, .int x3)]) (h : fX19_cost_43 N x0 x1 x2 x3 s0 s1 z = some (r, z')) : W p l e rmX19_cost s m args below meth c H locs 0 0 Q (F0 m 43 ls [.int s1, .ref (B 19 s0)]) := by
  unfold fX19_cost_43 at h
  refine lv_iconst (v := (0 : Int32)) F.1 F.2.1 dX19_cost_43 (by decide) ?_
  replace h := zc_some h
  obtain ⟨r1, z2, hc3, h⟩ := h
  refine zr_calli (zrun_V (As := [.int s1, .int (0 : Int32)]) (rest := []) zq_2402 zq_2404 zs_X19_fails zq_2405 zq_4 hdX19_fails (by decide) (T := TX19) (N := 32) rfl (okX19_fails l D cy B ids hst N s0 hs0 s1  (0 : Int32)  hr.2.2 hc3) F hr hs0 hl.1 rfl (by decide) dX19_cost_44 rfl rfl hroX19_cost_X19_fails ⟨Nat.zero_le _, Nat.zero_le _⟩) F hA hr (fun H locs hw4 hr => ?_)
  clear hc3
  refine lv_if_eq (tgt := 52) F.1 F.2.1 dX19_cost_47 (by decide) (fun c5 => ?_) (fun c5 => ?_)
  · replace h := zi_t c5 h
    refine lv_aload_n F.1 F.2.1 dX19_cost_52 rfl (lv_at hl 0 rfl) ?_
    refine lv_iload_n F.1 F.2.1 dX19_cost_53 rfl (lv_at hl 1 rfl) ?_
    refine lv_iload_n F.1 F.2.1 dX19_cost_54 rfl (lv_at hl 2 rfl) ?_
    replace h := zc_some h
    obtain ⟨r6, z7, hc8, h⟩ := h
    refine zr_callr (zrun_V (As := [.int x1, .int x2]) (rest := []) zq_2533 zq_2535 zs_X19_portOn zq_2536 zq_4 hdX19_portOn (by decide) (T := TX19) (N := 32) rfl (okX19_portOn l D cy B ids hst N x0 hx0 x1  x2  hr.2.2 hc8) F hr hx0 hl.1 rfl (by decide) dX19_cost_55 rfl rfl hroX19_cost_X19_portOn ⟨Nat.zero_le _, Nat.zero_le _⟩) F hA hr (fun H locs hw9 hr => ?_)
    clear hc8
    refine zr_astore (lv' := [(4, va_rf (Option.map (B 18) r6)), (0, .ref (B 19 x0)), (1, .int x1), (2, .int x2), (3, .int x3)]) F.1 F.2.1 dX19_cost_58 hl (by decide) rfl (fun ls hl => ?_)
    refine zr_aload F.1 F.2.1 dX19_cost_60 (lv_at hl 0 rfl) ?_
    replace h := zd_some h
    obtain ⟨a10, rfl, h⟩ := h
    refine gf19_520 F (hw9 _ rfl) hr dX19_cost_62 ?_
    refine lv_topi (fun v11 ev11 => ?_)
    replace h := zl_sub ev11 h
    refine lv_istore (lv' := [(5, .int v11), (4, .ref (B 18 a10)), (0, .ref (B 19 x0)), (1, .int x1), (2, .int x2), (3, .int x3)]) F.1 F.2.1 dX19_cost_65 hl (by decide) rfl (fun ls hl => ?_)
    refine lv_aload F.1 F.2.1 dX19_cost_67 (lv_at hl 1 rfl) ?_
    refine lv_iload_n F.1 F.2.1 dX19_cost_69 rfl (lv_at hl 5 rfl) ?_
    refine pf19_520 F (hw9 _ rfl) hr dX19_cost_70 x3 (fun H locs z12 ez12 hr => ?_)
    replace h := zl_sub ez12 h
    clear ez12
    refine lv_aload F.1 F.2.1 dX19_cost_73 (lv_at hl 1 rfl) ?_
    refine gf19_197 F (hw9 _ rfl) hr dX19_cost_75 (fun y13 ey13 => ?_)
    replace h := zl_sub ey13 h
    have hy13 := zal_g hr (hw9 _ rfl) (j := 0) rfl ey13
    clear ey13
    refine lv_iconst (v := (1 : Int32)) F.1 F.2.1 dX19_cost_78 (by decide) ?_
    replace h := zd_some h
    obtain ⟨a14, rfl, h⟩ := h
    refine pf19_489 F (hy13 _ rfl) hr dX19_cost_79 (1 : Int32) (by decide) (fun H locs z15 ez15 hr => ?_)
    replace h := zl_sub ez15 h
    clear ez15
    refine lv_aload F.1 F.2.1 dX19_cost_82 (lv_at hl 1 rfl) ?_
    refine gf19_197 F (hw9 _ rfl) hr dX19_cost_84 (fun y16 ey16 => ?_)
    replace h := zl_sub ey16 h
    have hy16 := zal_g hr (hw9 _ rfl) (j := 0) rfl ey16
    clear ey16
    refine lv_iconst (v := (1 : Int32)) F.1 F.2.1 dX19_cost_87 (by decide) ?_
    replace h := zd_some h
    obtain ⟨a17, rfl, h⟩ := h
    refine pf19_486 F (hy16 _ rfl) hr dX19_cost_88 (1 : Int32) (by decide) (fun H locs z18 ez18 hr => ?_)
    replace h := zl_sub ez18 h
    clear ez18
    refine lv_iload F.1 F.2.1 dX19_cost_91 (lv_at hl 0 rfl) ?_
    refine lv_iload_n F.1 F.2.1 dX19_cost_93 rfl (lv_at hl 5 rfl) ?_
    refine lv_icmp_eq (tgt := 101) F.1 F.2.1 dX19_cost_94 (by decide) (fun c19 => ?_) (fun c19 => ?_)
    · replace h := zi_t c19 h
      refine lv_iload F.1 F.2.1 dX19_cost_101 (lv_at hl 0 rfl) ?_
      obtain ⟨rfl, rfl⟩ := zret h
      exact E _ _ _ _ dX19_cost_103 trivial hr
    · replace h := zi_f c19 h
      refine lv_aload_n F.1 F.2.1 dX19_cost_97 rfl (lv_at hl 2 rfl) ?_
      replace h := zc_some h
      obtain ⟨r20, z21, hc22, h⟩ := h
      refine zr_callv (zrun_V (As := []) (rest := []) zq_2394 zq_2396 zs_X19_stir zq_2397 zq_4 hdX19_stir (by decide) (T := TX19) (N := 32) rfl (okX19_stir l D cy B ids hst N x0 hx0 hr.2.2 hc22) F hr hx0 hl.1 rfl (by decide) dX19_cost_98 rfl rfl hroX19_cost_X19_stir ⟨Nat.zero_le _, Nat.zero_le _⟩) F hA hr (fun H locs hw23 hr => ?_)
      clear hc22
      refine lv_iload F.1 F.2.1 dX19_cost_101 (lv_at hl 0 rfl) ?_
      obtain ⟨rfl, rfl⟩ := zret h
      exact E _ _ _ _ dX19_cost_103 trivial hr
  · replace h := zi_f c5 h
    refine lv_iconst (v := (0 : Int32)) F.1 F.2.1 dX19_cost_50 (by decide) ?_
    obtain ⟨rfl, rfl⟩ := zret h
    exact E _ _ _ _ dX19_cost_51 trivial hr
def fX19_cost_38 (N : Nat)  (x0 : Nat) (x1 : Int32) (x2 : Int32) (x3 : Int32) (s0 : Nat) (z : St) : Option (Int32 × St) := fX19_cost_43 N x0 x1 x2 x3 s0 (1 : Int32) z
set_option maxHeartbeats 4000000 in
set_option maxRecDepth 100000 in
theorem bX19_cost_38 (hst : zSt B ids) (F : zFx p m c cX19_cost 6 s args RX19 D cy B ids A) (hA : ∀ q : Nat, s.heap.size ≤ q → A q) {r : Int32} {z' : St} (E : zEnd p l e rmX19_cost s m args below meth c cX19_cost D cy B ids A Q (some (.int r)) z' .ireturn True) {N : Nat}  (x0 : Nat) (x1 : Int32) (x2 : Int32) (x3 : Int32) (s0 : Nat) (hx0 : (19, x0) ∈ ids) (hs0 : (19, s0) ∈ ids) {z : St} {H : Heap} {locs : List Loc} {ls : Array Slot} (hr : zRep D cy B ids A s.heap z H locs) (hl : lv_has ls 6 [(0, .ref (B 19 x0)), (1, .int x1), (2, .int x2), (3, .int x3)]) (h : fX19_cost_38 N x0 x1 x2 x3 s0 z = some (r, z')) : W p l e rmX19_cost s m args below meth c H locs 0 0 Q (F0 m 38 ls [.ref (B 19 s0)]) := by
  unfold fX19_cost_38 at h
  refine lv_iconst (v := (1 : Int32)) F.1 F.2.1 dX19_cost_38 (by decide) ?_
  refine lv_goto (tgt := 43) F.1 F.2.1 dX19_cost_39 (by decide) ?_
  exact bX19_cost_43 hst F hA E  x0 x1 x2 x3 s0 (1 : Int32) hx0 hs0 hr (lv_sub hl [0, 1, 2, 3] rfl) h
def fX19_cost (N : Nat)  (x0 : Nat) (x1 : Int32) (x2 : Int32) (x3 : Int32) (z : St) : Option (Int32 × St) := zc (fX19_isRouter N x0 x1 z) fun r1 z2 => if r1 = 0 then (fX19_cost_38 N x0 x1 x2 x3 x0 z2) else (zc (fX19_isNet N x0 x2 z2) fun r6 z7 => if r6 = 0 then (fX19_cost_38 N x0 x1 x2 x3 x0 z7) else (zc (fX19_portOn N x0 x1 x2 z7) fun r11 z12 => zo r11 (fX19_cost_38 N x0 x1 x2 x3 x0 z12) fun a16 => if x3 < (1 : Int32) then (fX19_cost_38 N x0 x1 x2 x3 x0 z12) else (if x3 ≤ (1000 : Int32) then (fX19_cost_43 N x0 x1 x2 x3 x0 (0 : Int32) z12) else (fX19_cost_38 N x0 x1 x2 x3 x0 z12))))
set_option maxHeartbeats 4000000 in
set_option maxRecDepth 100000 in
theorem bX19_cost_0 (hst : zSt B ids) (F : zFx p m c cX19_cost 6 s args RX19 D cy B ids A) (hA : ∀ q : Nat, s.heap.size ≤ q → A q) {r : Int32} {z' : St} (E : zEnd p l e rmX19_cost s m args below meth c cX19_cost D cy B ids A Q (some (.int r)) z' .ireturn True) {N : Nat}  (x0 : Nat) (x1 : Int32) (x2 : Int32) (x3 : Int32) (hx0 : (19, x0) ∈ ids) {z : St} {H : Heap} {locs : List Loc} {ls : Array Slot} (hr : zRep D cy B ids A s.heap z H locs) (hl : lv_has ls 6 [(0, .ref (B 19 x0)), (1, .int x1), (2, .int x2), (3, .int x3)]) (h : fX19_cost N x0 x1 x2 x3 z = some (r, z')) : W p l e rmX19_cost s m args below meth c H locs 0 0 Q (F0 m 0 ls []) := by
  unfold fX19_cost at h
  refine lv_aload_n F.1 F.2.1 dX19_cost_0 rfl (lv_at hl 0 rfl) ?_
  refine lv_aload_n F.1 F.2.1 dX19_cost_1 rfl (lv_at hl 0 rfl) ?_
  refine lv_iload_n F.1 F.2.1 dX19_cost_2 rfl (lv_at hl 1 rfl) ?_
  replace h := zc_some h
  obtain ⟨r1, z2, hc3, h⟩ := h
  refine zr_calli (zrun_V (As := [.int x1]) (rest := [.ref (B 19 x0)]) zq_2529 zq_2531 zs_X19_isRouter zq_2532 zq_4 hdX19_isRouter (by decide) (T := TX19) (N := 32) rfl (okX19_isRouter l D cy B ids hst N x0 hx0 x1  hr.2.2 hc3) F hr hx0 hl.1 rfl (Nat.le_of_ble_eq_true rfl) dX19_cost_3 rfl rfl hroX19_cost_X19_isRouter ⟨Nat.zero_le _, Nat.zero_le _⟩) F hA hr (fun H locs hw4 hr => ?_)
  clear hc3
  refine lv_if_eq (tgt := 38) F.1 F.2.1 dX19_cost_6 (by decide) (fun c5 => ?_) (fun c5 => ?_)
  · replace h := zi_t c5 h
    exact bX19_cost_38 hst F hA E  x0 x1 x2 x3 x0 hx0 hx0 hr (lv_sub hl [0, 1, 2, 3] rfl) h
  · replace h := zi_f c5 h
    refine lv_aload_n F.1 F.2.1 dX19_cost_9 rfl (lv_at hl 0 rfl) ?_
    refine lv_iload_n F.1 F.2.1 dX19_cost_10 rfl (lv_at hl 2 rfl) ?_
    replace h := zc_some h
    obtain ⟨r6, z7, hc8, h⟩ := h
    refine zr_calli (zrun_V (As := [.int x2]) (rest := [.ref (B 19 x0)]) zq_2455 zq_2457 zs_X19_isNet zq_2458 zq_4 hdX19_isNet (by decide) (T := TX19) (N := 32) rfl (okX19_isNet l D cy B ids hst N x0 hx0 x2  hr.2.2 hc8) F hr hx0 hl.1 rfl (Nat.le_of_ble_eq_true rfl) dX19_cost_11 rfl rfl hroX19_cost_X19_isNet ⟨Nat.zero_le _, Nat.zero_le _⟩) F hA hr (fun H locs hw9 hr => ?_)
    clear hc8
    refine lv_if_eq (tgt := 38) F.1 F.2.1 dX19_cost_14 (by decide) (fun c10 => ?_) (fun c10 => ?_)
    · replace h := zi_t c10 h
      exact bX19_cost_38 hst F hA E  x0 x1 x2 x3 x0 hx0 hx0 hr (lv_sub hl [0, 1, 2, 3] rfl) h
    · replace h := zi_f c10 h
      refine lv_aload_n F.1 F.2.1 dX19_cost_17 rfl (lv_at hl 0 rfl) ?_
      refine lv_iload_n F.1 F.2.1 dX19_cost_18 rfl (lv_at hl 1 rfl) ?_
      refine lv_iload_n F.1 F.2.1 dX19_cost_19 rfl (lv_at hl 2 rfl) ?_
      replace h := zc_some h
      obtain ⟨r11, z12, hc13, h⟩ := h
      refine zr_callr (zrun_V (As := [.int x1, .int x2]) (rest := [.ref (B 19 x0)]) zq_2533 zq_2535 zs_X19_portOn zq_2536 zq_4 hdX19_portOn (by decide) (T := TX19) (N := 32) rfl (okX19_portOn l D cy B ids hst N x0 hx0 x1  x2  hr.2.2 hc13) F hr hx0 hl.1 rfl (Nat.le_of_ble_eq_true rfl) dX19_cost_20 rfl rfl hroX19_cost_X19_portOn ⟨Nat.zero_le _, Nat.zero_le _⟩) F hA hr (fun H locs hw14 hr => ?_)
      clear hc13
      refine zr_ifnull (tgt := 38) F.1 F.2.1 dX19_cost_23 (by decide) (fun e15 => ?_) (fun a16 e15 => ?_)
      · replace h := zo_n e15 h
        subst e15
        exact bX19_cost_38 hst F hA E  x0 x1 x2 x3 x0 hx0 hx0 hr (lv_sub hl [0, 1, 2, 3] rfl) h
      · replace h := zo_s e15 h
        subst e15
        refine lv_iload_n F.1 F.2.1 dX19_cost_26 rfl (lv_at hl 3 rfl) ?_
        refine lv_iconst (v := (1 : Int32)) F.1 F.2.1 dX19_cost_27 (by decide) ?_
        refine lv_icmp_lt (tgt := 38) F.1 F.2.1 dX19_cost_28 (by decide) (fun c17 => ?_) (fun c17 => ?_)
        · replace h := zi_t c17 h
          exact bX19_cost_38 hst F hA E  x0 x1 x2 x3 x0 hx0 hx0 hr (lv_sub hl [0, 1, 2, 3] rfl) h
        · replace h := zi_f c17 h
          refine lv_iload_n F.1 F.2.1 dX19_cost_31 rfl (lv_at hl 3 rfl) ?_
          refine lv_sipush (v := (1000 : Int32)) F.1 F.2.1 dX19_cost_32 (by decide) ?_
          refine lv_icmp_le (tgt := 42) F.1 F.2.1 dX19_cost_35 (by decide) (fun c18 => ?_) (fun c18 => ?_)
          · replace h := zi_t c18 h
            refine lv_iconst (v := (0 : Int32)) F.1 F.2.1 dX19_cost_42 (by decide) ?_
            exact bX19_cost_43 hst F hA E  x0 x1 x2 x3 x0 (0 : Int32) hx0 hx0 hr (lv_sub hl [0, 1, 2, 3] rfl) h
          · replace h := zi_f c18 h
            exact bX19_cost_38 hst F hA E  x0 x1 x2 x3 x0 hx0 hx0 hr (lv_sub hl [0, 1, 2, 3] rfl) h
end SX19_cost
set_option maxRecDepth 100000 in
theorem okX19_cost (l : Launch) (D : va_G) (cy : Nat → ClassId) (B : Nat → Nat → Nat) (ids : List (Nat × Nat)) (hst : zSt B ids) (N : Nat) (x0 : Nat) (hx0 : (19, x0) ∈ ids) (x1 : Int32) (x2 : Int32) (x3 : Int32) {z : St} {r : Int32} {z' : St} (hW : zWf ids z) (h : fX19_cost N x0 x1 x2 x3 z = some (r, z')) : zM l yX19_cost (zws yX19_cost cX19_cost 6 (some .int)) rmX19_cost D cy B ids [.ref (B 19 x0), .int x1, .int x2, .int x3] (some (.int r)) True z z' :=
  zM_of hst hW (by decide +kernel) (Nat.le_of_ble_eq_true rfl) (fun p e s m args below meth c A ls F hA hret hlocks hr hl => bX19_cost_0 hst F hA (zEnd_i F hret hlocks) x0 x1 x2 x3 hx0 hr hl h)
abbrev rmX19_link : Room := { frames := 3, cells := 0, slots := 0, locals := 64 }
theorem hdX19_link : yX19_link.cls ≠ "java/lang/invoke/MethodHandle" ∧ yX19_link.cls ≠ "java/lang/invoke/VarHandle" ∧ (parseMethodDescriptor yX19_link.desc).map (fun d => d.parameters.length) = some 2 := by decide +kernel
theorem hroX19_link_X19_drop : rmX19_drop.frames + 1 ≤ rmX19_link.frames ∧ 8 + (2 + 11) + rmX19_drop.locals ≤ rmX19_link.locals := by decide
theorem hroX19_link_X19_fails : rmX19_fails.frames + 1 ≤ rmX19_link.frames ∧ 8 + (3 + 11) + rmX19_fails.locals ≤ rmX19_link.locals := by decide
theorem hroX19_link_X19_isNet : rmX19_isNet.frames + 1 ≤ rmX19_link.frames ∧ 8 + (2 + 11) + rmX19_isNet.locals ≤ rmX19_link.locals := by decide
theorem hroX19_link_X19_stir : rmX19_stir.frames + 1 ≤ rmX19_link.frames ∧ 8 + (1 + 11) + rmX19_stir.locals ≤ rmX19_link.locals := by decide
theorem hroX19_link_X19_takeFrame : rmX19_takeFrame.frames + 1 ≤ rmX19_link.frames ∧ 8 + (3 + 11) + rmX19_takeFrame.locals ≤ rmX19_link.locals := by decide
section SX19_link
variable {p : Program} {l : Launch} {e : Env} {s : State} {m : MethodId} {args : Array Value} {below : List Frame} {meth : Method} {c : Code} {Q : State → Prop} {D : va_G} {cy : Nat → ClassId} {B : Nat → Nat → Nat} {ids : List (Nat × Nat)} {A : Nat → Prop}
def fX19_link_112 (N : Nat) (K53 : Nat → Int32 → Int32 → Int32 → Int32 → St → Option (Int32 × St)) (x0 : Nat) (x1 : Int32) (x2 : Int32) (x4 : Int32) (x5 : Int32) (z : St) : Option (Int32 × St) := K53 x0 x1 x2 x4 x5 z
set_option maxHeartbeats 4000000 in
set_option maxRecDepth 100000 in
theorem bX19_link_112 (hst : zSt B ids) (F : zFx p m c cX19_link 7 s args RX19 D cy B ids A) (hA : ∀ q : Nat, s.heap.size ≤ q → A q) {r : Int32} {z' : St} (E : zEnd p l e rmX19_link s m args below meth c cX19_link D cy B ids A Q (some (.int r)) z' .ireturn (r = 0 ∨ r = 1)) {N : Nat} {K53 : Nat → Int32 → Int32 → Int32 → Int32 → St → Option (Int32 × St)} (hK53 : ∀ (x0 : Nat) (x1 : Int32) (x2 : Int32) (x4 : Int32) (x5 : Int32) (hx0 : (19, x0) ∈ ids) {z : St} {H : Heap} {locs : List Loc} {ls : Array Slot} (hr : zRep D cy B ids A s.heap z H locs) (hl : lv_has ls 7 [(0, .ref (B 19 x0)), (1, .int x1), (2, .int x2), (4, .int x4), (5, .int x5)]), K53 x0 x1 x2 x4 x5 z = some (r, z') → W p l e rmX19_link s m args below meth c H locs 0 0 Q (F0 m 53 ls [])) (x0 : Nat) (x1 : Int32) (x2 : Int32) (x4 : Int32) (x5 : Int32) (hx0 : (19, x0) ∈ ids) {z : St} {H : Heap} {locs : List Loc} {ls : Array Slot} (hr : zRep D cy B ids A s.heap z H locs) (hl : lv_has ls 7 [(0, .ref (B 19 x0)), (1, .int x1), (2, .int x2), (4, .int x4), (5, .int x5)]) (h : fX19_link_112 N K53 x0 x1 x2 x4 x5 z = some (r, z')) : W p l e rmX19_link s m args below meth c H locs 0 0 Q (F0 m 112 ls []) := by
  unfold fX19_link_112 at h
  refine lv_goto (tgt := 53) F.1 F.2.1 dX19_link_112 (by decide) ?_
  exact hK53 x0 x1 x2 x4 x5 hx0 hr (lv_sub hl [0, 1, 2, 3, 4] rfl) h
def fX19_link_121 (N : Nat)  (x0 : Nat) (x4 : Int32) (z : St) : Option (Int32 × St) := if x4 = 0 then (zq (x4 = 0 ∨ x4 = 1) <| some (x4, z)) else (zc (fX19_stir N x0 z) fun _ z4 => zq (x4 = 0 ∨ x4 = 1) <| some (x4, z4))
set_option maxHeartbeats 4000000 in
set_option maxRecDepth 100000 in
theorem bX19_link_121 (hst : zSt B ids) (F : zFx p m c cX19_link 7 s args RX19 D cy B ids A) (hA : ∀ q : Nat, s.heap.size ≤ q → A q) {r : Int32} {z' : St} (E : zEnd p l e rmX19_link s m args below meth c cX19_link D cy B ids A Q (some (.int r)) z' .ireturn (r = 0 ∨ r = 1)) {N : Nat}  (x0 : Nat) (x4 : Int32) (hx0 : (19, x0) ∈ ids) {z : St} {H : Heap} {locs : List Loc} {ls : Array Slot} (hr : zRep D cy B ids A s.heap z H locs) (hl : lv_has ls 7 [(0, .ref (B 19 x0)), (4, .int x4)]) (h : fX19_link_121 N x0 x4 z = some (r, z')) : W p l e rmX19_link s m args below meth c H locs 0 0 Q (F0 m 121 ls []) := by
  unfold fX19_link_121 at h
  refine lv_iload F.1 F.2.1 dX19_link_121 (lv_at hl 1 rfl) ?_
  refine lv_if_eq (tgt := 130) F.1 F.2.1 dX19_link_123 (by decide) (fun c1 => ?_) (fun c1 => ?_)
  · replace h := zi_t c1 h
    refine lv_iload F.1 F.2.1 dX19_link_130 (lv_at hl 1 rfl) ?_
    replace h := zq_some h
    obtain ⟨c2, h⟩ := h
    obtain ⟨rfl, rfl⟩ := zret h
    exact E _ _ _ _ dX19_link_132 c2 hr
  · replace h := zi_f c1 h
    refine lv_aload_n F.1 F.2.1 dX19_link_126 rfl (lv_at hl 0 rfl) ?_
    replace h := zc_some h
    obtain ⟨r3, z4, hc5, h⟩ := h
    refine zr_callv (zrun_V (As := []) (rest := []) zq_2394 zq_2396 zs_X19_stir zq_2397 zq_4 hdX19_stir (by decide) (T := TX19) (N := 32) rfl (okX19_stir l D cy B ids hst N x0 hx0 hr.2.2 hc5) F hr hx0 hl.1 rfl (by decide) dX19_link_127 rfl rfl hroX19_link_X19_stir ⟨Nat.zero_le _, Nat.zero_le _⟩) F hA hr (fun H locs hw6 hr => ?_)
    clear hc5
    refine lv_iload F.1 F.2.1 dX19_link_130 (lv_at hl 1 rfl) ?_
    replace h := zq_some h
    obtain ⟨c7, h⟩ := h
    obtain ⟨rfl, rfl⟩ := zret h
    exact E _ _ _ _ dX19_link_132 c7 hr
def fX19_link_53b (N : Nat) (K53 : Nat → Int32 → Int32 → Int32 → Int32 → St → Option (Int32 × St)) (x0 : Nat) (x1 : Int32) (x2 : Int32) (x4 : Int32) (x5 : Int32) (z : St) : Option (Int32 × St) := if (zgI z 19 23 x0) ≤ x5 then (fX19_link_121 N x0 x4 z) else (if ¬ x2 = 0 then (fX19_link_121 N x0 x4 z) else (zk ((7 : Int32) * x5) 3584 <| if ¬ (zgA z 188 x0 (Int32.toNatClampNeg ((7 : Int32) * x5))) = x1 then (zl (x5 + 1) fun v5 => K53 x0 x1 x2 x4 v5 z) else (zk (((7 : Int32) * x5) + (5 : Int32)) 3584 <| zl (zgA z 188 x0 (Int32.toNatClampNeg (((7 : Int32) * x5) + (5 : Int32)))) fun v7 => zc (fX19_takeFrame N x0 x5 z) fun _ z9 => if v7 = (-1 : Int32) then (fX19_link_112 N K53 x0 x1 x2 x4 x5 z9) else (zc (fX19_drop N x0 v7 z9) fun _ z14 => fX19_link_112 N K53 x0 x1 x2 x4 x5 z14))))
def fX19_link_53 (N : Nat)  : Nat → Nat → Int32 → Int32 → Int32 → Int32 → St → Option (Int32 × St)
  | 0 => fun _ _ _ _ _ _ => none
  | n + 1 => fX19_link_53b N (fX19_link_53 N  n)
set_option maxHeartbeats 4000000 in
set_option maxRecDepth 100000 in
theorem bX19_link_53 (hst : zSt B ids) (F : zFx p m c cX19_link 7 s args RX19 D cy B ids A) (hA : ∀ q : Nat, s.heap.size ≤ q → A q) {r : Int32} {z' : St} (E : zEnd p l e rmX19_link s m args below meth c cX19_link D cy B ids A Q (some (.int r)) z' .ireturn (r = 0 ∨ r = 1)) {N : Nat} {K53 : Nat → Int32 → Int32 → Int32 → Int32 → St → Option (Int32 × St)} (hK53 : ∀ (x0 : Nat) (x1 : Int32) (x2 : Int32) (x4 : Int32) (x5 : Int32) (hx0 : (19, x0) ∈ ids) {z : St} {H : Heap} {locs : List Loc} {ls : Array Slot} (hr : zRep D cy B ids A s.heap z H locs) (hl : lv_has ls 7 [(0, .ref (B 19 x0)), (1, .int x1), (2, .int x2), (4, .int x4), (5, .int x5)]), K53 x0 x1 x2 x4 x5 z = some (r, z') → W p l e rmX19_link s m args below meth c H locs 0 0 Q (F0 m 53 ls [])) (x0 : Nat) (x1 : Int32) (x2 : Int32) (x4 : Int32) (x5 : Int32) (hx0 : (19, x0) ∈ ids) {z : St} {H : Heap} {locs : List Loc} {ls : Array Slot} (hr : zRep D cy B ids A s.heap z H locs) (hl : lv_has ls 7 [(0, .ref (B 19 x0)), (1, .int x1), (2, .int x2), (4, .int x4), (5, .int x5)]) (h : fX19_link_53b N K53 x0 x1 x2 x4 x5 z = some (r, z')) : W p l e rmX19_link s m args below meth c H locs 0 0 Q (F0 m 53 ls []) := by
  unfold fX19_link_53b at h
  refine lv_iload F.1 F.2.1 dX19_link_53 (lv_at hl 4 rfl) ?_
  refine lv_aload_n F.1 F.2.1 dX19_link_55 rfl (lv_at hl 0 rfl) ?_
  refine gf19_171 F hx0 hr dX19_link_56 ?_
  refine lv_icmp_ge (tgt := 121) F.1 F.2.1 dX19_link_59 (by decide) (fun c1 => ?_) (fun c1 => ?_)
  · replace h := zi_t c1 h
    exact bX19_link_121 hst F hA E  x0 x4 hx0 hr (lv_sub hl [0, 3] rfl) h
  · replace h := zi_f c1 h
    refine lv_iload_n F.1 F.2.1 dX19_link_62 rfl (lv_at hl 2 rfl) ?_
    refine lv_if_ne (tgt := 121) F.1 F.2.1 dX19_link_63 (by decide) (fun c2 => ?_) (fun c2 => ?_)
    · replace h := zi_t c2 h
      exact bX19_link_121 hst F hA E  x0 x4 hx0 hr (lv_sub hl [0, 3] rfl) h
    · replace h := zi_f (fun q => q c2) h
      refine lv_aload_n F.1 F.2.1 dX19_link_66 rfl (lv_at hl 0 rfl) ?_
      refine gf19_124 F hx0 hr dX19_link_67 ?_
      refine lv_bipush (v := (7 : Int32)) F.1 F.2.1 dX19_link_70 (by decide) ?_
      refine lv_iload F.1 F.2.1 dX19_link_72 (lv_at hl 4 rfl) ?_
      refine lv_imul F.1 F.2.1 dX19_link_74 ?_
      replace h := zk_some h
      obtain ⟨c3, h⟩ := h
      refine zr_iald (k := 188) (by decide) rfl (by decide) F (zal_a F hx0 (j := 22) rfl) hr dX19_link_75 c3 ?_
      refine lv_iload_n F.1 F.2.1 dX19_link_76 rfl (lv_at hl 1 rfl) ?_
      refine lv_icmp_ne (tgt := 115) F.1 F.2.1 dX19_link_77 (by decide) (fun c4 => ?_) (fun c4 => ?_)
      · replace h := zi_t c4 h
        obtain ⟨v5, ev5⟩ : ∃ y : Int32, y = (x5 + 1) := ⟨_, rfl⟩
        replace h := zl_sub ev5 h
        refine lv_iinc (v := v5) (lv' := [(5, .int v5), (0, .ref (B 19 x0)), (1, .int x1), (2, .int x2), (4, .int x4)]) F.1 F.2.1 dX19_link_115 hl (k := 4) rfl (by rw [ev5]; rfl) (by decide) rfl (fun ls hl => ?_)
        refine lv_goto (tgt := 53) F.1 F.2.1 dX19_link_118 (by decide) ?_
        exact hK53 x0 x1 x2 x4 v5 hx0 hr (lv_sub hl [1, 2, 3, 4, 0] rfl) h
      · replace h := zi_f (fun q => q c4) h
        refine lv_aload_n F.1 F.2.1 dX19_link_80 rfl (lv_at hl 0 rfl) ?_
        refine gf19_124 F hx0 hr dX19_link_81 ?_
        refine lv_bipush (v := (7 : Int32)) F.1 F.2.1 dX19_link_84 (by decide) ?_
        refine lv_iload F.1 F.2.1 dX19_link_86 (lv_at hl 4 rfl) ?_
        refine lv_imul F.1 F.2.1 dX19_link_88 ?_
        refine lv_iconst (v := (5 : Int32)) F.1 F.2.1 dX19_link_89 (by decide) ?_
        refine lv_iadd F.1 F.2.1 dX19_link_90 ?_
        replace h := zk_some h
        obtain ⟨c6, h⟩ := h
        refine zr_iald (k := 188) (by decide) rfl (by decide) F (zal_a F hx0 (j := 22) rfl) hr dX19_link_91 c6 ?_
        refine lv_topi (fun v7 ev7 => ?_)
        replace h := zl_sub ev7 h
        refine lv_istore (lv' := [(6, .int v7), (0, .ref (B 19 x0)), (1, .int x1), (2, .int x2), (4, .int x4), (5, .int x5)]) F.1 F.2.1 dX19_link_92 hl (by decide) rfl (fun ls hl => ?_)
        refine lv_aload_n F.1 F.2.1 dX19_link_94 rfl (lv_at hl 1 rfl) ?_
        refine lv_iload F.1 F.2.1 dX19_link_95 (lv_at hl 5 rfl) ?_
        replace h := zc_some h
        obtain ⟨r8, z9, hc10, h⟩ := h
        refine zr_callv (zrun_V (As := [.int x5]) (rest := []) zq_2541 zq_2543 zs_X19_takeFrame zq_2544 zq_4 hdX19_takeFrame (by decide) (T := TX19) (N := 32) rfl (okX19_takeFrame l D cy B ids hst N x0 hx0 x5  hr.2.2 hc10) F hr hx0 hl.1 rfl (by decide) dX19_link_97 rfl rfl hroX19_link_X19_takeFrame ⟨Nat.zero_le _, Nat.zero_le _⟩) F hA hr (fun H locs hw11 hr => ?_)
        clear hc10
        refine lv_iload F.1 F.2.1 dX19_link_100 (lv_at hl 0 rfl) ?_
        refine lv_iconst (v := (-1 : Int32)) F.1 F.2.1 dX19_link_102 (by decide) ?_
        refine lv_icmp_eq (tgt := 112) F.1 F.2.1 dX19_link_103 (by decide) (fun c12 => ?_) (fun c12 => ?_)
        · replace h := zi_t c12 h
          exact bX19_link_112 hst F hA E hK53 x0 x1 x2 x4 x5 hx0 hr (lv_sub hl [1, 2, 3, 4, 5] rfl) h
        · replace h := zi_f c12 h
          refine lv_aload_n F.1 F.2.1 dX19_link_106 rfl (lv_at hl 1 rfl) ?_
          refine lv_iload F.1 F.2.1 dX19_link_107 (lv_at hl 0 rfl) ?_
          replace h := zc_some h
          obtain ⟨r13, z14, hc15, h⟩ := h
          refine zr_callv (zrun_V (As := [.int v7]) (rest := []) zq_2545 zq_2547 zs_X19_drop zq_2548 zq_4 hdX19_drop (by decide) (T := TX19) (N := 32) rfl (okX19_drop l D cy B ids hst N x0 hx0 v7  hr.2.2 hc15) F hr hx0 hl.1 rfl (by decide) dX19_link_109 rfl rfl hroX19_link_X19_drop ⟨Nat.zero_le _, Nat.zero_le _⟩) F hA hr (fun H locs hw16 hr => ?_)
          clear hc15
          exact bX19_link_112 hst F hA E hK53 x0 x1 x2 x4 x5 hx0 hr (lv_sub hl [1, 2, 3, 4, 5] rfl) h
theorem lX19_link_53 (hst : zSt B ids) (F : zFx p m c cX19_link 7 s args RX19 D cy B ids A) (hA : ∀ q : Nat, s.heap.size ≤ q → A q) {r : Int32} {z' : St} (E : zEnd p l e rmX19_link s m args below meth c cX19_link D cy B ids A Q (some (.int r)) z' .ireturn (r = 0 ∨ r = 1)) {N : Nat}  : ∀ (n : Nat) (x0 : Nat) (x1 : Int32) (x2 : Int32) (x4 : Int32) (x5 : Int32) (hx0 : (19, x0) ∈ ids) {z : St} {H : Heap} {locs : List Loc} {ls : Array Slot} (hr : zRep D cy B ids A s.heap z H locs) (hl : lv_has ls 7 [(0, .ref (B 19 x0)), (1, .int x1), (2, .int x2), (4, .int x4), (5, .int x5)]), fX19_link_53 N  n x0 x1 x2 x4 x5 z = some (r, z') → W p l e rmX19_link s m args below meth c H locs 0 0 Q (F0 m 53 ls []) := by
  intro n
  induction n with
  | zero => intro x0 x1 x2 x4 x5 hx0 z H locs ls hr hl h; cases h
  | succ n ih => intro x0 x1 x2 x4 x5 hx0 z H locs ls hr hl h; exact bX19_link_53 hst F hA E ih x0 x1 x2 x4 x5 hx0 hr hl h
def fX19_link_43 (N : Nat)  (x0 : Nat) (x1 : Int32) (x2 : Int32) (x3 : Nat) (s0 : Int32) (z : St) : Option (Int32 × St) := zq (x2 = 0 ∨ x2 = 1) <| zl (zsI z 16 3 x3 x2) fun z1 => fX19_link_53 N N x0 x1 x2 s0 (0 : Int32) z1
set_option maxHeartbeats 4000000 in
set_option maxRecDepth 100000 in
theorem bX19_link_43 (hst : zSt B ids) (F : zFx p m c cX19_link 7 s args RX19 D cy B ids A) (hA : ∀ q : Nat, s.heap.size ≤ q → A q) {r : Int32} {z' : St} (E : zEnd p l e rmX19_link s m args below meth c cX19_link D cy B ids A Q (some (.int r)) z' .ireturn (r = 0 ∨ r = 1)) {N : Nat}  (x0 : Nat) (x1 : Int32) (x2 : Int32) (x3 : Nat) (s0 : Int32) (hx0 : (19, x0) ∈ ids) (hx3 : (16, x3) ∈ ids) {z : St} {H : Heap} {locs : List Loc} {ls : Array Slot} (hr : zRep D cy B ids A s.heap z H locs) (hl : lv_has ls 7 [(0, .ref (B 19 x0)), (1, .int x1), (2, .int x2), (3, .ref (B 16 x3))]) (h : fX19_link_43 N x0 x1 x2 x3 s0 z = some (r, z')) : W p l e rmX19_link s m args below meth c H locs 0 0 Q (F0 m 43 ls [.int s0]) := by
  unfold fX19_link_43 at h
  refine lv_istore (lv' := [(4, .int s0), (0, .ref (B 19 x0)), (1, .int x1), (2, .int x2), (3, .ref (B 16 x3))]) F.1 F.2.1 dX19_link_43 hl (by decide) rfl (fun ls hl => ?_)
  refine lv_aload_n F.1 F.2.1 dX19_link_45 rfl (lv_at hl 4 rfl) ?_
  refine lv_iload_n F.1 F.2.1 dX19_link_46 rfl (lv_at hl 3 rfl) ?_
  replace h := zq_some h
  obtain ⟨c2, h⟩ := h
  refine pf19_158 F hx3 hr dX19_link_47 x2 c2 (fun H locs z1 ez1 hr => ?_)
  replace h := zl_sub ez1 h
  clear ez1
  refine lv_iconst (v := (0 : Int32)) F.1 F.2.1 dX19_link_50 (by decide) ?_
  refine lv_istore (lv' := [(5, .int (0 : Int32)), (4, .int s0), (0, .ref (B 19 x0)), (1, .int x1), (2, .int x2), (3, .ref (B 16 x3))]) F.1 F.2.1 dX19_link_51 hl (by decide) rfl (fun ls hl => ?_)
  exact lX19_link_53 hst F hA E  _ x0 x1 x2 s0 (0 : Int32) hx0 hr (lv_sub hl [2, 3, 4, 1, 0] rfl) h
def fX19_link_14 (N : Nat)  (x0 : Nat) (x1 : Int32) (x2 : Int32) (s0 : Nat) (s1 : Int32) (z : St) : Option (Int32 × St) := zc (fX19_fails N s0 s1 (0 : Int32) z) fun r1 z2 => if r1 = 0 then (zk x1 24 <| zl (zgQ z2 187 x0 (Int32.toNatClampNeg x1)) fun y7 => zd y7 fun a8 => if (zgI z2 16 3 a8) = x2 then (fX19_link_43 N x0 x1 x2 a8 (0 : Int32) z2) else (fX19_link_43 N x0 x1 x2 a8 (1 : Int32) z2)) else (some ((0 : Int32), z2))
set_option maxHeartbeats 4000000 in
set_option maxRecDepth 100000 in
theorem bX19_link_14 (hst : zSt B ids) (F : zFx p m c cX19_link 7 s args RX19 D cy B ids A) (hA : ∀ q : Nat, s.heap.size ≤ q → A q) {r : Int32} {z' : St} (E : zEnd p l e rmX19_link s m args below meth c cX19_link D cy B ids A Q (some (.int r)) z' .ireturn (r = 0 ∨ r = 1)) {N : Nat}  (x0 : Nat) (x1 : Int32) (x2 : Int32) (s0 : Nat) (s1 : Int32) (hx0 : (19, x0) ∈ ids) (hs0 : (19, s0) ∈ ids) {z : St} {H : Heap} {locs : List Loc} {ls : Array Slot} (hr : zRep D cy B ids A s.heap z H locs) (hl : lv_has ls 7 [(0, .ref (B 19 x0)), (1, .int x1), (2, .int x2)]) (h : fX19_link_14 N x0 x1 x2 s0 s1 z = some (r, z')) : W p l e rmX19_link s m args below meth c H locs 0 0 Q (F0 m 14 ls [.int s1, .ref (B 19 s0)]) := by
  unfold fX19_link_14 at h
  refine lv_iconst (v := (0 : Int32)) F.1 F.2.1 dX19_link_14 (by decide) ?_
  replace h := zc_some h
  obtain ⟨r1, z2, hc3, h⟩ := h
  refine zr_calli (zrun_V (As := [.int s1, .int (0 : Int32)]) (rest := []) zq_2402 zq_2404 zs_X19_fails zq_2405 zq_4 hdX19_fails (by decide) (T := TX19) (N := 32) rfl (okX19_fails l D cy B ids hst N s0 hs0 s1  (0 : Int32)  hr.2.2 hc3) F hr hs0 hl.1 rfl (by decide) dX19_link_15 rfl rfl hroX19_link_X19_fails ⟨Nat.zero_le _, Nat.zero_le _⟩) F hA hr (fun H locs hw4 hr => ?_)
  clear hc3
  refine lv_if_eq (tgt := 23) F.1 F.2.1 dX19_link_18 (by decide) (fun c5 => ?_) (fun c5 => ?_)
  · replace h := zi_t c5 h
    refine lv_aload_n F.1 F.2.1 dX19_link_23 rfl (lv_at hl 0 rfl) ?_
    refine gf19_120 F hx0 hr dX19_link_24 ?_
    refine lv_iload_n F.1 F.2.1 dX19_link_27 rfl (lv_at hl 1 rfl) ?_
    replace h := zk_some h
    obtain ⟨c6, h⟩ := h
    refine zr_aaldv (k := 187) (by decide) rfl rfl (zlen_d (by decide)) F (zal_a F hx0 (j := 20) rfl) hr dX19_link_28 c6 (fun y7 ey7 => ?_)
    replace h := zl_sub ey7 h
    have hy7 := zal_q hr (zal_a F hx0 (j := 20) rfl) rfl ey7
    clear ey7
    refine zr_astore_n (lv' := [(3, va_rf (Option.map (B 16) y7)), (0, .ref (B 19 x0)), (1, .int x1), (2, .int x2)]) F.1 F.2.1 dX19_link_29 rfl hl (by decide) rfl (fun ls hl => ?_)
    refine zr_aload_n F.1 F.2.1 dX19_link_30 rfl (lv_at hl 0 rfl) ?_
    replace h := zd_some h
    obtain ⟨a8, rfl, h⟩ := h
    refine gf19_158 F (hy7 _ rfl) hr dX19_link_31 ?_
    refine lv_iload_n F.1 F.2.1 dX19_link_34 rfl (lv_at hl 3 rfl) ?_
    refine lv_icmp_eq (tgt := 42) F.1 F.2.1 dX19_link_35 (by decide) (fun c9 => ?_) (fun c9 => ?_)
    · replace h := zi_t c9 h
      refine lv_iconst (v := (0 : Int32)) F.1 F.2.1 dX19_link_42 (by decide) ?_
      exact bX19_link_43 hst F hA E  x0 x1 x2 a8 (0 : Int32) hx0 (hy7 _ rfl) hr (lv_sub hl [1, 2, 3, 0] rfl) h
    · replace h := zi_f c9 h
      refine lv_iconst (v := (1 : Int32)) F.1 F.2.1 dX19_link_38 (by decide) ?_
      refine lv_goto (tgt := 43) F.1 F.2.1 dX19_link_39 (by decide) ?_
      exact bX19_link_43 hst F hA E  x0 x1 x2 a8 (1 : Int32) hx0 (hy7 _ rfl) hr (lv_sub hl [1, 2, 3, 0] rfl) h
  · replace h := zi_f c5 h
    refine lv_iconst (v := (0 : Int32)) F.1 F.2.1 dX19_link_21 (by decide) ?_
    obtain ⟨rfl, rfl⟩ := zret h
    exact E _ _ _ _ dX19_link_22 (by decide) hr
def fX19_link (N : Nat)  (x0 : Nat) (x1 : Int32) (x2 : Int32) (z : St) : Option (Int32 × St) := zc (fX19_isNet N x0 x1 z) fun r1 z2 => if ¬ r1 = 0 then (fX19_link_14 N x0 x1 x2 x0 (0 : Int32) z2) else (fX19_link_14 N x0 x1 x2 x0 (1 : Int32) z2)
set_option maxHeartbeats 4000000 in
set_option maxRecDepth 100000 in
theorem bX19_link_0 (hst : zSt B ids) (F : zFx p m c cX19_link 7 s args RX19 D cy B ids A) (hA : ∀ q : Nat, s.heap.size ≤ q → A q) {r : Int32} {z' : St} (E : zEnd p l e rmX19_link s m args below meth c cX19_link D cy B ids A Q (some (.int r)) z' .ireturn (r = 0 ∨ r = 1)) {N : Nat}  (x0 : Nat) (x1 : Int32) (x2 : Int32) (hx0 : (19, x0) ∈ ids) {z : St} {H : Heap} {locs : List Loc} {ls : Array Slot} (hr : zRep D cy B ids A s.heap z H locs) (hl : lv_has ls 7 [(0, .ref (B 19 x0)), (1, .int x1), (2, .int x2)]) (h : fX19_link N x0 x1 x2 z = some (r, z')) : W p l e rmX19_link s m args below meth c H locs 0 0 Q (F0 m 0 ls []) := by
  unfold fX19_link at h
  refine lv_aload_n F.1 F.2.1 dX19_link_0 rfl (lv_at hl 0 rfl) ?_
  refine lv_aload_n F.1 F.2.1 dX19_link_1 rfl (lv_at hl 0 rfl) ?_
  refine lv_iload_n F.1 F.2.1 dX19_link_2 rfl (lv_at hl 1 rfl) ?_
  replace h := zc_some h
  obtain ⟨r1, z2, hc3, h⟩ := h
  refine zr_calli (zrun_V (As := [.int x1]) (rest := [.ref (B 19 x0)]) zq_2455 zq_2457 zs_X19_isNet zq_2458 zq_4 hdX19_isNet (by decide) (T := TX19) (N := 32) rfl (okX19_isNet l D cy B ids hst N x0 hx0 x1  hr.2.2 hc3) F hr hx0 hl.1 rfl (Nat.le_of_ble_eq_true rfl) dX19_link_3 rfl rfl hroX19_link_X19_isNet ⟨Nat.zero_le _, Nat.zero_le _⟩) F hA hr (fun H locs hw4 hr => ?_)
  clear hc3
  refine lv_if_ne (tgt := 13) F.1 F.2.1 dX19_link_6 (by decide) (fun c5 => ?_) (fun c5 => ?_)
  · replace h := zi_t c5 h
    refine lv_iconst (v := (0 : Int32)) F.1 F.2.1 dX19_link_13 (by decide) ?_
    exact bX19_link_14 hst F hA E  x0 x1 x2 x0 (0 : Int32) hx0 hx0 hr (lv_sub hl [0, 1, 2] rfl) h
  · replace h := zi_f (fun q => q c5) h
    refine lv_iconst (v := (1 : Int32)) F.1 F.2.1 dX19_link_9 (by decide) ?_
    refine lv_goto (tgt := 14) F.1 F.2.1 dX19_link_10 (by decide) ?_
    exact bX19_link_14 hst F hA E  x0 x1 x2 x0 (1 : Int32) hx0 hx0 hr (lv_sub hl [0, 1, 2] rfl) h
end SX19_link
set_option maxRecDepth 100000 in
theorem okX19_link (l : Launch) (D : va_G) (cy : Nat → ClassId) (B : Nat → Nat → Nat) (ids : List (Nat × Nat)) (hst : zSt B ids) (N : Nat) (x0 : Nat) (hx0 : (19, x0) ∈ ids) (x1 : Int32) (x2 : Int32) {z : St} {r : Int32} {z' : St} (hW : zWf ids z) (h : fX19_link N x0 x1 x2 z = some (r, z')) : zM l yX19_link (zws yX19_link cX19_link 7 (some .boolean)) rmX19_link D cy B ids [.ref (B 19 x0), .int x1, .int x2] (some (.int r)) (r = 0 ∨ r = 1) z z' :=
  zM_of hst hW (by decide +kernel) (Nat.le_of_ble_eq_true rfl) (fun p e s m args below meth c A ls F hA hret hlocks hr hl => bX19_link_0 hst F hA (zEnd_z F hret hlocks) x0 x1 x2 hx0 hr hl h)
abbrev rmX19_fates : Room := { frames := 1, cells := 0, slots := 0, locals := 22 }
theorem hdX19_fates : yX19_fates.cls ≠ "java/lang/invoke/MethodHandle" ∧ yX19_fates.cls ≠ "java/lang/invoke/VarHandle" ∧ (parseMethodDescriptor yX19_fates.desc).map (fun d => d.parameters.length) = some 3 := by decide +kernel
theorem hroX19_fates_X19_fails : rmX19_fails.frames + 1 ≤ rmX19_fates.frames ∧ 8 + (3 + 11) + rmX19_fails.locals ≤ rmX19_fates.locals := by decide
theorem hroX19_fates_X19_isNet : rmX19_isNet.frames + 1 ≤ rmX19_fates.frames ∧ 8 + (2 + 11) + rmX19_isNet.locals ≤ rmX19_fates.locals := by decide
section SX19_fates
variable {p : Program} {l : Launch} {e : Env} {s : State} {m : MethodId} {args : Array Value} {below : List Frame} {meth : Method} {c : Code} {Q : State → Prop} {D : va_G} {cy : Nat → ClassId} {B : Nat → Nat → Nat} {ids : List (Nat × Nat)} {A : Nat → Prop}
def fX19_fates_76b (N : Nat) (K76 : Int64 → Int32 → Option Nat → Int32 → St → Option (Int32 × St)) (x2 : Int64) (x4 : Int32) (x5 : Option Nat) (x6 : Int32) (z : St) : Option (Int32 × St) := if x4 ≤ x6 then (zd x5 fun a2 => some ((zgI z 16 7 a2), z)) else (zd x5 fun a3 => zk (zgI z 16 7 a3) 64 <| zl (zsA z 165 a3 (Int32.toNatClampNeg (zgI z 16 7 a3)) (Int64.toInt32 ((x2 >>> ((((2 : Int32) * x6)).toInt64 &&& 63)) &&& (3 : Int64)))) fun z5 => zl (zsI z5 16 7 a3 ((zgI z5 16 7 a3) + (1 : Int32))) fun z6 => zl (x6 + 1) fun v7 => K76 x2 x4 (some a3) v7 z6)
def fX19_fates_76 (N : Nat)  : Nat → Int64 → Int32 → Option Nat → Int32 → St → Option (Int32 × St)
  | 0 => fun _ _ _ _ _ => none
  | n + 1 => fX19_fates_76b N (fX19_fates_76 N  n)
set_option maxHeartbeats 4000000 in
set_option maxRecDepth 100000 in
theorem bX19_fates_76 (hst : zSt B ids) (F : zFx p m c cX19_fates 7 s args RX19 D cy B ids A) (hA : ∀ q : Nat, s.heap.size ≤ q → A q) {r : Int32} {z' : St} (E : zEnd p l e rmX19_fates s m args below meth c cX19_fates D cy B ids A Q (some (.int r)) z' .ireturn True) {N : Nat} {K76 : Int64 → Int32 → Option Nat → Int32 → St → Option (Int32 × St)} (hK76 : ∀ (x2 : Int64) (x4 : Int32) (x5 : Option Nat) (x6 : Int32) (hx5 : ∀ t, x5 = some t → (16, t) ∈ ids) {z : St} {H : Heap} {locs : List Loc} {ls : Array Slot} (hr : zRep D cy B ids A s.heap z H locs) (hl : lv_has ls 7 [(2, .long x2), (4, .int x4), (5, va_rf (Option.map (B 16) x5)), (6, .int x6)]), K76 x2 x4 x5 x6 z = some (r, z') → W p l e rmX19_fates s m args below meth c H locs 0 0 Q (F0 m 76 ls [])) (x2 : Int64) (x4 : Int32) (x5 : Option Nat) (x6 : Int32) (hx5 : ∀ t, x5 = some t → (16, t) ∈ ids) {z : St} {H : Heap} {locs : List Loc} {ls : Array Slot} (hr : zRep D cy B ids A s.heap z H locs) (hl : lv_has ls 7 [(2, .long x2), (4, .int x4), (5, va_rf (Option.map (B 16) x5)), (6, .int x6)]) (h : fX19_fates_76b N K76 x2 x4 x5 x6 z = some (r, z')) : W p l e rmX19_fates s m args below meth c H locs 0 0 Q (F0 m 76 ls []) := by
  unfold fX19_fates_76b at h
  refine lv_iload F.1 F.2.1 dX19_fates_76 (lv_at hl 3 rfl) ?_
  refine lv_iload F.1 F.2.1 dX19_fates_78 (lv_at hl 1 rfl) ?_
  refine lv_icmp_ge (tgt := 122) F.1 F.2.1 dX19_fates_80 (by decide) (fun c1 => ?_) (fun c1 => ?_)
  · replace h := zi_t c1 h
    refine zr_aload F.1 F.2.1 dX19_fates_122 (lv_at hl 2 rfl) ?_
    replace h := zd_some h
    obtain ⟨a2, rfl, h⟩ := h
    refine gf19_162 F (hx5 _ rfl) hr dX19_fates_124 ?_
    obtain ⟨rfl, rfl⟩ := zret h
    exact E _ _ _ _ dX19_fates_127 trivial hr
  · replace h := zi_f c1 h
    refine zr_aload F.1 F.2.1 dX19_fates_83 (lv_at hl 2 rfl) ?_
    replace h := zd_some h
    obtain ⟨a3, rfl, h⟩ := h
    refine gf19_165 F (hx5 _ rfl) hr dX19_fates_85 ?_
    refine lv_aload F.1 F.2.1 dX19_fates_88 (lv_at hl 2 rfl) ?_
    refine gf19_162 F (hx5 _ rfl) hr dX19_fates_90 ?_
    refine lv_lload_n F.1 F.2.1 dX19_fates_93 rfl (lv_at hl 0 rfl) ?_
    refine lv_iconst (v := (2 : Int32)) F.1 F.2.1 dX19_fates_94 (by decide) ?_
    refine lv_iload F.1 F.2.1 dX19_fates_95 (lv_at hl 3 rfl) ?_
    refine lv_imul F.1 F.2.1 dX19_fates_97 ?_
    refine lv_lshr F.1 F.2.1 dX19_fates_98 rfl ?_
    refine lv_ldc2 (v := (3)) F.1 F.2.1 F.2.2.2.1 (F.2.2.2.2.1 _ zq_2573) dX19_fates_99 ?_
    refine lv_land F.1 F.2.1 dX19_fates_102 ?_
    refine lv_l2i F.1 F.2.1 dX19_fates_103 rfl ?_
    replace h := zk_some h
    obtain ⟨c4, h⟩ := h
    refine zr_iast (k := 165) (by decide) rfl (by decide) F (zal_a F (hx5 _ rfl) (j := 6) rfl) hr dX19_fates_104 c4 (fun H locs z5 ez5 hr => ?_)
    replace h := zl_sub ez5 h
    clear ez5
    refine lv_aload F.1 F.2.1 dX19_fates_105 (lv_at hl 2 rfl) ?_
    refine lv_dup F.1 F.2.1 dX19_fates_107 rfl ?_
    refine gf19_162 F (hx5 _ rfl) hr dX19_fates_108 ?_
    refine lv_iconst (v := (1 : Int32)) F.1 F.2.1 dX19_fates_111 (by decide) ?_
    refine lv_iadd F.1 F.2.1 dX19_fates_112 ?_
    refine pf19_162 F (hx5 _ rfl) hr dX19_fates_113 ((zgI z5 16 7 a3) + (1 : Int32)) (fun H locs z6 ez6 hr => ?_)
    replace h := zl_sub ez6 h
    clear ez6
    obtain ⟨v7, ev7⟩ : ∃ y : Int32, y = (x6 + 1) := ⟨_, rfl⟩
    replace h := zl_sub ev7 h
    refine lv_iinc (v := v7) (lv' := [(6, .int v7), (2, .long x2), (4, .int x4), (5, .ref (B 16 a3))]) F.1 F.2.1 dX19_fates_116 hl (k := 3) rfl (by rw [ev7]; rfl) (by decide) rfl (fun ls hl => ?_)
    refine lv_goto (tgt := 76) F.1 F.2.1 dX19_fates_119 (by decide) ?_
    exact hK76 x2 x4 (some a3) v7 (zal_s (hx5 _ rfl)) hr (lv_sub hl [1, 2, 3, 0] rfl) h
theorem lX19_fates_76 (hst : zSt B ids) (F : zFx p m c cX19_fates 7 s args RX19 D cy B ids A) (hA : ∀ q : Nat, s.heap.size ≤ q → A q) {r : Int32} {z' : St} (E : zEnd p l e rmX19_fates s m args below meth c cX19_fates D cy B ids A Q (some (.int r)) z' .ireturn True) {N : Nat}  : ∀ (n : Nat) (x2 : Int64) (x4 : Int32) (x5 : Option Nat) (x6 : Int32) (hx5 : ∀ t, x5 = some t → (16, t) ∈ ids) {z : St} {H : Heap} {locs : List Loc} {ls : Array Slot} (hr : zRep D cy B ids A s.heap z H locs) (hl : lv_has ls 7 [(2, .long x2), (4, .int x4), (5, va_rf (Option.map (B 16) x5)), (6, .int x6)]), fX19_fates_76 N  n x2 x4 x5 x6 z = some (r, z') → W p l e rmX19_fates s m args below meth c H locs 0 0 Q (F0 m 76 ls []) := by
  intro n
  induction n with
  | zero => intro x2 x4 x5 x6 hx5 z H locs ls hr hl h; cases h
  | succ n ih => intro x2 x4 x5 x6 hx5 z H locs ls hr hl h; exact bX19_fates_76 hst F hA E ih x2 x4 x5 x6 hx5 hr hl h
def fX19_fates_57 (N : Nat)  (x0 : Nat) (x1 : Int32) (x2 : Int64) (x4 : Int32) (s0 : Nat) (s1 : Int32) (s2 : Int32) (z : St) : Option (Int32 × St) := zc (fX19_fails N s0 s1 s2 z) fun r1 z2 => if r1 = 0 then (zk x1 24 <| zl (zgQ z2 187 x0 (Int32.toNatClampNeg x1)) fun y7 => fX19_fates_76 N N x2 x4 y7 (0 : Int32) z2) else (some ((0 : Int32), z2))
set_option maxHeartbeats 4000000 in
set_option maxRecDepth 100000 in
theorem bX19_fates_57 (hst : zSt B ids) (F : zFx p m c cX19_fates 7 s args RX19 D cy B ids A) (hA : ∀ q : Nat, s.heap.size ≤ q → A q) {r : Int32} {z' : St} (E : zEnd p l e rmX19_fates s m args below meth c cX19_fates D cy B ids A Q (some (.int r)) z' .ireturn True) {N : Nat}  (x0 : Nat) (x1 : Int32) (x2 : Int64) (x4 : Int32) (s0 : Nat) (s1 : Int32) (s2 : Int32) (hx0 : (19, x0) ∈ ids) (hs0 : (19, s0) ∈ ids) {z : St} {H : Heap} {locs : List Loc} {ls : Array Slot} (hr : zRep D cy B ids A s.heap z H locs) (hl : lv_has ls 7 [(0, .ref (B 19 x0)), (1, .int x1), (2, .long x2), (4, .int x4)]) (h : fX19_fates_57 N x0 x1 x2 x4 s0 s1 s2 z = some (r, z')) : W p l e rmX19_fates s m args below meth c H locs 0 0 Q (F0 m 57 ls [.int s2, .int s1, .ref (B 19 s0)]) := by
  unfold fX19_fates_57 at h
  replace h := zc_some h
  obtain ⟨r1, z2, hc3, h⟩ := h
  refine zr_calli (zrun_V (As := [.int s1, .int s2]) (rest := []) zq_2402 zq_2404 zs_X19_fails zq_2405 zq_4 hdX19_fails (by decide) (T := TX19) (N := 32) rfl (okX19_fails l D cy B ids hst N s0 hs0 s1  s2  hr.2.2 hc3) F hr hs0 hl.1 rfl (by decide) dX19_fates_57 rfl rfl hroX19_fates_X19_fails ⟨Nat.zero_le _, Nat.zero_le _⟩) F hA hr (fun H locs hw4 hr => ?_)
  clear hc3
  refine lv_if_eq (tgt := 65) F.1 F.2.1 dX19_fates_60 (by decide) (fun c5 => ?_) (fun c5 => ?_)
  · replace h := zi_t c5 h
    refine lv_aload_n F.1 F.2.1 dX19_fates_65 rfl (lv_at hl 0 rfl) ?_
    refine gf19_120 F hx0 hr dX19_fates_66 ?_
    refine lv_iload_n F.1 F.2.1 dX19_fates_69 rfl (lv_at hl 1 rfl) ?_
    replace h := zk_some h
    obtain ⟨c6, h⟩ := h
    refine zr_aaldv (k := 187) (by decide) rfl rfl (zlen_d (by decide)) F (zal_a F hx0 (j := 20) rfl) hr dX19_fates_70 c6 (fun y7 ey7 => ?_)
    replace h := zl_sub ey7 h
    have hy7 := zal_q hr (zal_a F hx0 (j := 20) rfl) rfl ey7
    clear ey7
    refine zr_astore (lv' := [(5, va_rf (Option.map (B 16) y7)), (0, .ref (B 19 x0)), (1, .int x1), (2, .long x2), (4, .int x4)]) F.1 F.2.1 dX19_fates_71 hl (by decide) rfl (fun ls hl => ?_)
    refine lv_iconst (v := (0 : Int32)) F.1 F.2.1 dX19_fates_73 (by decide) ?_
    refine lv_istore (lv' := [(6, .int (0 : Int32)), (5, va_rf (Option.map (B 16) y7)), (0, .ref (B 19 x0)), (1, .int x1), (2, .long x2), (4, .int x4)]) F.1 F.2.1 dX19_fates_74 hl (by decide) (by simp only [List.filter, zrf_cat]; rfl) (fun ls hl => ?_)
    exact lX19_fates_76 hst F hA E  _ x2 x4 y7 (0 : Int32) hy7 hr (lv_sub hl [4, 5, 1, 0] rfl) h
  · replace h := zi_f c5 h
    refine lv_iconst (v := (0 : Int32)) F.1 F.2.1 dX19_fates_63 (by decide) ?_
    obtain ⟨rfl, rfl⟩ := zret h
    exact E _ _ _ _ dX19_fates_64 trivial hr
def fX19_fates_56 (N : Nat)  (x0 : Nat) (x1 : Int32) (x2 : Int64) (x4 : Int32) (s0 : Nat) (s1 : Int32) (z : St) : Option (Int32 × St) := fX19_fates_57 N x0 x1 x2 x4 s0 s1 (0 : Int32) z
set_option maxHeartbeats 4000000 in
set_option maxRecDepth 100000 in
theorem bX19_fates_56 (hst : zSt B ids) (F : zFx p m c cX19_fates 7 s args RX19 D cy B ids A) (hA : ∀ q : Nat, s.heap.size ≤ q → A q) {r : Int32} {z' : St} (E : zEnd p l e rmX19_fates s m args below meth c cX19_fates D cy B ids A Q (some (.int r)) z' .ireturn True) {N : Nat}  (x0 : Nat) (x1 : Int32) (x2 : Int64) (x4 : Int32) (s0 : Nat) (s1 : Int32) (hx0 : (19, x0) ∈ ids) (hs0 : (19, s0) ∈ ids) {z : St} {H : Heap} {locs : List Loc} {ls : Array Slot} (hr : zRep D cy B ids A s.heap z H locs) (hl : lv_has ls 7 [(0, .ref (B 19 x0)), (1, .int x1), (2, .long x2), (4, .int x4)]) (h : fX19_fates_56 N x0 x1 x2 x4 s0 s1 z = some (r, z')) : W p l e rmX19_fates s m args below meth c H locs 0 0 Q (F0 m 56 ls [.int s1, .ref (B 19 s0)]) := by
  unfold fX19_fates_56 at h
  refine lv_iconst (v := (0 : Int32)) F.1 F.2.1 dX19_fates_56 (by decide) ?_
  exact bX19_fates_57 hst F hA E  x0 x1 x2 x4 s0 s1 (0 : Int32) hx0 hs0 hr (lv_sub hl [0, 1, 2, 3] rfl) h
def fX19_fates_27 (N : Nat)  (x0 : Nat) (x1 : Int32) (x2 : Int64) (x4 : Int32) (s0 : Nat) (s1 : Int32) (z : St) : Option (Int32 × St) := zc (fX19_isNet N x0 x1 z) fun r1 z2 => if r1 = 0 then (fX19_fates_56 N x0 x1 x2 x4 s0 s1 z2) else (zk x1 24 <| zl (zgQ z2 187 x0 (Int32.toNatClampNeg x1)) fun y7 => zd y7 fun a8 => if ((zgI z2 16 7 a8) + x4) ≤ (64 : Int32) then (fX19_fates_56 N x0 x1 x2 x4 s0 s1 z2) else (fX19_fates_57 N x0 x1 x2 x4 s0 s1 (1 : Int32) z2))
set_option maxHeartbeats 4000000 in
set_option maxRecDepth 100000 in
theorem bX19_fates_27 (hst : zSt B ids) (F : zFx p m c cX19_fates 7 s args RX19 D cy B ids A) (hA : ∀ q : Nat, s.heap.size ≤ q → A q) {r : Int32} {z' : St} (E : zEnd p l e rmX19_fates s m args below meth c cX19_fates D cy B ids A Q (some (.int r)) z' .ireturn True) {N : Nat}  (x0 : Nat) (x1 : Int32) (x2 : Int64) (x4 : Int32) (s0 : Nat) (s1 : Int32) (hx0 : (19, x0) ∈ ids) (hs0 : (19, s0) ∈ ids) {z : St} {H : Heap} {locs : List Loc} {ls : Array Slot} (hr : zRep D cy B ids A s.heap z H locs) (hl : lv_has ls 7 [(0, .ref (B 19 x0)), (1, .int x1), (2, .long x2), (4, .int x4)]) (h : fX19_fates_27 N x0 x1 x2 x4 s0 s1 z = some (r, z')) : W p l e rmX19_fates s m args below meth c H locs 0 0 Q (F0 m 27 ls [.int s1, .ref (B 19 s0)]) := by
  unfold fX19_fates_27 at h
  refine lv_aload_n F.1 F.2.1 dX19_fates_27 rfl (lv_at hl 0 rfl) ?_
  refine lv_iload_n F.1 F.2.1 dX19_fates_28 rfl (lv_at hl 1 rfl) ?_
  replace h := zc_some h
  obtain ⟨r1, z2, hc3, h⟩ := h
  refine zr_calli (zrun_V (As := [.int x1]) (rest := [.int s1, .ref (B 19 s0)]) zq_2455 zq_2457 zs_X19_isNet zq_2458 zq_4 hdX19_isNet (by decide) (T := TX19) (N := 32) rfl (okX19_isNet l D cy B ids hst N x0 hx0 x1  hr.2.2 hc3) F hr hx0 hl.1 rfl (Nat.le_of_ble_eq_true rfl) dX19_fates_29 rfl rfl hroX19_fates_X19_isNet ⟨Nat.zero_le _, Nat.zero_le _⟩) F hA hr (fun H locs hw4 hr => ?_)
  clear hc3
  refine lv_if_eq (tgt := 56) F.1 F.2.1 dX19_fates_32 (by decide) (fun c5 => ?_) (fun c5 => ?_)
  · replace h := zi_t c5 h
    exact bX19_fates_56 hst F hA E  x0 x1 x2 x4 s0 s1 hx0 hs0 hr (lv_sub hl [0, 1, 2, 3] rfl) h
  · replace h := zi_f c5 h
    refine lv_aload_n F.1 F.2.1 dX19_fates_35 rfl (lv_at hl 0 rfl) ?_
    refine gf19_120 F hx0 hr dX19_fates_36 ?_
    refine lv_iload_n F.1 F.2.1 dX19_fates_39 rfl (lv_at hl 1 rfl) ?_
    replace h := zk_some h
    obtain ⟨c6, h⟩ := h
    refine zr_aaldv (k := 187) (by decide) rfl rfl (zlen_d (by decide)) F (zal_a F hx0 (j := 20) rfl) hr dX19_fates_40 c6 (fun y7 ey7 => ?_)
    replace h := zl_sub ey7 h
    have hy7 := zal_q hr (zal_a F hx0 (j := 20) rfl) rfl ey7
    clear ey7
    replace h := zd_some h
    obtain ⟨a8, rfl, h⟩ := h
    refine gf19_162 F (hy7 _ rfl) hr dX19_fates_41 ?_
    refine lv_iload F.1 F.2.1 dX19_fates_44 (lv_at hl 3 rfl) ?_
    refine lv_iadd F.1 F.2.1 dX19_fates_46 ?_
    refine lv_bipush (v := (64 : Int32)) F.1 F.2.1 dX19_fates_47 (by decide) ?_
    refine lv_icmp_le (tgt := 56) F.1 F.2.1 dX19_fates_49 (by decide) (fun c9 => ?_) (fun c9 => ?_)
    · replace h := zi_t c9 h
      exact bX19_fates_56 hst F hA E  x0 x1 x2 x4 s0 s1 hx0 hs0 hr (lv_sub hl [0, 1, 2, 3] rfl) h
    · replace h := zi_f c9 h
      refine lv_iconst (v := (1 : Int32)) F.1 F.2.1 dX19_fates_52 (by decide) ?_
      refine lv_goto (tgt := 57) F.1 F.2.1 dX19_fates_53 (by decide) ?_
      exact bX19_fates_57 hst F hA E  x0 x1 x2 x4 s0 s1 (1 : Int32) hx0 hs0 hr (lv_sub hl [0, 1, 2, 3] rfl) h
def fX19_fates_22 (N : Nat)  (x0 : Nat) (x1 : Int32) (x2 : Int64) (x4 : Int32) (s0 : Nat) (z : St) : Option (Int32 × St) := fX19_fates_27 N x0 x1 x2 x4 s0 (1 : Int32) z
set_option maxHeartbeats 4000000 in
set_option maxRecDepth 100000 in
theorem bX19_fates_22 (hst : zSt B ids) (F : zFx p m c cX19_fates 7 s args RX19 D cy B ids A) (hA : ∀ q : Nat, s.heap.size ≤ q → A q) {r : Int32} {z' : St} (E : zEnd p l e rmX19_fates s m args below meth c cX19_fates D cy B ids A Q (some (.int r)) z' .ireturn True) {N : Nat}  (x0 : Nat) (x1 : Int32) (x2 : Int64) (x4 : Int32) (s0 : Nat) (hx0 : (19, x0) ∈ ids) (hs0 : (19, s0) ∈ ids) {z : St} {H : Heap} {locs : List Loc} {ls : Array Slot} (hr : zRep D cy B ids A s.heap z H locs) (hl : lv_has ls 7 [(0, .ref (B 19 x0)), (1, .int x1), (2, .long x2), (4, .int x4)]) (h : fX19_fates_22 N x0 x1 x2 x4 s0 z = some (r, z')) : W p l e rmX19_fates s m args below meth c H locs 0 0 Q (F0 m 22 ls [.ref (B 19 s0)]) := by
  unfold fX19_fates_22 at h
  refine lv_iconst (v := (1 : Int32)) F.1 F.2.1 dX19_fates_22 (by decide) ?_
  refine lv_goto (tgt := 27) F.1 F.2.1 dX19_fates_23 (by decide) ?_
  exact bX19_fates_27 hst F hA E  x0 x1 x2 x4 s0 (1 : Int32) hx0 hs0 hr (lv_sub hl [0, 1, 2, 3] rfl) h
def fX19_fates (N : Nat)  (x0 : Nat) (x1 : Int32) (x2 : Int64) (x4 : Int32) (z : St) : Option (Int32 × St) := zc (fX19_isNet N x0 x1 z) fun r1 z2 => if r1 = 0 then (fX19_fates_22 N x0 x1 x2 x4 x0 z2) else (if x4 < (1 : Int32) then (fX19_fates_22 N x0 x1 x2 x4 x0 z2) else (if x4 ≤ (32 : Int32) then (fX19_fates_27 N x0 x1 x2 x4 x0 (0 : Int32) z2) else (fX19_fates_22 N x0 x1 x2 x4 x0 z2)))
set_option maxHeartbeats 4000000 in
set_option maxRecDepth 100000 in
theorem bX19_fates_0 (hst : zSt B ids) (F : zFx p m c cX19_fates 7 s args RX19 D cy B ids A) (hA : ∀ q : Nat, s.heap.size ≤ q → A q) {r : Int32} {z' : St} (E : zEnd p l e rmX19_fates s m args below meth c cX19_fates D cy B ids A Q (some (.int r)) z' .ireturn True) {N : Nat}  (x0 : Nat) (x1 : Int32) (x2 : Int64) (x4 : Int32) (hx0 : (19, x0) ∈ ids) {z : St} {H : Heap} {locs : List Loc} {ls : Array Slot} (hr : zRep D cy B ids A s.heap z H locs) (hl : lv_has ls 7 [(0, .ref (B 19 x0)), (1, .int x1), (2, .long x2), (4, .int x4)]) (h : fX19_fates N x0 x1 x2 x4 z = some (r, z')) : W p l e rmX19_fates s m args below meth c H locs 0 0 Q (F0 m 0 ls []) := by
  unfold fX19_fates at h
  refine lv_aload_n F.1 F.2.1 dX19_fates_0 rfl (lv_at hl 0 rfl) ?_
  refine lv_aload_n F.1 F.2.1 dX19_fates_1 rfl (lv_at hl 0 rfl) ?_
  refine lv_iload_n F.1 F.2.1 dX19_fates_2 rfl (lv_at hl 1 rfl) ?_
  replace h := zc_some h
  obtain ⟨r1, z2, hc3, h⟩ := h
  refine zr_calli (zrun_V (As := [.int x1]) (rest := [.ref (B 19 x0)]) zq_2455 zq_2457 zs_X19_isNet zq_2458 zq_4 hdX19_isNet (by decide) (T := TX19) (N := 32) rfl (okX19_isNet l D cy B ids hst N x0 hx0 x1  hr.2.2 hc3) F hr hx0 hl.1 rfl (Nat.le_of_ble_eq_true rfl) dX19_fates_3 rfl rfl hroX19_fates_X19_isNet ⟨Nat.zero_le _, Nat.zero_le _⟩) F hA hr (fun H locs hw4 hr => ?_)
  clear hc3
  refine lv_if_eq (tgt := 22) F.1 F.2.1 dX19_fates_6 (by decide) (fun c5 => ?_) (fun c5 => ?_)
  · replace h := zi_t c5 h
    exact bX19_fates_22 hst F hA E  x0 x1 x2 x4 x0 hx0 hx0 hr (lv_sub hl [0, 1, 2, 3] rfl) h
  · replace h := zi_f c5 h
    refine lv_iload F.1 F.2.1 dX19_fates_9 (lv_at hl 3 rfl) ?_
    refine lv_iconst (v := (1 : Int32)) F.1 F.2.1 dX19_fates_11 (by decide) ?_
    refine lv_icmp_lt (tgt := 22) F.1 F.2.1 dX19_fates_12 (by decide) (fun c6 => ?_) (fun c6 => ?_)
    · replace h := zi_t c6 h
      exact bX19_fates_22 hst F hA E  x0 x1 x2 x4 x0 hx0 hx0 hr (lv_sub hl [0, 1, 2, 3] rfl) h
    · replace h := zi_f c6 h
      refine lv_iload F.1 F.2.1 dX19_fates_15 (lv_at hl 3 rfl) ?_
      refine lv_bipush (v := (32 : Int32)) F.1 F.2.1 dX19_fates_17 (by decide) ?_
      refine lv_icmp_le (tgt := 26) F.1 F.2.1 dX19_fates_19 (by decide) (fun c7 => ?_) (fun c7 => ?_)
      · replace h := zi_t c7 h
        refine lv_iconst (v := (0 : Int32)) F.1 F.2.1 dX19_fates_26 (by decide) ?_
        exact bX19_fates_27 hst F hA E  x0 x1 x2 x4 x0 (0 : Int32) hx0 hx0 hr (lv_sub hl [0, 1, 2, 3] rfl) h
      · replace h := zi_f c7 h
        exact bX19_fates_22 hst F hA E  x0 x1 x2 x4 x0 hx0 hx0 hr (lv_sub hl [0, 1, 2, 3] rfl) h
end SX19_fates
set_option maxRecDepth 100000 in
theorem okX19_fates (l : Launch) (D : va_G) (cy : Nat → ClassId) (B : Nat → Nat → Nat) (ids : List (Nat × Nat)) (hst : zSt B ids) (N : Nat) (x0 : Nat) (hx0 : (19, x0) ∈ ids) (x1 : Int32) (x2 : Int64) (x4 : Int32) {z : St} {r : Int32} {z' : St} (hW : zWf ids z) (h : fX19_fates N x0 x1 x2 x4 z = some (r, z')) : zM l yX19_fates (zws yX19_fates cX19_fates 7 (some .int)) rmX19_fates D cy B ids [.ref (B 19 x0), .int x1, .long x2, .int x4] (some (.int r)) True z z' :=
  zM_of hst hW (by decide +kernel) (Nat.le_of_ble_eq_true rfl) (fun p e s m args below meth c A ls F hA hret hlocks hr hl => bX19_fates_0 hst F hA (zEnd_i F hret hlocks) x0 x1 x2 x4 hx0 hr hl h)
abbrev rmX19_run : Room := { frames := 18, cells := 0, slots := 0, locals := 472 }
theorem hdX19_run : yX19_run.cls ≠ "java/lang/invoke/MethodHandle" ∧ yX19_run.cls ≠ "java/lang/invoke/VarHandle" ∧ (parseMethodDescriptor yX19_run.desc).map (fun d => d.parameters.length) = some 1 := by decide +kernel
theorem hroX19_run_X19_fails : rmX19_fails.frames + 1 ≤ rmX19_run.frames ∧ 8 + (3 + 11) + rmX19_fails.locals ≤ rmX19_run.locals := by decide
theorem hroX19_run_X19_tick : rmX19_tick.frames + 1 ≤ rmX19_run.frames ∧ 8 + (4 + 11) + rmX19_tick.locals ≤ rmX19_run.locals := by decide
section SX19_run
variable {p : Program} {l : Launch} {e : Env} {s : State} {m : MethodId} {args : Array Value} {below : List Frame} {meth : Method} {c : Code} {Q : State → Prop} {D : va_G} {cy : Nat → ClassId} {B : Nat → Nat → Nat} {ids : List (Nat × Nat)} {A : Nat → Prop}
def fX19_run_45b (N : Nat) (K45 : Nat → Int32 → Int32 → St → Option (Int32 × St)) (x0 : Nat) (x1 : Int32) (x2 : Int32) (z : St) : Option (Int32 × St) := if x1 ≤ x2 then (some ((zgI z 19 24 x0), z)) else (zc (fX19_tick N x0 z) fun _ z3 => zl (x2 + 1) fun v6 => K45 x0 x1 v6 z3)
def fX19_run_45 (N : Nat)  : Nat → Nat → Int32 → Int32 → St → Option (Int32 × St)
  | 0 => fun _ _ _ _ => none
  | n + 1 => fX19_run_45b N (fX19_run_45 N  n)
set_option maxHeartbeats 4000000 in
set_option maxRecDepth 100000 in
theorem bX19_run_45 (hst : zSt B ids) (F : zFx p m c cX19_run 3 s args RX19 D cy B ids A) (hA : ∀ q : Nat, s.heap.size ≤ q → A q) {r : Int32} {z' : St} (E : zEnd p l e rmX19_run s m args below meth c cX19_run D cy B ids A Q (some (.int r)) z' .ireturn True) {N : Nat} {K45 : Nat → Int32 → Int32 → St → Option (Int32 × St)} (hK45 : ∀ (x0 : Nat) (x1 : Int32) (x2 : Int32) (hx0 : (19, x0) ∈ ids) {z : St} {H : Heap} {locs : List Loc} {ls : Array Slot} (hr : zRep D cy B ids A s.heap z H locs) (hl : lv_has ls 3 [(0, .ref (B 19 x0)), (1, .int x1), (2, .int x2)]), K45 x0 x1 x2 z = some (r, z') → W p l e rmX19_run s m args below meth c H locs 0 0 Q (F0 m 45 ls [])) (x0 : Nat) (x1 : Int32) (x2 : Int32) (hx0 : (19, x0) ∈ ids) {z : St} {H : Heap} {locs : List Loc} {ls : Array Slot} (hr : zRep D cy B ids A s.heap z H locs) (hl : lv_has ls 3 [(0, .ref (B 19 x0)), (1, .int x1), (2, .int x2)]) (h : fX19_run_45b N K45 x0 x1 x2 z = some (r, z')) : W p l e rmX19_run s m args below meth c H locs 0 0 Q (F0 m 45 ls []) := by
  unfold fX19_run_45b at h
  refine lv_iload_n F.1 F.2.1 dX19_run_45 rfl (lv_at hl 2 rfl) ?_
  refine lv_iload_n F.1 F.2.1 dX19_run_46 rfl (lv_at hl 1 rfl) ?_
  refine lv_icmp_ge (tgt := 60) F.1 F.2.1 dX19_run_47 (by decide) (fun c1 => ?_) (fun c1 => ?_)
  · replace h := zi_t c1 h
    refine lv_aload_n F.1 F.2.1 dX19_run_60 rfl (lv_at hl 0 rfl) ?_
    refine gf19_143 F hx0 hr dX19_run_61 ?_
    obtain ⟨rfl, rfl⟩ := zret h
    exact E _ _ _ _ dX19_run_64 trivial hr
  · replace h := zi_f c1 h
    refine lv_aload_n F.1 F.2.1 dX19_run_50 rfl (lv_at hl 0 rfl) ?_
    replace h := zc_some h
    obtain ⟨r2, z3, hc4, h⟩ := h
    refine zr_callv (zrun_V (As := []) (rest := []) zq_2579 zq_2581 zs_X19_tick zq_2582 zq_4 hdX19_tick (by decide) (T := TX19) (N := 32) rfl (okX19_tick l D cy B ids hst N x0 hx0 hr.2.2 hc4) F hr hx0 hl.1 rfl (by decide) dX19_run_51 rfl rfl hroX19_run_X19_tick ⟨Nat.zero_le _, Nat.zero_le _⟩) F hA hr (fun H locs hw5 hr => ?_)
    clear hc4
    obtain ⟨v6, ev6⟩ : ∃ y : Int32, y = (x2 + 1) := ⟨_, rfl⟩
    replace h := zl_sub ev6 h
    refine lv_iinc (v := v6) (lv' := [(2, .int v6), (0, .ref (B 19 x0)), (1, .int x1)]) F.1 F.2.1 dX19_run_54 hl (k := 2) rfl (by rw [ev6]; rfl) (by decide) rfl (fun ls hl => ?_)
    refine lv_goto (tgt := 45) F.1 F.2.1 dX19_run_57 (by decide) ?_
    exact hK45 x0 x1 v6 hx0 hr (lv_sub hl [1, 2, 0] rfl) h
theorem lX19_run_45 (hst : zSt B ids) (F : zFx p m c cX19_run 3 s args RX19 D cy B ids A) (hA : ∀ q : Nat, s.heap.size ≤ q → A q) {r : Int32} {z' : St} (E : zEnd p l e rmX19_run s m args below meth c cX19_run D cy B ids A Q (some (.int r)) z' .ireturn True) {N : Nat}  : ∀ (n : Nat) (x0 : Nat) (x1 : Int32) (x2 : Int32) (hx0 : (19, x0) ∈ ids) {z : St} {H : Heap} {locs : List Loc} {ls : Array Slot} (hr : zRep D cy B ids A s.heap z H locs) (hl : lv_has ls 3 [(0, .ref (B 19 x0)), (1, .int x1), (2, .int x2)]), fX19_run_45 N  n x0 x1 x2 z = some (r, z') → W p l e rmX19_run s m args below meth c H locs 0 0 Q (F0 m 45 ls []) := by
  intro n
  induction n with
  | zero => intro x0 x1 x2 hx0 z H locs ls hr hl h; cases h
  | succ n ih => intro x0 x1 x2 hx0 z H locs ls hr hl h; exact bX19_run_45 hst F hA E ih x0 x1 x2 hx0 hr hl h
def fX19_run_35 (N : Nat)  (x0 : Nat) (x1 : Int32) (s0 : Nat) (s1 : Int32) (s2 : Int32) (z : St) : Option (Int32 × St) := zc (fX19_fails N s0 s1 s2 z) fun r1 z2 => if r1 = 0 then (fX19_run_45 N N x0 x1 (0 : Int32) z2) else (some ((0 : Int32), z2))
set_option maxHeartbeats 4000000 in
set_option maxRecDepth 100000 in
theorem bX19_run_35 (hst : zSt B ids) (F : zFx p m c cX19_run 3 s args RX19 D cy B ids A) (hA : ∀ q : Nat, s.heap.size ≤ q → A q) {r : Int32} {z' : St} (E : zEnd p l e rmX19_run s m args below meth c cX19_run D cy B ids A Q (some (.int r)) z' .ireturn True) {N : Nat}  (x0 : Nat) (x1 : Int32) (s0 : Nat) (s1 : Int32) (s2 : Int32) (hx0 : (19, x0) ∈ ids) (hs0 : (19, s0) ∈ ids) {z : St} {H : Heap} {locs : List Loc} {ls : Array Slot} (hr : zRep D cy B ids A s.heap z H locs) (hl : lv_has ls 3 [(0, .ref (B 19 x0)), (1, .int x1)]) (h : fX19_run_35 N x0 x1 s0 s1 s2 z = some (r, z')) : W p l e rmX19_run s m args below meth c H locs 0 0 Q (F0 m 35 ls [.int s2, .int s1, .ref (B 19 s0)]) := by
  unfold fX19_run_35 at h
  replace h := zc_some h
  obtain ⟨r1, z2, hc3, h⟩ := h
  refine zr_calli (zrun_V (As := [.int s1, .int s2]) (rest := []) zq_2402 zq_2404 zs_X19_fails zq_2405 zq_4 hdX19_fails (by decide) (T := TX19) (N := 32) rfl (okX19_fails l D cy B ids hst N s0 hs0 s1  s2  hr.2.2 hc3) F hr hs0 hl.1 rfl (by decide) dX19_run_35 rfl rfl hroX19_run_X19_fails ⟨Nat.zero_le _, Nat.zero_le _⟩) F hA hr (fun H locs hw4 hr => ?_)
  clear hc3
  refine lv_if_eq (tgt := 43) F.1 F.2.1 dX19_run_38 (by decide) (fun c5 => ?_) (fun c5 => ?_)
  · replace h := zi_t c5 h
    refine lv_iconst (v := (0 : Int32)) F.1 F.2.1 dX19_run_43 (by decide) ?_
    refine lv_istore_n (lv' := [(2, .int (0 : Int32)), (0, .ref (B 19 x0)), (1, .int x1)]) F.1 F.2.1 dX19_run_44 rfl hl (by decide) rfl (fun ls hl => ?_)
    exact lX19_run_45 hst F hA E  _ x0 x1 (0 : Int32) hx0 hr (lv_sub hl [1, 2, 0] rfl) h
  · replace h := zi_f c5 h
    refine lv_iconst (v := (0 : Int32)) F.1 F.2.1 dX19_run_41 (by decide) ?_
    obtain ⟨rfl, rfl⟩ := zret h
    exact E _ _ _ _ dX19_run_42 trivial hr
def fX19_run_18 (N : Nat)  (x0 : Nat) (x1 : Int32) (s0 : Nat) (s1 : Int32) (z : St) : Option (Int32 × St) := if ((zgI z 19 24 x0) + x1) ≤ (400000 : Int32) then (fX19_run_35 N x0 x1 s0 s1 (0 : Int32) z) else (fX19_run_35 N x0 x1 s0 s1 (1 : Int32) z)
set_option maxHeartbeats 4000000 in
set_option maxRecDepth 100000 in
theorem bX19_run_18 (hst : zSt B ids) (F : zFx p m c cX19_run 3 s args RX19 D cy B ids A) (hA : ∀ q : Nat, s.heap.size ≤ q → A q) {r : Int32} {z' : St} (E : zEnd p l e rmX19_run s m args below meth c cX19_run D cy B ids A Q (some (.int r)) z' .ireturn True) {N : Nat}  (x0 : Nat) (x1 : Int32) (s0 : Nat) (s1 : Int32) (hx0 : (19, x0) ∈ ids) (hs0 : (19, s0) ∈ ids) {z : St} {H : Heap} {locs : List Loc} {ls : Array Slot} (hr : zRep D cy B ids A s.heap z H locs) (hl : lv_has ls 3 [(0, .ref (B 19 x0)), (1, .int x1)]) (h : fX19_run_18 N x0 x1 s0 s1 z = some (r, z')) : W p l e rmX19_run s m args below meth c H locs 0 0 Q (F0 m 18 ls [.int s1, .ref (B 19 s0)]) := by
  unfold fX19_run_18 at h
  refine lv_aload_n F.1 F.2.1 dX19_run_18 rfl (lv_at hl 0 rfl) ?_
  refine gf19_143 F hx0 hr dX19_run_19 ?_
  refine lv_iload_n F.1 F.2.1 dX19_run_22 rfl (lv_at hl 1 rfl) ?_
  refine lv_iadd F.1 F.2.1 dX19_run_23 ?_
  refine lv_ldcw (v := (400000)) F.1 F.2.1 F.2.2.2.1 (F.2.2.2.2.1 _ zq_2578) dX19_run_24 ?_
  refine lv_icmp_le (tgt := 34) F.1 F.2.1 dX19_run_27 (by decide) (fun c1 => ?_) (fun c1 => ?_)
  · replace h := zi_t c1 h
    refine lv_iconst (v := (0 : Int32)) F.1 F.2.1 dX19_run_34 (by decide) ?_
    exact bX19_run_35 hst F hA E  x0 x1 s0 s1 (0 : Int32) hx0 hs0 hr (lv_sub hl [0, 1] rfl) h
  · replace h := zi_f c1 h
    refine lv_iconst (v := (1 : Int32)) F.1 F.2.1 dX19_run_30 (by decide) ?_
    refine lv_goto (tgt := 35) F.1 F.2.1 dX19_run_31 (by decide) ?_
    exact bX19_run_35 hst F hA E  x0 x1 s0 s1 (1 : Int32) hx0 hs0 hr (lv_sub hl [0, 1] rfl) h
def fX19_run_13 (N : Nat)  (x0 : Nat) (x1 : Int32) (s0 : Nat) (z : St) : Option (Int32 × St) := fX19_run_18 N x0 x1 s0 (1 : Int32) z
set_option maxHeartbeats 4000000 in
set_option maxRecDepth 100000 in
theorem bX19_run_13 (hst : zSt B ids) (F : zFx p m c cX19_run 3 s args RX19 D cy B ids A) (hA : ∀ q : Nat, s.heap.size ≤ q → A q) {r : Int32} {z' : St} (E : zEnd p l e rmX19_run s m args below meth c cX19_run D cy B ids A Q (some (.int r)) z' .ireturn True) {N : Nat}  (x0 : Nat) (x1 : Int32) (s0 : Nat) (hx0 : (19, x0) ∈ ids) (hs0 : (19, s0) ∈ ids) {z : St} {H : Heap} {locs : List Loc} {ls : Array Slot} (hr : zRep D cy B ids A s.heap z H locs) (hl : lv_has ls 3 [(0, .ref (B 19 x0)), (1, .int x1)]) (h : fX19_run_13 N x0 x1 s0 z = some (r, z')) : W p l e rmX19_run s m args below meth c H locs 0 0 Q (F0 m 13 ls [.ref (B 19 s0)]) := by
  unfold fX19_run_13 at h
  refine lv_iconst (v := (1 : Int32)) F.1 F.2.1 dX19_run_13 (by decide) ?_
  refine lv_goto (tgt := 18) F.1 F.2.1 dX19_run_14 (by decide) ?_
  exact bX19_run_18 hst F hA E  x0 x1 s0 (1 : Int32) hx0 hs0 hr (lv_sub hl [0, 1] rfl) h
def fX19_run (N : Nat)  (x0 : Nat) (x1 : Int32) (z : St) : Option (Int32 × St) := if x1 < (1 : Int32) then (fX19_run_13 N x0 x1 x0 z) else (if x1 ≤ (1000 : Int32) then (fX19_run_18 N x0 x1 x0 (0 : Int32) z) else (fX19_run_13 N x0 x1 x0 z))
set_option maxHeartbeats 4000000 in
set_option maxRecDepth 100000 in
theorem bX19_run_0 (hst : zSt B ids) (F : zFx p m c cX19_run 3 s args RX19 D cy B ids A) (hA : ∀ q : Nat, s.heap.size ≤ q → A q) {r : Int32} {z' : St} (E : zEnd p l e rmX19_run s m args below meth c cX19_run D cy B ids A Q (some (.int r)) z' .ireturn True) {N : Nat}  (x0 : Nat) (x1 : Int32) (hx0 : (19, x0) ∈ ids) {z : St} {H : Heap} {locs : List Loc} {ls : Array Slot} (hr : zRep D cy B ids A s.heap z H locs) (hl : lv_has ls 3 [(0, .ref (B 19 x0)), (1, .int x1)]) (h : fX19_run N x0 x1 z = some (r, z')) : W p l e rmX19_run s m args below meth c H locs 0 0 Q (F0 m 0 ls []) := by
  unfold fX19_run at h
  refine lv_aload_n F.1 F.2.1 dX19_run_0 rfl (lv_at hl 0 rfl) ?_
  refine lv_iload_n F.1 F.2.1 dX19_run_1 rfl (lv_at hl 1 rfl) ?_
  refine lv_iconst (v := (1 : Int32)) F.1 F.2.1 dX19_run_2 (by decide) ?_
  refine lv_icmp_lt (tgt := 13) F.1 F.2.1 dX19_run_3 (by decide) (fun c1 => ?_) (fun c1 => ?_)
  · replace h := zi_t c1 h
    exact bX19_run_13 hst F hA E  x0 x1 x0 hx0 hx0 hr (lv_sub hl [0, 1] rfl) h
  · replace h := zi_f c1 h
    refine lv_iload_n F.1 F.2.1 dX19_run_6 rfl (lv_at hl 1 rfl) ?_
    refine lv_sipush (v := (1000 : Int32)) F.1 F.2.1 dX19_run_7 (by decide) ?_
    refine lv_icmp_le (tgt := 17) F.1 F.2.1 dX19_run_10 (by decide) (fun c2 => ?_) (fun c2 => ?_)
    · replace h := zi_t c2 h
      refine lv_iconst (v := (0 : Int32)) F.1 F.2.1 dX19_run_17 (by decide) ?_
      exact bX19_run_18 hst F hA E  x0 x1 x0 (0 : Int32) hx0 hx0 hr (lv_sub hl [0, 1] rfl) h
    · replace h := zi_f c2 h
      exact bX19_run_13 hst F hA E  x0 x1 x0 hx0 hx0 hr (lv_sub hl [0, 1] rfl) h
end SX19_run
set_option maxRecDepth 100000 in
theorem okX19_run (l : Launch) (D : va_G) (cy : Nat → ClassId) (B : Nat → Nat → Nat) (ids : List (Nat × Nat)) (hst : zSt B ids) (N : Nat) (x0 : Nat) (hx0 : (19, x0) ∈ ids) (x1 : Int32) {z : St} {r : Int32} {z' : St} (hW : zWf ids z) (h : fX19_run N x0 x1 z = some (r, z')) : zM l yX19_run (zws yX19_run cX19_run 3 (some .int)) rmX19_run D cy B ids [.ref (B 19 x0), .int x1] (some (.int r)) True z z' :=
  zM_of hst hW (by decide +kernel) (Nat.le_of_ble_eq_true rfl) (fun p e s m args below meth c A ls F hA hret hlocks hr hl => bX19_run_0 hst F hA (zEnd_i F hret hlocks) x0 x1 hx0 hr hl h)
abbrev rmX19_listen : Room := { frames := 2, cells := 0, slots := 0, locals := 42 }
theorem hdX19_listen : yX19_listen.cls ≠ "java/lang/invoke/MethodHandle" ∧ yX19_listen.cls ≠ "java/lang/invoke/VarHandle" ∧ (parseMethodDescriptor yX19_listen.desc).map (fun d => d.parameters.length) = some 3 := by decide +kernel
theorem hroX19_listen_X19_fails : rmX19_fails.frames + 1 ≤ rmX19_listen.frames ∧ 8 + (3 + 11) + rmX19_fails.locals ≤ rmX19_listen.locals := by decide
theorem hroX19_listen_X19_isHost : rmX19_isHost.frames + 1 ≤ rmX19_listen.frames ∧ 8 + (2 + 11) + rmX19_isHost.locals ≤ rmX19_listen.locals := by decide
theorem hroX19_listen_X19_leastFree : rmX19_leastFree.frames + 1 ≤ rmX19_listen.frames ∧ 8 + (2 + 11) + rmX19_leastFree.locals ≤ rmX19_listen.locals := by decide
theorem hroX19_listen_X19_stir : rmX19_stir.frames + 1 ≤ rmX19_listen.frames ∧ 8 + (1 + 11) + rmX19_stir.locals ≤ rmX19_listen.locals := by decide
section SX19_listen
variable {p : Program} {l : Launch} {e : Env} {s : State} {m : MethodId} {args : Array Value} {below : List Frame} {meth : Method} {c : Code} {Q : State → Prop} {D : va_G} {cy : Nat → ClassId} {B : Nat → Nat → Nat} {ids : List (Nat × Nat)} {A : Nat → Prop}
def fX19_listen_105 (N : Nat) (K59 : Nat → Int32 → Int32 → Option Nat → Int32 → Int32 → St → Option (Int32 × St)) (x0 : Nat) (x2 : Int32) (x3 : Int32) (x4 : Option Nat) (x6 : Int32) (s0 : Int32) (z : St) : Option (Int32 × St) := zl (x6 + 1) fun v1 => K59 x0 x2 x3 x4 s0 v1 z
set_option maxHeartbeats 4000000 in
set_option maxRecDepth 100000 in
theorem bX19_listen_105 (hst : zSt B ids) (F : zFx p m c cX19_listen 7 s args RX19 D cy B ids A) (hA : ∀ q : Nat, s.heap.size ≤ q → A q) {r : Int32} {z' : St} (E : zEnd p l e rmX19_listen s m args below meth c cX19_listen D cy B ids A Q (some (.int r)) z' .ireturn True) {N : Nat} {K59 : Nat → Int32 → Int32 → Option Nat → Int32 → Int32 → St → Option (Int32 × St)} (hK59 : ∀ (x0 : Nat) (x2 : Int32) (x3 : Int32) (x4 : Option Nat) (x5 : Int32) (x6 : Int32) (hx0 : (19, x0) ∈ ids) (hx4 : ∀ t, x4 = some t → (12, t) ∈ ids) {z : St} {H : Heap} {locs : List Loc} {ls : Array Slot} (hr : zRep D cy B ids A s.heap z H locs) (hl : lv_has ls 7 [(0, .ref (B 19 x0)), (2, .int x2), (3, .int x3), (4, va_rf (Option.map (B 12) x4)), (5, .int x5), (6, .int x6)]), K59 x0 x2 x3 x4 x5 x6 z = some (r, z') → W p l e rmX19_listen s m args below meth c H locs 0 0 Q (F0 m 59 ls [])) (x0 : Nat) (x2 : Int32) (x3 : Int32) (x4 : Option Nat) (x6 : Int32) (s0 : Int32) (hx0 : (19, x0) ∈ ids) (hx4 : ∀ t, x4 = some t → (12, t) ∈ ids) {z : St} {H : Heap} {locs : List Loc} {ls : Array Slot} (hr : zRep D cy B ids A s.heap z H locs) (hl : lv_has ls 7 [(0, .ref (B 19 x0)), (2, .int x2), (3, .int x3), (4, va_rf (Option.map (B 12) x4)), (6, .int x6)]) (h : fX19_listen_105 N K59 x0 x2 x3 x4 x6 s0 z = some (r, z')) : W p l e rmX19_listen s m args below meth c H locs 0 0 Q (F0 m 105 ls [.int s0]) := by
  unfold fX19_listen_105 at h
  refine lv_istore (lv' := [(5, .int s0), (0, .ref (B 19 x0)), (2, .int x2), (3, .int x3), (4, va_rf (Option.map (B 12) x4)), (6, .int x6)]) F.1 F.2.1 dX19_listen_105 hl (by decide) (by simp only [List.filter, zrf_cat]; rfl) (fun ls hl => ?_)
  obtain ⟨v1, ev1⟩ : ∃ y : Int32, y = (x6 + 1) := ⟨_, rfl⟩
  replace h := zl_sub ev1 h
  refine lv_iinc (v := v1) (lv' := [(6, .int v1), (5, .int s0), (0, .ref (B 19 x0)), (2, .int x2), (3, .int x3), (4, va_rf (Option.map (B 12) x4))]) F.1 F.2.1 dX19_listen_107 hl (k := 5) rfl (by rw [ev1]; rfl) (by decide) rfl (fun ls hl => ?_)
  refine lv_goto (tgt := 59) F.1 F.2.1 dX19_listen_110 (by decide) ?_
  exact hK59 x0 x2 x3 x4 s0 v1 hx0 hx4 hr (lv_sub hl [2, 3, 4, 5, 1, 0] rfl) h
def fX19_listen_100 (N : Nat) (K59 : Nat → Int32 → Int32 → Option Nat → Int32 → Int32 → St → Option (Int32 × St)) (x0 : Nat) (x2 : Int32) (x3 : Int32) (x4 : Option Nat) (x6 : Int32) (z : St) : Option (Int32 × St) := fX19_listen_105 N K59 x0 x2 x3 x4 x6 (1 : Int32) z
set_option maxHeartbeats 4000000 in
set_option maxRecDepth 100000 in
theorem bX19_listen_100 (hst : zSt B ids) (F : zFx p m c cX19_listen 7 s args RX19 D cy B ids A) (hA : ∀ q : Nat, s.heap.size ≤ q → A q) {r : Int32} {z' : St} (E : zEnd p l e rmX19_listen s m args below meth c cX19_listen D cy B ids A Q (some (.int r)) z' .ireturn True) {N : Nat} {K59 : Nat → Int32 → Int32 → Option Nat → Int32 → Int32 → St → Option (Int32 × St)} (hK59 : ∀ (x0 : Nat) (x2 : Int32) (x3 : Int32) (x4 : Option Nat) (x5 : Int32) (x6 : Int32) (hx0 : (19, x0) ∈ ids) (hx4 : ∀ t, x4 = some t → (12, t) ∈ ids) {z : St} {H : Heap} {locs : List Loc} {ls : Array Slot} (hr : zRep D cy B ids A s.heap z H locs) (hl : lv_has ls 7 [(0, .ref (B 19 x0)), (2, .int x2), (3, .int x3), (4, va_rf (Option.map (B 12) x4)), (5, .int x5), (6, .int x6)]), K59 x0 x2 x3 x4 x5 x6 z = some (r, z') → W p l e rmX19_listen s m args below meth c H locs 0 0 Q (F0 m 59 ls [])) (x0 : Nat) (x2 : Int32) (x3 : Int32) (x4 : Option Nat) (x6 : Int32) (hx0 : (19, x0) ∈ ids) (hx4 : ∀ t, x4 = some t → (12, t) ∈ ids) {z : St} {H : Heap} {locs : List Loc} {ls : Array Slot} (hr : zRep D cy B ids A s.heap z H locs) (hl : lv_has ls 7 [(0, .ref (B 19 x0)), (2, .int x2), (3, .int x3), (4, va_rf (Option.map (B 12) x4)), (6, .int x6)]) (h : fX19_listen_100 N K59 x0 x2 x3 x4 x6 z = some (r, z')) : W p l e rmX19_listen s m args below meth c H locs 0 0 Q (F0 m 100 ls []) := by
  unfold fX19_listen_100 at h
  refine lv_iconst (v := (1 : Int32)) F.1 F.2.1 dX19_listen_100 (by decide) ?_
  refine lv_goto (tgt := 105) F.1 F.2.1 dX19_listen_101 (by decide) ?_
  exact bX19_listen_105 hst F hA E hK59 x0 x2 x3 x4 x6 (1 : Int32) hx0 hx4 hr (lv_sub hl [0, 1, 2, 3, 4] rfl) h
def fX19_listen_104 (N : Nat) (K59 : Nat → Int32 → Int32 → Option Nat → Int32 → Int32 → St → Option (Int32 × St)) (x0 : Nat) (x2 : Int32) (x3 : Int32) (x4 : Nat) (x6 : Int32) (z : St) : Option (Int32 × St) := fX19_listen_105 N K59 x0 x2 x3 (some x4) x6 (0 : Int32) z
set_option maxHeartbeats 4000000 in
set_option maxRecDepth 100000 in
theorem bX19_listen_104 (hst : zSt B ids) (F : zFx p m c cX19_listen 7 s args RX19 D cy B ids A) (hA : ∀ q : Nat, s.heap.size ≤ q → A q) {r : Int32} {z' : St} (E : zEnd p l e rmX19_listen s m args below meth c cX19_listen D cy B ids A Q (some (.int r)) z' .ireturn True) {N : Nat} {K59 : Nat → Int32 → Int32 → Option Nat → Int32 → Int32 → St → Option (Int32 × St)} (hK59 : ∀ (x0 : Nat) (x2 : Int32) (x3 : Int32) (x4 : Option Nat) (x5 : Int32) (x6 : Int32) (hx0 : (19, x0) ∈ ids) (hx4 : ∀ t, x4 = some t → (12, t) ∈ ids) {z : St} {H : Heap} {locs : List Loc} {ls : Array Slot} (hr : zRep D cy B ids A s.heap z H locs) (hl : lv_has ls 7 [(0, .ref (B 19 x0)), (2, .int x2), (3, .int x3), (4, va_rf (Option.map (B 12) x4)), (5, .int x5), (6, .int x6)]), K59 x0 x2 x3 x4 x5 x6 z = some (r, z') → W p l e rmX19_listen s m args below meth c H locs 0 0 Q (F0 m 59 ls [])) (x0 : Nat) (x2 : Int32) (x3 : Int32) (x4 : Nat) (x6 : Int32) (hx0 : (19, x0) ∈ ids) (hx4 : (12, x4) ∈ ids) {z : St} {H : Heap} {locs : List Loc} {ls : Array Slot} (hr : zRep D cy B ids A s.heap z H locs) (hl : lv_has ls 7 [(0, .ref (B 19 x0)), (2, .int x2), (3, .int x3), (4, .ref (B 12 x4)), (6, .int x6)]) (h : fX19_listen_104 N K59 x0 x2 x3 x4 x6 z = some (r, z')) : W p l e rmX19_listen s m args below meth c H locs 0 0 Q (F0 m 104 ls []) := by
  unfold fX19_listen_104 at h
  refine lv_iconst (v := (0 : Int32)) F.1 F.2.1 dX19_listen_104 (by decide) ?_
  exact bX19_listen_105 hst F hA E hK59 x0 x2 x3 (some x4) x6 (0 : Int32) hx0 (zal_s hx4) hr (lv_sub hl [0, 1, 2, 3, 4] rfl) h
def fX19_listen_138 (N : Nat)  (x0 : Nat) (x2 : Int32) (x3 : Int32) (x4 : Nat) (x6 : Int32) (s0 : Nat) (s1 : Int32) (s2 : Int32) (z : St) : Option (Int32 × St) := zc (fX19_fails N s0 s1 s2 z) fun r1 z2 => if r1 = 0 then (zk x6 6 <| zl (zgQ z2 158 x4 (Int32.toNatClampNeg x6)) fun y7 => zd y7 fun a8 => zl (zsI z2 13 0 a8 (1 : Int32)) fun z9 => zk x6 6 <| zl (zgQ z9 158 x4 (Int32.toNatClampNeg x6)) fun y11 => zd y11 fun a12 => zl (zsI z9 13 1 a12 x2) fun z13 => zk x6 6 <| zl (zgQ z13 158 x4 (Int32.toNatClampNeg x6)) fun y15 => zd y15 fun a16 => zl (zsI z13 13 2 a16 x3) fun z17 => zc (fX19_stir N x0 z17) fun _ z19 => some (x6, z19)) else (some ((0 : Int32), z2))
set_option maxHeartbeats 4000000 in
set_option maxRecDepth 100000 in
theorem bX19_listen_138 (hst : zSt B ids) (F : zFx p m c cX19_listen 7 s args RX19 D cy B ids A) (hA : ∀ q : Nat, s.heap.size ≤ q → A q) {r : Int32} {z' : St} (E : zEnd p l e rmX19_listen s m args below meth c cX19_listen D cy B ids A Q (some (.int r)) z' .ireturn True) {N : Nat}  (x0 : Nat) (x2 : Int32) (x3 : Int32) (x4 : Nat) (x6 : Int32) (s0 : Nat) (s1 : Int32) (s2 : Int32) (hx0 : (19, x0) ∈ ids) (hx4 : (12, x4) ∈ ids) (hs0 : (19, s0) ∈ ids) {z : St} {H : Heap} {locs : List Loc} {ls : Array Slot} (hr : zRep D cy B ids A s.heap z H locs) (hl : lv_has ls 7 [(0, .ref (B 19 x0)), (2, .int x2), (3, .int x3), (4, .ref (B 12 x4)), (6, .int x6)]) (h : fX19_listen_138 N x0 x2 x3 x4 x6 s0 s1 s2 z = some (r, z')) : W p l e rmX19_listen s m args below meth c H locs 0 0 Q (F0 m 138 ls [.int s2, .int s1, .ref (B 19 s0)]) := by
  unfold fX19_listen_138 at h
  replace h := zc_some h
  obtain ⟨r1, z2, hc3, h⟩ := h
  refine zr_calli (zrun_V (As := [.int s1, .int s2]) (rest := []) zq_2402 zq_2404 zs_X19_fails zq_2405 zq_4 hdX19_fails (by decide) (T := TX19) (N := 32) rfl (okX19_fails l D cy B ids hst N s0 hs0 s1  s2  hr.2.2 hc3) F hr hs0 hl.1 rfl (by decide) dX19_listen_138 rfl rfl hroX19_listen_X19_fails ⟨Nat.zero_le _, Nat.zero_le _⟩) F hA hr (fun H locs hw4 hr => ?_)
  clear hc3
  refine lv_if_eq (tgt := 146) F.1 F.2.1 dX19_listen_141 (by decide) (fun c5 => ?_) (fun c5 => ?_)
  · replace h := zi_t c5 h
    refine lv_aload F.1 F.2.1 dX19_listen_146 (lv_at hl 3 rfl) ?_
    refine gf19_340 F hx4 hr dX19_listen_148 ?_
    refine lv_iload F.1 F.2.1 dX19_listen_151 (lv_at hl 4 rfl) ?_
    replace h := zk_some h
    obtain ⟨c6, h⟩ := h
    refine zr_aaldv (k := 158) (by decide) rfl rfl (zlen_d (by decide)) F (zal_a F hx4 (j := 28) rfl) hr dX19_listen_153 c6 (fun y7 ey7 => ?_)
    replace h := zl_sub ey7 h
    have hy7 := zal_q hr (zal_a F hx4 (j := 28) rfl) rfl ey7
    clear ey7
    refine lv_iconst (v := (1 : Int32)) F.1 F.2.1 dX19_listen_154 (by decide) ?_
    replace h := zd_some h
    obtain ⟨a8, rfl, h⟩ := h
    refine pf19_747 F (hy7 _ rfl) hr dX19_listen_155 (1 : Int32) (by decide) (fun H locs z9 ez9 hr => ?_)
    replace h := zl_sub ez9 h
    clear ez9
    refine lv_aload F.1 F.2.1 dX19_listen_158 (lv_at hl 3 rfl) ?_
    refine gf19_340 F hx4 hr dX19_listen_160 ?_
    refine lv_iload F.1 F.2.1 dX19_listen_163 (lv_at hl 4 rfl) ?_
    replace h := zk_some h
    obtain ⟨c10, h⟩ := h
    refine zr_aaldv (k := 158) (by decide) rfl rfl (zlen_d (by decide)) F (zal_a F hx4 (j := 28) rfl) hr dX19_listen_165 c10 (fun y11 ey11 => ?_)
    replace h := zl_sub ey11 h
    have hy11 := zal_q hr (zal_a F hx4 (j := 28) rfl) rfl ey11
    clear ey11
    refine lv_iload_n F.1 F.2.1 dX19_listen_166 rfl (lv_at hl 1 rfl) ?_
    replace h := zd_some h
    obtain ⟨a12, rfl, h⟩ := h
    refine pf19_783 F (hy11 _ rfl) hr dX19_listen_167 x2 (fun H locs z13 ez13 hr => ?_)
    replace h := zl_sub ez13 h
    clear ez13
    refine lv_aload F.1 F.2.1 dX19_listen_170 (lv_at hl 3 rfl) ?_
    refine gf19_340 F hx4 hr dX19_listen_172 ?_
    refine lv_iload F.1 F.2.1 dX19_listen_175 (lv_at hl 4 rfl) ?_
    replace h := zk_some h
    obtain ⟨c14, h⟩ := h
    refine zr_aaldv (k := 158) (by decide) rfl rfl (zlen_d (by decide)) F (zal_a F hx4 (j := 28) rfl) hr dX19_listen_177 c14 (fun y15 ey15 => ?_)
    replace h := zl_sub ey15 h
    have hy15 := zal_q hr (zal_a F hx4 (j := 28) rfl) rfl ey15
    clear ey15
    refine lv_iload_n F.1 F.2.1 dX19_listen_178 rfl (lv_at hl 2 rfl) ?_
    replace h := zd_some h
    obtain ⟨a16, rfl, h⟩ := h
    refine pf19_794 F (hy15 _ rfl) hr dX19_listen_179 x3 (fun H locs z17 ez17 hr => ?_)
    replace h := zl_sub ez17 h
    clear ez17
    refine lv_aload_n F.1 F.2.1 dX19_listen_182 rfl (lv_at hl 0 rfl) ?_
    replace h := zc_some h
    obtain ⟨r18, z19, hc20, h⟩ := h
    refine zr_callv (zrun_V (As := []) (rest := []) zq_2394 zq_2396 zs_X19_stir zq_2397 zq_4 hdX19_stir (by decide) (T := TX19) (N := 32) rfl (okX19_stir l D cy B ids hst N x0 hx0 hr.2.2 hc20) F hr hx0 hl.1 rfl (by decide) dX19_listen_183 rfl rfl hroX19_listen_X19_stir ⟨Nat.zero_le _, Nat.zero_le _⟩) F hA hr (fun H locs hw21 hr => ?_)
    clear hc20
    refine lv_iload F.1 F.2.1 dX19_listen_186 (lv_at hl 4 rfl) ?_
    obtain ⟨rfl, rfl⟩ := zret h
    exact E _ _ _ _ dX19_listen_188 trivial hr
  · replace h := zi_f c5 h
    refine lv_iconst (v := (0 : Int32)) F.1 F.2.1 dX19_listen_144 (by decide) ?_
    obtain ⟨rfl, rfl⟩ := zret h
    exact E _ _ _ _ dX19_listen_145 trivial hr
def fX19_listen_133 (N : Nat)  (x0 : Nat) (x2 : Int32) (x3 : Int32) (x4 : Nat) (x6 : Int32) (s0 : Nat) (s1 : Int32) (z : St) : Option (Int32 × St) := fX19_listen_138 N x0 x2 x3 x4 x6 s0 s1 (1 : Int32) z
set_option maxHeartbeats 4000000 in
set_option maxRecDepth 100000 in
theorem bX19_listen_133 (hst : zSt B ids) (F : zFx p m c cX19_listen 7 s args RX19 D cy B ids A) (hA : ∀ q : Nat, s.heap.size ≤ q → A q) {r : Int32} {z' : St} (E : zEnd p l e rmX19_listen s m args below meth c cX19_listen D cy B ids A Q (some (.int r)) z' .ireturn True) {N : Nat}  (x0 : Nat) (x2 : Int32) (x3 : Int32) (x4 : Nat) (x6 : Int32) (s0 : Nat) (s1 : Int32) (hx0 : (19, x0) ∈ ids) (hx4 : (12, x4) ∈ ids) (hs0 : (19, s0) ∈ ids) {z : St} {H : Heap} {locs : List Loc} {ls : Array Slot} (hr : zRep D cy B ids A s.heap z H locs) (hl : lv_has ls 7 [(0, .ref (B 19 x0)), (2, .int x2), (3, .int x3), (4, .ref (B 12 x4)), (6, .int x6)]) (h : fX19_listen_133 N x0 x2 x3 x4 x6 s0 s1 z = some (r, z')) : W p l e rmX19_listen s m args below meth c H locs 0 0 Q (F0 m 133 ls [.int s1, .ref (B 19 s0)]) := by
  unfold fX19_listen_133 at h
  refine lv_iconst (v := (1 : Int32)) F.1 F.2.1 dX19_listen_133 (by decide) ?_
  refine lv_goto (tgt := 138) F.1 F.2.1 dX19_listen_134 (by decide) ?_
  exact bX19_listen_138 hst F hA E  x0 x2 x3 x4 x6 s0 s1 (1 : Int32) hx0 hx4 hs0 hr (lv_sub hl [0, 1, 2, 3, 4] rfl) h
def fX19_listen_59b (N : Nat) (K59 : Nat → Int32 → Int32 → Option Nat → Int32 → Int32 → St → Option (Int32 × St)) (x0 : Nat) (x2 : Int32) (x3 : Int32) (x4 : Option Nat) (x5 : Int32) (x6 : Int32) (z : St) : Option (Int32 × St) := if (6 : Int32) ≤ x6 then (zd x4 fun a2 => zc (fX19_leastFree N a2 z) fun r3 z4 => if r3 = (-1 : Int32) then (fX19_listen_133 N x0 x2 x3 a2 r3 x0 (0 : Int32) z4) else (if x5 = 0 then (fX19_listen_138 N x0 x2 x3 a2 r3 x0 (0 : Int32) (0 : Int32) z4) else (fX19_listen_133 N x0 x2 x3 a2 r3 x0 (0 : Int32) z4))) else (if ¬ x5 = 0 then (fX19_listen_100 N K59 x0 x2 x3 x4 x6 z) else (zd x4 fun a10 => zk x6 6 <| zl (zgQ z 158 a10 (Int32.toNatClampNeg x6)) fun y12 => zd y12 fun a13 => if (zgI z 13 0 a13) = 0 then (fX19_listen_104 N K59 x0 x2 x3 a10 x6 z) else (zk x6 6 <| zl (zgQ z 158 a10 (Int32.toNatClampNeg x6)) fun y16 => zd y16 fun a17 => if ¬ (zgI z 13 1 a17) = x2 then (fX19_listen_104 N K59 x0 x2 x3 a10 x6 z) else (fX19_listen_100 N K59 x0 x2 x3 (some a10) x6 z))))
def fX19_listen_59 (N : Nat)  : Nat → Nat → Int32 → Int32 → Option Nat → Int32 → Int32 → St → Option (Int32 × St)
  | 0 => fun _ _ _ _ _ _ _ => none
  | n + 1 => fX19_listen_59b N (fX19_listen_59 N  n)
set_option maxHeartbeats 4000000 in
set_option maxRecDepth 100000 in
theorem bX19_listen_59 (hst : zSt B ids) (F : zFx p m c cX19_listen 7 s args RX19 D cy B ids A) (hA : ∀ q : Nat, s.heap.size ≤ q → A q) {r : Int32} {z' : St} (E : zEnd p l e rmX19_listen s m args below meth c cX19_listen D cy B ids A Q (some (.int r)) z' .ireturn True) {N : Nat} {K59 : Nat → Int32 → Int32 → Option Nat → Int32 → Int32 → St → Option (Int32 × St)} (hK59 : ∀ (x0 : Nat) (x2 : Int32) (x3 : Int32) (x4 : Option Nat) (x5 : Int32) (x6 : Int32) (hx0 : (19, x0) ∈ ids) (hx4 : ∀ t, x4 = some t → (12, t) ∈ ids) {z : St} {H : Heap} {locs : List Loc} {ls : Array Slot} (hr : zRep D cy B ids A s.heap z H locs) (hl : lv_has ls 7 [(0, .ref (B 19 x0)), (2, .int x2), (3, .int x3), (4, va_rf (Option.map (B 12) x4)), (5, .int x5), (6, .int x6)]), K59 x0 x2 x3 x4 x5 x6 z = some (r, z') → W p l e rmX19_listen s m args below meth c H locs 0 0 Q (F0 m 59 ls [])) (x0 : Nat) (x2 : Int32) (x3 : Int32) (x4 : Option Nat) (x5 : Int32) (x6 : Int32) (hx0 : (19, x0) ∈ ids) (hx4 : ∀ t, x4 = some t → (12, t) ∈ ids) {z : St} {H : Heap} {locs : List Loc} {ls : Array Slot} (hr : zRep D cy B ids A s.heap z H locs) (hl : lv_has ls 7 [(0, .ref (B 19 x0)), (2, .int x2), (3, .int x3), (4, va_rf (Option.map (B 12) x4)), (5, .int x5), (6, .int x6)]) (h : fX19_listen_59b N K59 x0 x2 x3 x4 x5 x6 z = some (r, z')) : W p l e rmX19_listen s m args below meth c H locs 0 0 Q (F0 m 59 ls []) := by
  unfold fX19_listen_59b at h
  refine lv_iload F.1 F.2.1 dX19_listen_59 (lv_at hl 5 rfl) ?_
  refine lv_bipush (v := (6 : Int32)) F.1 F.2.1 dX19_listen_61 (by decide) ?_
  refine lv_icmp_ge (tgt := 113) F.1 F.2.1 dX19_listen_63 (by decide) (fun c1 => ?_) (fun c1 => ?_)
  · replace h := zi_t c1 h
    refine zr_aload F.1 F.2.1 dX19_listen_113 (lv_at hl 3 rfl) ?_
    replace h := zd_some h
    obtain ⟨a2, rfl, h⟩ := h
    replace h := zc_some h
    obtain ⟨r3, z4, hc5, h⟩ := h
    refine zr_calli (zrun_S (As := [.ref (B 12 a2)]) (rest := []) zq_2737 zq_2738 zq_2739 zq_4 hdX19_leastFree (okX19_leastFree l D cy B ids hst N a2 (hx4 _ rfl) hr.2.2 hc5) F hr hl.1 rfl (by decide) dX19_listen_115 rfl rfl hroX19_listen_X19_leastFree ⟨Nat.zero_le _, Nat.zero_le _⟩) F hA hr (fun H locs hw6 hr => ?_)
    clear hc5
    refine lv_istore (lv' := [(6, .int r3), (0, .ref (B 19 x0)), (2, .int x2), (3, .int x3), (4, .ref (B 12 a2)), (5, .int x5)]) F.1 F.2.1 dX19_listen_118 hl (by decide) rfl (fun ls hl => ?_)
    refine lv_aload_n F.1 F.2.1 dX19_listen_120 rfl (lv_at hl 1 rfl) ?_
    refine lv_iconst (v := (0 : Int32)) F.1 F.2.1 dX19_listen_121 (by decide) ?_
    refine lv_iload F.1 F.2.1 dX19_listen_122 (lv_at hl 0 rfl) ?_
    refine lv_iconst (v := (-1 : Int32)) F.1 F.2.1 dX19_listen_124 (by decide) ?_
    refine lv_icmp_eq (tgt := 133) F.1 F.2.1 dX19_listen_125 (by decide) (fun c7 => ?_) (fun c7 => ?_)
    · replace h := zi_t c7 h
      exact bX19_listen_133 hst F hA E  x0 x2 x3 a2 r3 x0 (0 : Int32) hx0 (hx4 _ rfl) hx0 hr (lv_sub hl [1, 2, 3, 4, 0] rfl) h
    · replace h := zi_f c7 h
      refine lv_iload F.1 F.2.1 dX19_listen_128 (lv_at hl 5 rfl) ?_
      refine lv_if_eq (tgt := 137) F.1 F.2.1 dX19_listen_130 (by decide) (fun c8 => ?_) (fun c8 => ?_)
      · replace h := zi_t c8 h
        refine lv_iconst (v := (0 : Int32)) F.1 F.2.1 dX19_listen_137 (by decide) ?_
        exact bX19_listen_138 hst F hA E  x0 x2 x3 a2 r3 x0 (0 : Int32) (0 : Int32) hx0 (hx4 _ rfl) hx0 hr (lv_sub hl [1, 2, 3, 4, 0] rfl) h
      · replace h := zi_f c8 h
        exact bX19_listen_133 hst F hA E  x0 x2 x3 a2 r3 x0 (0 : Int32) hx0 (hx4 _ rfl) hx0 hr (lv_sub hl [1, 2, 3, 4, 0] rfl) h
  · replace h := zi_f c1 h
    refine lv_iload F.1 F.2.1 dX19_listen_66 (lv_at hl 4 rfl) ?_
    refine lv_if_ne (tgt := 100) F.1 F.2.1 dX19_listen_68 (by decide) (fun c9 => ?_) (fun c9 => ?_)
    · replace h := zi_t c9 h
      exact bX19_listen_100 hst F hA E hK59 x0 x2 x3 x4 x6 hx0 hx4 hr (lv_sub hl [0, 1, 2, 3, 5] rfl) h
    · replace h := zi_f (fun q => q c9) h
      refine zr_aload F.1 F.2.1 dX19_listen_71 (lv_at hl 3 rfl) ?_
      replace h := zd_some h
      obtain ⟨a10, rfl, h⟩ := h
      refine gf19_340 F (hx4 _ rfl) hr dX19_listen_73 ?_
      refine lv_iload F.1 F.2.1 dX19_listen_76 (lv_at hl 5 rfl) ?_
      replace h := zk_some h
      obtain ⟨c11, h⟩ := h
      refine zr_aaldv (k := 158) (by decide) rfl rfl (zlen_d (by decide)) F (zal_a F (hx4 _ rfl) (j := 28) rfl) hr dX19_listen_78 c11 (fun y12 ey12 => ?_)
      replace h := zl_sub ey12 h
      have hy12 := zal_q hr (zal_a F (hx4 _ rfl) (j := 28) rfl) rfl ey12
      clear ey12
      replace h := zd_some h
      obtain ⟨a13, rfl, h⟩ := h
      refine gf19_747 F (hy12 _ rfl) hr dX19_listen_79 ?_
      refine lv_if_eq (tgt := 104) F.1 F.2.1 dX19_listen_82 (by decide) (fun c14 => ?_) (fun c14 => ?_)
      · replace h := zi_t c14 h
        exact bX19_listen_104 hst F hA E hK59 x0 x2 x3 a10 x6 hx0 (hx4 _ rfl) hr (lv_sub hl [0, 1, 2, 3, 5] rfl) h
      · replace h := zi_f c14 h
        refine lv_aload F.1 F.2.1 dX19_listen_85 (lv_at hl 3 rfl) ?_
        refine gf19_340 F (hx4 _ rfl) hr dX19_listen_87 ?_
        refine lv_iload F.1 F.2.1 dX19_listen_90 (lv_at hl 5 rfl) ?_
        replace h := zk_some h
        obtain ⟨c15, h⟩ := h
        refine zr_aaldv (k := 158) (by decide) rfl rfl (zlen_d (by decide)) F (zal_a F (hx4 _ rfl) (j := 28) rfl) hr dX19_listen_92 c15 (fun y16 ey16 => ?_)
        replace h := zl_sub ey16 h
        have hy16 := zal_q hr (zal_a F (hx4 _ rfl) (j := 28) rfl) rfl ey16
        clear ey16
        replace h := zd_some h
        obtain ⟨a17, rfl, h⟩ := h
        refine gf19_783 F (hy16 _ rfl) hr dX19_listen_93 ?_
        refine lv_iload_n F.1 F.2.1 dX19_listen_96 rfl (lv_at hl 1 rfl) ?_
        refine lv_icmp_ne (tgt := 104) F.1 F.2.1 dX19_listen_97 (by decide) (fun c18 => ?_) (fun c18 => ?_)
        · replace h := zi_t c18 h
          exact bX19_listen_104 hst F hA E hK59 x0 x2 x3 a10 x6 hx0 (hx4 _ rfl) hr (lv_sub hl [0, 1, 2, 3, 5] rfl) h
        · replace h := zi_f (fun q => q c18) h
          exact bX19_listen_100 hst F hA E hK59 x0 x2 x3 (some a10) x6 hx0 (zal_s (hx4 _ rfl)) hr (lv_sub hl [0, 1, 2, 3, 5] rfl) h
theorem lX19_listen_59 (hst : zSt B ids) (F : zFx p m c cX19_listen 7 s args RX19 D cy B ids A) (hA : ∀ q : Nat, s.heap.size ≤ q → A q) {r : Int32} {z' : St} (E : zEnd p l e rmX19_listen s m args below meth c cX19_listen D cy B ids A Q (some (.int r)) z' .ireturn True) {N : Nat}  : ∀ (n : Nat) (x0 : Nat) (x2 : Int32) (x3 : Int32) (x4 : Option Nat) (x5 : Int32) (x6 : Int32) (hx0 : (19, x0) ∈ ids) (hx4 : ∀ t, x4 = some t → (12, t) ∈ ids) {z : St} {H : Heap} {locs : List Loc} {ls : Array Slot} (hr : zRep D cy B ids A s.heap z H locs) (hl : lv_has ls 7 [(0, .ref (B 19 x0)), (2, .int x2), (3, .int x3), (4, va_rf (Option.map (B 12) x4)), (5, .int x5), (6, .int x6)]), fX19_listen_59 N  n x0 x2 x3 x4 x5 x6 z = some (r, z') → W p l e rmX19_listen s m args below meth c H locs 0 0 Q (F0 m 59 ls []) := by
  intro n
  induction n with
  | zero => intro x0 x2 x3 x4 x5 x6 hx0 hx4 z H locs ls hr hl h; cases h
  | succ n ih => intro x0 x2 x3 x4 x5 x6 hx0 hx4 z H locs ls hr hl h; exact bX19_listen_59 hst F hA E ih x0 x2 x3 x4 x5 x6 hx0 hx4 hr hl h
def fX19_listen_36 (N : Nat)  (x0 : Nat) (x1 : Int32) (x2 : Int32) (x3 : Int32) (s0 : Nat) (s1 : Int32) (z : St) : Option (Int32 × St) := zc (fX19_fails N s0 s1 (0 : Int32) z) fun r1 z2 => if r1 = 0 then (zk x1 16 <| zl (zgQ z2 186 x0 (Int32.toNatClampNeg x1)) fun y7 => fX19_listen_59 N N x0 x2 x3 y7 (0 : Int32) (0 : Int32) z2) else (some ((0 : Int32), z2))
set_option maxHeartbeats 4000000 in
set_option maxRecDepth 100000 in
theorem bX19_listen_36 (hst : zSt B ids) (F : zFx p m c cX19_listen 7 s args RX19 D cy B ids A) (hA : ∀ q : Nat, s.heap.size ≤ q → A q) {r : Int32} {z' : St} (E : zEnd p l e rmX19_listen s m args below meth c cX19_listen D cy B ids A Q (some (.int r)) z' .ireturn True) {N : Nat}  (x0 : Nat) (x1 : Int32) (x2 : Int32) (x3 : Int32) (s0 : Nat) (s1 : Int32) (hx0 : (19, x0) ∈ ids) (hs0 : (19, s0) ∈ ids) {z : St} {H : Heap} {locs : List Loc} {ls : Array Slot} (hr : zRep D cy B ids A s.heap z H locs) (hl : lv_has ls 7 [(0, .ref (B 19 x0)), (1, .int x1), (2, .int x2), (3, .int x3)]) (h : fX19_listen_36 N x0 x1 x2 x3 s0 s1 z = some (r, z')) : W p l e rmX19_listen s m args below meth c H locs 0 0 Q (F0 m 36 ls [.int s1, .ref (B 19 s0)]) := by
  unfold fX19_listen_36 at h
  refine lv_iconst (v := (0 : Int32)) F.1 F.2.1 dX19_listen_36 (by decide) ?_
  replace h := zc_some h
  obtain ⟨r1, z2, hc3, h⟩ := h
  refine zr_calli (zrun_V (As := [.int s1, .int (0 : Int32)]) (rest := []) zq_2402 zq_2404 zs_X19_fails zq_2405 zq_4 hdX19_fails (by decide) (T := TX19) (N := 32) rfl (okX19_fails l D cy B ids hst N s0 hs0 s1  (0 : Int32)  hr.2.2 hc3) F hr hs0 hl.1 rfl (by decide) dX19_listen_37 rfl rfl hroX19_listen_X19_fails ⟨Nat.zero_le _, Nat.zero_le _⟩) F hA hr (fun H locs hw4 hr => ?_)
  clear hc3
  refine lv_if_eq (tgt := 45) F.1 F.2.1 dX19_listen_40 (by decide) (fun c5 => ?_) (fun c5 => ?_)
  · replace h := zi_t c5 h
    refine lv_aload_n F.1 F.2.1 dX19_listen_45 rfl (lv_at hl 0 rfl) ?_
    refine gf19_114 F hx0 hr dX19_listen_46 ?_
    refine lv_iload_n F.1 F.2.1 dX19_listen_49 rfl (lv_at hl 1 rfl) ?_
    replace h := zk_some h
    obtain ⟨c6, h⟩ := h
    refine zr_aaldv (k := 186) (by decide) rfl rfl (zlen_d (by decide)) F (zal_a F hx0 (j := 18) rfl) hr dX19_listen_50 c6 (fun y7 ey7 => ?_)
    replace h := zl_sub ey7 h
    have hy7 := zal_q hr (zal_a F hx0 (j := 18) rfl) rfl ey7
    clear ey7
    refine zr_astore (lv' := [(4, va_rf (Option.map (B 12) y7)), (0, .ref (B 19 x0)), (1, .int x1), (2, .int x2), (3, .int x3)]) F.1 F.2.1 dX19_listen_51 hl (by decide) rfl (fun ls hl => ?_)
    refine lv_iconst (v := (0 : Int32)) F.1 F.2.1 dX19_listen_53 (by decide) ?_
    refine lv_istore (lv' := [(5, .int (0 : Int32)), (4, va_rf (Option.map (B 12) y7)), (0, .ref (B 19 x0)), (1, .int x1), (2, .int x2), (3, .int x3)]) F.1 F.2.1 dX19_listen_54 hl (by decide) (by simp only [List.filter, zrf_cat]; rfl) (fun ls hl => ?_)
    refine lv_iconst (v := (0 : Int32)) F.1 F.2.1 dX19_listen_56 (by decide) ?_
    refine lv_istore (lv' := [(6, .int (0 : Int32)), (5, .int (0 : Int32)), (4, va_rf (Option.map (B 12) y7)), (0, .ref (B 19 x0)), (1, .int x1), (2, .int x2), (3, .int x3)]) F.1 F.2.1 dX19_listen_57 hl (by decide) rfl (fun ls hl => ?_)
    exact lX19_listen_59 hst F hA E  _ x0 x2 x3 y7 (0 : Int32) (0 : Int32) hx0 hy7 hr (lv_sub hl [3, 5, 6, 2, 1, 0] rfl) h
  · replace h := zi_f c5 h
    refine lv_iconst (v := (0 : Int32)) F.1 F.2.1 dX19_listen_43 (by decide) ?_
    obtain ⟨rfl, rfl⟩ := zret h
    exact E _ _ _ _ dX19_listen_44 trivial hr
def fX19_listen_31 (N : Nat)  (x0 : Nat) (x1 : Int32) (x2 : Int32) (x3 : Int32) (s0 : Nat) (z : St) : Option (Int32 × St) := fX19_listen_36 N x0 x1 x2 x3 s0 (1 : Int32) z
set_option maxHeartbeats 4000000 in
set_option maxRecDepth 100000 in
theorem bX19_listen_31 (hst : zSt B ids) (F : zFx p m c cX19_listen 7 s args RX19 D cy B ids A) (hA : ∀ q : Nat, s.heap.size ≤ q → A q) {r : Int32} {z' : St} (E : zEnd p l e rmX19_listen s m args below meth c cX19_listen D cy B ids A Q (some (.int r)) z' .ireturn True) {N : Nat}  (x0 : Nat) (x1 : Int32) (x2 : Int32) (x3 : Int32) (s0 : Nat) (hx0 : (19, x0) ∈ ids) (hs0 : (19, s0) ∈ ids) {z : St} {H : Heap} {locs : List Loc} {ls : Array Slot} (hr : zRep D cy B ids A s.heap z H locs) (hl : lv_has ls 7 [(0, .ref (B 19 x0)), (1, .int x1), (2, .int x2), (3, .int x3)]) (h : fX19_listen_31 N x0 x1 x2 x3 s0 z = some (r, z')) : W p l e rmX19_listen s m args below meth c H locs 0 0 Q (F0 m 31 ls [.ref (B 19 s0)]) := by
  unfold fX19_listen_31 at h
  refine lv_iconst (v := (1 : Int32)) F.1 F.2.1 dX19_listen_31 (by decide) ?_
  refine lv_goto (tgt := 36) F.1 F.2.1 dX19_listen_32 (by decide) ?_
  exact bX19_listen_36 hst F hA E  x0 x1 x2 x3 s0 (1 : Int32) hx0 hs0 hr (lv_sub hl [0, 1, 2, 3] rfl) h
def fX19_listen (N : Nat)  (x0 : Nat) (x1 : Int32) (x2 : Int32) (x3 : Int32) (z : St) : Option (Int32 × St) := zc (fX19_isHost N x0 x1 z) fun r1 z2 => if r1 = 0 then (fX19_listen_31 N x0 x1 x2 x3 x0 z2) else (if x2 < (1 : Int32) then (fX19_listen_31 N x0 x1 x2 x3 x0 z2) else (if (49999 : Int32) < x2 then (fX19_listen_31 N x0 x1 x2 x3 x0 z2) else (if x3 < (1 : Int32) then (fX19_listen_31 N x0 x1 x2 x3 x0 z2) else (if x3 ≤ (5 : Int32) then (fX19_listen_36 N x0 x1 x2 x3 x0 (0 : Int32) z2) else (fX19_listen_31 N x0 x1 x2 x3 x0 z2)))))
set_option maxHeartbeats 4000000 in
set_option maxRecDepth 100000 in
theorem bX19_listen_0 (hst : zSt B ids) (F : zFx p m c cX19_listen 7 s args RX19 D cy B ids A) (hA : ∀ q : Nat, s.heap.size ≤ q → A q) {r : Int32} {z' : St} (E : zEnd p l e rmX19_listen s m args below meth c cX19_listen D cy B ids A Q (some (.int r)) z' .ireturn True) {N : Nat}  (x0 : Nat) (x1 : Int32) (x2 : Int32) (x3 : Int32) (hx0 : (19, x0) ∈ ids) {z : St} {H : Heap} {locs : List Loc} {ls : Array Slot} (hr : zRep D cy B ids A s.heap z H locs) (hl : lv_has ls 7 [(0, .ref (B 19 x0)), (1, .int x1), (2, .int x2), (3, .int x3)]) (h : fX19_listen N x0 x1 x2 x3 z = some (r, z')) : W p l e rmX19_listen s m args below meth c H locs 0 0 Q (F0 m 0 ls []) := by
  unfold fX19_listen at h
  refine lv_aload_n F.1 F.2.1 dX19_listen_0 rfl (lv_at hl 0 rfl) ?_
  refine lv_aload_n F.1 F.2.1 dX19_listen_1 rfl (lv_at hl 0 rfl) ?_
  refine lv_iload_n F.1 F.2.1 dX19_listen_2 rfl (lv_at hl 1 rfl) ?_
  replace h := zc_some h
  obtain ⟨r1, z2, hc3, h⟩ := h
  refine zr_calli (zrun_V (As := [.int x1]) (rest := [.ref (B 19 x0)]) zq_2998 zq_3000 zs_X19_isHost zq_3001 zq_4 hdX19_isHost (by decide) (T := TX19) (N := 32) rfl (okX19_isHost l D cy B ids hst N x0 hx0 x1  hr.2.2 hc3) F hr hx0 hl.1 rfl (Nat.le_of_ble_eq_true rfl) dX19_listen_3 rfl rfl hroX19_listen_X19_isHost ⟨Nat.zero_le _, Nat.zero_le _⟩) F hA hr (fun H locs hw4 hr => ?_)
  clear hc3
  refine lv_if_eq (tgt := 31) F.1 F.2.1 dX19_listen_6 (by decide) (fun c5 => ?_) (fun c5 => ?_)
  · replace h := zi_t c5 h
    exact bX19_listen_31 hst F hA E  x0 x1 x2 x3 x0 hx0 hx0 hr (lv_sub hl [0, 1, 2, 3] rfl) h
  · replace h := zi_f c5 h
    refine lv_iload_n F.1 F.2.1 dX19_listen_9 rfl (lv_at hl 2 rfl) ?_
    refine lv_iconst (v := (1 : Int32)) F.1 F.2.1 dX19_listen_10 (by decide) ?_
    refine lv_icmp_lt (tgt := 31) F.1 F.2.1 dX19_listen_11 (by decide) (fun c6 => ?_) (fun c6 => ?_)
    · replace h := zi_t c6 h
      exact bX19_listen_31 hst F hA E  x0 x1 x2 x3 x0 hx0 hx0 hr (lv_sub hl [0, 1, 2, 3] rfl) h
    · replace h := zi_f c6 h
      refine lv_iload_n F.1 F.2.1 dX19_listen_14 rfl (lv_at hl 2 rfl) ?_
      refine lv_ldcw (v := (49999)) F.1 F.2.1 F.2.2.2.1 (F.2.2.2.2.1 _ zq_3002) dX19_listen_15 ?_
      refine lv_icmp_gt (tgt := 31) F.1 F.2.1 dX19_listen_18 (by decide) (fun c7 => ?_) (fun c7 => ?_)
      · replace h := zi_t c7 h
        exact bX19_listen_31 hst F hA E  x0 x1 x2 x3 x0 hx0 hx0 hr (lv_sub hl [0, 1, 2, 3] rfl) h
      · replace h := zi_f c7 h
        refine lv_iload_n F.1 F.2.1 dX19_listen_21 rfl (lv_at hl 3 rfl) ?_
        refine lv_iconst (v := (1 : Int32)) F.1 F.2.1 dX19_listen_22 (by decide) ?_
        refine lv_icmp_lt (tgt := 31) F.1 F.2.1 dX19_listen_23 (by decide) (fun c8 => ?_) (fun c8 => ?_)
        · replace h := zi_t c8 h
          exact bX19_listen_31 hst F hA E  x0 x1 x2 x3 x0 hx0 hx0 hr (lv_sub hl [0, 1, 2, 3] rfl) h
        · replace h := zi_f c8 h
          refine lv_iload_n F.1 F.2.1 dX19_listen_26 rfl (lv_at hl 3 rfl) ?_
          refine lv_iconst (v := (5 : Int32)) F.1 F.2.1 dX19_listen_27 (by decide) ?_
          refine lv_icmp_le (tgt := 35) F.1 F.2.1 dX19_listen_28 (by decide) (fun c9 => ?_) (fun c9 => ?_)
          · replace h := zi_t c9 h
            refine lv_iconst (v := (0 : Int32)) F.1 F.2.1 dX19_listen_35 (by decide) ?_
            exact bX19_listen_36 hst F hA E  x0 x1 x2 x3 x0 (0 : Int32) hx0 hx0 hr (lv_sub hl [0, 1, 2, 3] rfl) h
          · replace h := zi_f c9 h
            exact bX19_listen_31 hst F hA E  x0 x1 x2 x3 x0 hx0 hx0 hr (lv_sub hl [0, 1, 2, 3] rfl) h
end SX19_listen
set_option maxRecDepth 100000 in
theorem okX19_listen (l : Launch) (D : va_G) (cy : Nat → ClassId) (B : Nat → Nat → Nat) (ids : List (Nat × Nat)) (hst : zSt B ids) (N : Nat) (x0 : Nat) (hx0 : (19, x0) ∈ ids) (x1 : Int32) (x2 : Int32) (x3 : Int32) {z : St} {r : Int32} {z' : St} (hW : zWf ids z) (h : fX19_listen N x0 x1 x2 x3 z = some (r, z')) : zM l yX19_listen (zws yX19_listen cX19_listen 7 (some .int)) rmX19_listen D cy B ids [.ref (B 19 x0), .int x1, .int x2, .int x3] (some (.int r)) True z z' :=
  zM_of hst hW (by decide +kernel) (Nat.le_of_ble_eq_true rfl) (fun p e s m args below meth c A ls F hA hret hlocks hr hl => bX19_listen_0 hst F hA (zEnd_i F hret hlocks) x0 x1 x2 x3 hx0 hr hl h)
