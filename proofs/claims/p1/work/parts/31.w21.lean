abbrev rmX19_seg : Room := { frames := 0, cells := 0, slots := 0, locals := 0 }
theorem hdX19_seg : yX19_seg.cls ≠ "java/lang/invoke/MethodHandle" ∧ yX19_seg.cls ≠ "java/lang/invoke/VarHandle" ∧ (parseMethodDescriptor yX19_seg.desc).map (fun d => d.parameters.length) = some 2 := by decide +kernel
section SX19_seg
variable {p : Program} {l : Launch} {e : Env} {s : State} {m : MethodId} {args : Array Value} {below : List Frame} {meth : Method} {c : Code} {Q : State → Prop} {D : va_G} {cy : Nat → ClassId} {B : Nat → Nat → Nat} {ids : List (Nat × Nat)} {A : Nat → Prop}
def fX19_seg (N : Nat)  (x0 : Nat) (x1 : Int32) (x2 : Int32) (z : St) : Option (Int32 × St) := zk (((10 : Int32) * x1) + x2) 24000 <| some ((zgA z 174 x0 (Int32.toNatClampNeg (((10 : Int32) * x1) + x2))), z)
set_option maxHeartbeats 4000000 in
set_option maxRecDepth 100000 in
theorem bX19_seg_0 (hst : zSt B ids) (F : zFx p m c cX19_seg 3 s args RX19 D cy B ids A) (hA : ∀ q : Nat, s.heap.size ≤ q → A q) {r : Int32} {z' : St} (E : zEnd p l e rmX19_seg s m args below meth c cX19_seg D cy B ids A Q (some (.int r)) z' .ireturn True) {N : Nat}  (x0 : Nat) (x1 : Int32) (x2 : Int32) (hx0 : (19, x0) ∈ ids) {z : St} {H : Heap} {locs : List Loc} {ls : Array Slot} (hr : zRep D cy B ids A s.heap z H locs) (hl : lv_has ls 3 [(0, .ref (B 19 x0)), (1, .int x1), (2, .int x2)]) (h : fX19_seg N x0 x1 x2 z = some (r, z')) : W p l e rmX19_seg s m args below meth c H locs 0 0 Q (F0 m 0 ls []) := by
  unfold fX19_seg at h
  refine lv_aload_n F.1 F.2.1 dX19_seg_0 rfl (lv_at hl 0 rfl) ?_
  refine gf19_35 F hx0 hr dX19_seg_1 ?_
  refine lv_bipush (v := (10 : Int32)) F.1 F.2.1 dX19_seg_4 (by decide) ?_
  refine lv_iload_n F.1 F.2.1 dX19_seg_6 rfl (lv_at hl 1 rfl) ?_
  refine lv_imul F.1 F.2.1 dX19_seg_7 ?_
  refine lv_iload_n F.1 F.2.1 dX19_seg_8 rfl (lv_at hl 2 rfl) ?_
  refine lv_iadd F.1 F.2.1 dX19_seg_9 ?_
  replace h := zk_some h
  obtain ⟨c1, h⟩ := h
  refine zr_iald (k := 174) (by decide) rfl (by decide) F (zal_a F hx0 (j := 3) rfl) hr dX19_seg_10 c1 ?_
  obtain ⟨rfl, rfl⟩ := zret h
  exact E _ _ _ _ dX19_seg_11 trivial hr
end SX19_seg
set_option maxRecDepth 100000 in
theorem okX19_seg (l : Launch) (D : va_G) (cy : Nat → ClassId) (B : Nat → Nat → Nat) (ids : List (Nat × Nat)) (hst : zSt B ids) (N : Nat) (x0 : Nat) (hx0 : (19, x0) ∈ ids) (x1 : Int32) (x2 : Int32) {z : St} {r : Int32} {z' : St} (hW : zWf ids z) (h : fX19_seg N x0 x1 x2 z = some (r, z')) : zM l yX19_seg (zws yX19_seg cX19_seg 3 (some .int)) rmX19_seg D cy B ids [.ref (B 19 x0), .int x1, .int x2] (some (.int r)) True z z' :=
  zM_of hst hW (by decide +kernel) (Nat.le_of_ble_eq_true rfl) (fun p e s m args below meth c A ls F hA hret hlocks hr hl => bX19_seg_0 hst F hA (zEnd_i F hret hlocks) x0 x1 x2 hx0 hr hl h)
abbrev rmX19_dropSegment : Room := { frames := 1, cells := 0, slots := 0, locals := 22 }
theorem hdX19_dropSegment : yX19_dropSegment.cls ≠ "java/lang/invoke/MethodHandle" ∧ yX19_dropSegment.cls ≠ "java/lang/invoke/VarHandle" ∧ (parseMethodDescriptor yX19_dropSegment.desc).map (fun d => d.parameters.length) = some 1 := by decide +kernel
theorem hroX19_dropSegment_X19_dropBook : rmX19_dropBook.frames + 1 ≤ rmX19_dropSegment.frames ∧ 8 + (2 + 11) + rmX19_dropBook.locals ≤ rmX19_dropSegment.locals := by decide
theorem hroX19_dropSegment_X19_seg : rmX19_seg.frames + 1 ≤ rmX19_dropSegment.frames ∧ 8 + (3 + 11) + rmX19_seg.locals ≤ rmX19_dropSegment.locals := by decide
section SX19_dropSegment
variable {p : Program} {l : Launch} {e : Env} {s : State} {m : MethodId} {args : Array Value} {below : List Frame} {meth : Method} {c : Code} {Q : State → Prop} {D : va_G} {cy : Nat → ClassId} {B : Nat → Nat → Nat} {ids : List (Nat × Nat)} {A : Nat → Prop}
def fX19_dropSegment (N : Nat)  (x0 : Nat) (x1 : Int32) (z : St) : Option (Int32 × St) := zk x1 2400 <| zk x1 2400 <| zl (zsA z 176 x0 (Int32.toNatClampNeg x1) ((zgA z 176 x0 (Int32.toNatClampNeg x1)) - (1 : Int32))) fun z3 => zk x1 2400 <| if ¬ (zgA z3 176 x0 (Int32.toNatClampNeg x1)) = 0 then (some (0, z3)) else (zc (fX19_seg N x0 x1 (8 : Int32) z3) fun r6 z7 => zc (fX19_dropBook N x0 r6 z7) fun _ z11 => zk (zgI z11 19 7 x0) 2400 <| zl (zsA z11 177 x0 (Int32.toNatClampNeg (zgI z11 19 7 x0)) x1) fun z15 => zl (zsI z15 19 7 x0 ((zgI z15 19 7 x0) + (1 : Int32))) fun z16 => some (0, z16))
set_option maxHeartbeats 4000000 in
set_option maxRecDepth 100000 in
theorem bX19_dropSegment_0 (hst : zSt B ids) (F : zFx p m c cX19_dropSegment 2 s args RX19 D cy B ids A) (hA : ∀ q : Nat, s.heap.size ≤ q → A q) {r : Int32} {z' : St} (E : zEnd p l e rmX19_dropSegment s m args below meth c cX19_dropSegment D cy B ids A Q none z' .return_ True) {N : Nat}  (x0 : Nat) (x1 : Int32) (hx0 : (19, x0) ∈ ids) {z : St} {H : Heap} {locs : List Loc} {ls : Array Slot} (hr : zRep D cy B ids A s.heap z H locs) (hl : lv_has ls 2 [(0, .ref (B 19 x0)), (1, .int x1)]) (h : fX19_dropSegment N x0 x1 z = some (r, z')) : W p l e rmX19_dropSegment s m args below meth c H locs 0 0 Q (F0 m 0 ls []) := by
  unfold fX19_dropSegment at h
  refine lv_aload_n F.1 F.2.1 dX19_dropSegment_0 rfl (lv_at hl 0 rfl) ?_
  refine gf19_22 F hx0 hr dX19_dropSegment_1 ?_
  refine lv_iload_n F.1 F.2.1 dX19_dropSegment_4 rfl (lv_at hl 1 rfl) ?_
  refine lv_dup2_11 F.1 F.2.1 dX19_dropSegment_5 rfl rfl ?_
  replace h := zk_some h
  obtain ⟨c1, h⟩ := h
  refine zr_iald (k := 176) (by decide) rfl (by decide) F (zal_a F hx0 (j := 5) rfl) hr dX19_dropSegment_6 c1 ?_
  refine lv_iconst (v := (1 : Int32)) F.1 F.2.1 dX19_dropSegment_7 (by decide) ?_
  refine lv_isub F.1 F.2.1 dX19_dropSegment_8 ?_
  replace h := zk_some h
  obtain ⟨c2, h⟩ := h
  refine zr_iast (k := 176) (by decide) rfl (by decide) F (zal_a F hx0 (j := 5) rfl) hr dX19_dropSegment_9 c2 (fun H locs z3 ez3 hr => ?_)
  replace h := zl_sub ez3 h
  clear ez3
  refine lv_aload_n F.1 F.2.1 dX19_dropSegment_10 rfl (lv_at hl 0 rfl) ?_
  refine gf19_22 F hx0 hr dX19_dropSegment_11 ?_
  refine lv_iload_n F.1 F.2.1 dX19_dropSegment_14 rfl (lv_at hl 1 rfl) ?_
  replace h := zk_some h
  obtain ⟨c4, h⟩ := h
  refine zr_iald (k := 176) (by decide) rfl (by decide) F (zal_a F hx0 (j := 5) rfl) hr dX19_dropSegment_15 c4 ?_
  refine lv_if_ne (tgt := 50) F.1 F.2.1 dX19_dropSegment_16 (by decide) (fun c5 => ?_) (fun c5 => ?_)
  · replace h := zi_t c5 h
    obtain ⟨rfl, rfl⟩ := zret h
    exact E _ _ _ _ dX19_dropSegment_50 trivial hr
  · replace h := zi_f (fun q => q c5) h
    refine lv_aload_n F.1 F.2.1 dX19_dropSegment_19 rfl (lv_at hl 0 rfl) ?_
    refine lv_aload_n F.1 F.2.1 dX19_dropSegment_20 rfl (lv_at hl 0 rfl) ?_
    refine lv_iload_n F.1 F.2.1 dX19_dropSegment_21 rfl (lv_at hl 1 rfl) ?_
    refine lv_bipush (v := (8 : Int32)) F.1 F.2.1 dX19_dropSegment_22 (by decide) ?_
    replace h := zc_some h
    obtain ⟨r6, z7, hc8, h⟩ := h
    refine zr_calli (zrun_V (As := [.int x1, .int (8 : Int32)]) (rest := [.ref (B 19 x0)]) zq_2557 zq_2559 zs_X19_seg zq_2560 zq_4 hdX19_seg (by decide) (T := TX19) (N := 32) rfl (okX19_seg l D cy B ids hst N x0 hx0 x1  (8 : Int32)  hr.2.2 hc8) F hr hx0 hl.1 rfl (Nat.le_of_ble_eq_true rfl) dX19_dropSegment_24 rfl rfl hroX19_dropSegment_X19_seg ⟨Nat.zero_le _, Nat.zero_le _⟩) F hA hr (fun H locs hw9 hr => ?_)
    clear hc8
    replace h := zc_some h
    obtain ⟨r10, z11, hc12, h⟩ := h
    refine zr_callv (zrun_V (As := [.int r6]) (rest := []) zq_2561 zq_2563 zs_X19_dropBook zq_2564 zq_4 hdX19_dropBook (by decide) (T := TX19) (N := 32) rfl (okX19_dropBook l D cy B ids hst N x0 hx0 r6  hr.2.2 hc12) F hr hx0 hl.1 rfl (by decide) dX19_dropSegment_27 rfl rfl hroX19_dropSegment_X19_dropBook ⟨Nat.zero_le _, Nat.zero_le _⟩) F hA hr (fun H locs hw13 hr => ?_)
    clear hc12
    refine lv_aload_n F.1 F.2.1 dX19_dropSegment_30 rfl (lv_at hl 0 rfl) ?_
    refine gf19_41 F hx0 hr dX19_dropSegment_31 ?_
    refine lv_aload_n F.1 F.2.1 dX19_dropSegment_34 rfl (lv_at hl 0 rfl) ?_
    refine gf19_38 F hx0 hr dX19_dropSegment_35 ?_
    refine lv_iload_n F.1 F.2.1 dX19_dropSegment_38 rfl (lv_at hl 1 rfl) ?_
    replace h := zk_some h
    obtain ⟨c14, h⟩ := h
    refine zr_iast (k := 177) (by decide) rfl (by decide) F (zal_a F hx0 (j := 6) rfl) hr dX19_dropSegment_39 c14 (fun H locs z15 ez15 hr => ?_)
    replace h := zl_sub ez15 h
    clear ez15
    refine lv_aload_n F.1 F.2.1 dX19_dropSegment_40 rfl (lv_at hl 0 rfl) ?_
    refine lv_dup F.1 F.2.1 dX19_dropSegment_41 rfl ?_
    refine gf19_38 F hx0 hr dX19_dropSegment_42 ?_
    refine lv_iconst (v := (1 : Int32)) F.1 F.2.1 dX19_dropSegment_45 (by decide) ?_
    refine lv_iadd F.1 F.2.1 dX19_dropSegment_46 ?_
    refine pf19_38 F hx0 hr dX19_dropSegment_47 ((zgI z15 19 7 x0) + (1 : Int32)) (fun H locs z16 ez16 hr => ?_)
    replace h := zl_sub ez16 h
    clear ez16
    obtain ⟨rfl, rfl⟩ := zret h
    exact E _ _ _ _ dX19_dropSegment_50 trivial hr
end SX19_dropSegment
set_option maxRecDepth 100000 in
theorem okX19_dropSegment (l : Launch) (D : va_G) (cy : Nat → ClassId) (B : Nat → Nat → Nat) (ids : List (Nat × Nat)) (hst : zSt B ids) (N : Nat) (x0 : Nat) (hx0 : (19, x0) ∈ ids) (x1 : Int32) {z : St} {r : Int32} {z' : St} (hW : zWf ids z) (h : fX19_dropSegment N x0 x1 z = some (r, z')) : zM l yX19_dropSegment (zws yX19_dropSegment cX19_dropSegment 2 none) rmX19_dropSegment D cy B ids [.ref (B 19 x0), .int x1] none True z z' :=
  zM_of hst hW (by decide +kernel) (Nat.le_of_ble_eq_true rfl) (fun p e s m args below meth c A ls F hA hret hlocks hr hl => bX19_dropSegment_0 hst F hA (zEnd_v F hret hlocks) x0 x1 hx0 hr hl h)
abbrev rmX19_drop : Room := { frames := 2, cells := 0, slots := 0, locals := 43 }
theorem hdX19_drop : yX19_drop.cls ≠ "java/lang/invoke/MethodHandle" ∧ yX19_drop.cls ≠ "java/lang/invoke/VarHandle" ∧ (parseMethodDescriptor yX19_drop.desc).map (fun d => d.parameters.length) = some 1 := by decide +kernel
theorem hroX19_drop_X19_dropAdvert : rmX19_dropAdvert.frames + 1 ≤ rmX19_drop.frames ∧ 8 + (2 + 11) + rmX19_dropAdvert.locals ≤ rmX19_drop.locals := by decide
theorem hroX19_drop_X19_dropSegment : rmX19_dropSegment.frames + 1 ≤ rmX19_drop.frames ∧ 8 + (2 + 11) + rmX19_dropSegment.locals ≤ rmX19_drop.locals := by decide
theorem hroX19_drop_X19_of : rmX19_of.frames + 1 ≤ rmX19_drop.frames ∧ 8 + (3 + 11) + rmX19_of.locals ≤ rmX19_drop.locals := by decide
section SX19_drop
variable {p : Program} {l : Launch} {e : Env} {s : State} {m : MethodId} {args : Array Value} {below : List Frame} {meth : Method} {c : Code} {Q : State → Prop} {D : va_G} {cy : Nat → ClassId} {B : Nat → Nat → Nat} {ids : List (Nat × Nat)} {A : Nat → Prop}
def fX19_drop_44 (N : Nat)  (x0 : Nat) (x1 : Int32) (z : St) : Option (Int32 × St) := zk (zgI z 19 2 x0) 2400 <| zl (zsA z 173 x0 (Int32.toNatClampNeg (zgI z 19 2 x0)) x1) fun z2 => zl (zsI z2 19 2 x0 ((zgI z2 19 2 x0) + (1 : Int32))) fun z3 => some (0, z3)
set_option maxHeartbeats 4000000 in
set_option maxRecDepth 100000 in
theorem bX19_drop_44 (hst : zSt B ids) (F : zFx p m c cX19_drop 2 s args RX19 D cy B ids A) (hA : ∀ q : Nat, s.heap.size ≤ q → A q) {r : Int32} {z' : St} (E : zEnd p l e rmX19_drop s m args below meth c cX19_drop D cy B ids A Q none z' .return_ True) {N : Nat}  (x0 : Nat) (x1 : Int32) (hx0 : (19, x0) ∈ ids) {z : St} {H : Heap} {locs : List Loc} {ls : Array Slot} (hr : zRep D cy B ids A s.heap z H locs) (hl : lv_has ls 2 [(0, .ref (B 19 x0)), (1, .int x1)]) (h : fX19_drop_44 N x0 x1 z = some (r, z')) : W p l e rmX19_drop s m args below meth c H locs 0 0 Q (F0 m 44 ls []) := by
  unfold fX19_drop_44 at h
  refine lv_aload_n F.1 F.2.1 dX19_drop_44 rfl (lv_at hl 0 rfl) ?_
  refine gf19_11 F hx0 hr dX19_drop_45 ?_
  refine lv_aload_n F.1 F.2.1 dX19_drop_48 rfl (lv_at hl 0 rfl) ?_
  refine gf19_7 F hx0 hr dX19_drop_49 ?_
  refine lv_iload_n F.1 F.2.1 dX19_drop_52 rfl (lv_at hl 1 rfl) ?_
  replace h := zk_some h
  obtain ⟨c1, h⟩ := h
  refine zr_iast (k := 173) (by decide) rfl (by decide) F (zal_a F hx0 (j := 1) rfl) hr dX19_drop_53 c1 (fun H locs z2 ez2 hr => ?_)
  replace h := zl_sub ez2 h
  clear ez2
  refine lv_aload_n F.1 F.2.1 dX19_drop_54 rfl (lv_at hl 0 rfl) ?_
  refine lv_dup F.1 F.2.1 dX19_drop_55 rfl ?_
  refine gf19_7 F hx0 hr dX19_drop_56 ?_
  refine lv_iconst (v := (1 : Int32)) F.1 F.2.1 dX19_drop_59 (by decide) ?_
  refine lv_iadd F.1 F.2.1 dX19_drop_60 ?_
  refine pf19_7 F hx0 hr dX19_drop_61 ((zgI z2 19 2 x0) + (1 : Int32)) (fun H locs z3 ez3 hr => ?_)
  replace h := zl_sub ez3 h
  clear ez3
  obtain ⟨rfl, rfl⟩ := zret h
  exact E _ _ _ _ dX19_drop_64 trivial hr
def fX19_drop_22 (N : Nat)  (x0 : Nat) (x1 : Int32) (z : St) : Option (Int32 × St) := zc (fX19_of N x0 x1 (11 : Int32) z) fun r1 z2 => if r1 = (-1 : Int32) then (fX19_drop_44 N x0 x1 z2) else (zc (fX19_of N x0 x1 (11 : Int32) z2) fun r6 z7 => zc (fX19_dropAdvert N x0 r6 z7) fun _ z11 => fX19_drop_44 N x0 x1 z11)
set_option maxHeartbeats 4000000 in
set_option maxRecDepth 100000 in
theorem bX19_drop_22 (hst : zSt B ids) (F : zFx p m c cX19_drop 2 s args RX19 D cy B ids A) (hA : ∀ q : Nat, s.heap.size ≤ q → A q) {r : Int32} {z' : St} (E : zEnd p l e rmX19_drop s m args below meth c cX19_drop D cy B ids A Q none z' .return_ True) {N : Nat}  (x0 : Nat) (x1 : Int32) (hx0 : (19, x0) ∈ ids) {z : St} {H : Heap} {locs : List Loc} {ls : Array Slot} (hr : zRep D cy B ids A s.heap z H locs) (hl : lv_has ls 2 [(0, .ref (B 19 x0)), (1, .int x1)]) (h : fX19_drop_22 N x0 x1 z = some (r, z')) : W p l e rmX19_drop s m args below meth c H locs 0 0 Q (F0 m 22 ls []) := by
  unfold fX19_drop_22 at h
  refine lv_aload_n F.1 F.2.1 dX19_drop_22 rfl (lv_at hl 0 rfl) ?_
  refine lv_iload_n F.1 F.2.1 dX19_drop_23 rfl (lv_at hl 1 rfl) ?_
  refine lv_bipush (v := (11 : Int32)) F.1 F.2.1 dX19_drop_24 (by decide) ?_
  replace h := zc_some h
  obtain ⟨r1, z2, hc3, h⟩ := h
  refine zr_calli (zrun_V (As := [.int x1, .int (11 : Int32)]) (rest := []) zq_2549 zq_2551 zs_X19_of zq_2552 zq_4 hdX19_of (by decide) (T := TX19) (N := 32) rfl (okX19_of l D cy B ids hst N x0 hx0 x1  (11 : Int32)  hr.2.2 hc3) F hr hx0 hl.1 rfl (by decide) dX19_drop_26 rfl rfl hroX19_drop_X19_of ⟨Nat.zero_le _, Nat.zero_le _⟩) F hA hr (fun H locs hw4 hr => ?_)
  clear hc3
  refine lv_iconst (v := (-1 : Int32)) F.1 F.2.1 dX19_drop_29 (by decide) ?_
  refine lv_icmp_eq (tgt := 44) F.1 F.2.1 dX19_drop_30 (by decide) (fun c5 => ?_) (fun c5 => ?_)
  · replace h := zi_t c5 h
    exact bX19_drop_44 hst F hA E  x0 x1 hx0 hr (lv_sub hl [0, 1] rfl) h
  · replace h := zi_f c5 h
    refine lv_aload_n F.1 F.2.1 dX19_drop_33 rfl (lv_at hl 0 rfl) ?_
    refine lv_aload_n F.1 F.2.1 dX19_drop_34 rfl (lv_at hl 0 rfl) ?_
    refine lv_iload_n F.1 F.2.1 dX19_drop_35 rfl (lv_at hl 1 rfl) ?_
    refine lv_bipush (v := (11 : Int32)) F.1 F.2.1 dX19_drop_36 (by decide) ?_
    replace h := zc_some h
    obtain ⟨r6, z7, hc8, h⟩ := h
    refine zr_calli (zrun_V (As := [.int x1, .int (11 : Int32)]) (rest := [.ref (B 19 x0)]) zq_2549 zq_2551 zs_X19_of zq_2552 zq_4 hdX19_of (by decide) (T := TX19) (N := 32) rfl (okX19_of l D cy B ids hst N x0 hx0 x1  (11 : Int32)  hr.2.2 hc8) F hr hx0 hl.1 rfl (Nat.le_of_ble_eq_true rfl) dX19_drop_38 rfl rfl hroX19_drop_X19_of ⟨Nat.zero_le _, Nat.zero_le _⟩) F hA hr (fun H locs hw9 hr => ?_)
    clear hc8
    replace h := zc_some h
    obtain ⟨r10, z11, hc12, h⟩ := h
    refine zr_callv (zrun_V (As := [.int r6]) (rest := []) zq_2565 zq_2567 zs_X19_dropAdvert zq_2568 zq_4 hdX19_dropAdvert (by decide) (T := TX19) (N := 32) rfl (okX19_dropAdvert l D cy B ids hst N x0 hx0 r6  hr.2.2 hc12) F hr hx0 hl.1 rfl (by decide) dX19_drop_41 rfl rfl hroX19_drop_X19_dropAdvert ⟨Nat.zero_le _, Nat.zero_le _⟩) F hA hr (fun H locs hw13 hr => ?_)
    clear hc12
    exact bX19_drop_44 hst F hA E  x0 x1 hx0 hr (lv_sub hl [0, 1] rfl) h
def fX19_drop (N : Nat)  (x0 : Nat) (x1 : Int32) (z : St) : Option (Int32 × St) := zc (fX19_of N x0 x1 (10 : Int32) z) fun r1 z2 => if r1 = (-1 : Int32) then (fX19_drop_22 N x0 x1 z2) else (zc (fX19_of N x0 x1 (10 : Int32) z2) fun r6 z7 => zc (fX19_dropSegment N x0 r6 z7) fun _ z11 => fX19_drop_22 N x0 x1 z11)
set_option maxHeartbeats 4000000 in
set_option maxRecDepth 100000 in
theorem bX19_drop_0 (hst : zSt B ids) (F : zFx p m c cX19_drop 2 s args RX19 D cy B ids A) (hA : ∀ q : Nat, s.heap.size ≤ q → A q) {r : Int32} {z' : St} (E : zEnd p l e rmX19_drop s m args below meth c cX19_drop D cy B ids A Q none z' .return_ True) {N : Nat}  (x0 : Nat) (x1 : Int32) (hx0 : (19, x0) ∈ ids) {z : St} {H : Heap} {locs : List Loc} {ls : Array Slot} (hr : zRep D cy B ids A s.heap z H locs) (hl : lv_has ls 2 [(0, .ref (B 19 x0)), (1, .int x1)]) (h : fX19_drop N x0 x1 z = some (r, z')) : W p l e rmX19_drop s m args below meth c H locs 0 0 Q (F0 m 0 ls []) := by
  unfold fX19_drop at h
  refine lv_aload_n F.1 F.2.1 dX19_drop_0 rfl (lv_at hl 0 rfl) ?_
  refine lv_iload_n F.1 F.2.1 dX19_drop_1 rfl (lv_at hl 1 rfl) ?_
  refine lv_bipush (v := (10 : Int32)) F.1 F.2.1 dX19_drop_2 (by decide) ?_
  replace h := zc_some h
  obtain ⟨r1, z2, hc3, h⟩ := h
  refine zr_calli (zrun_V (As := [.int x1, .int (10 : Int32)]) (rest := []) zq_2549 zq_2551 zs_X19_of zq_2552 zq_4 hdX19_of (by decide) (T := TX19) (N := 32) rfl (okX19_of l D cy B ids hst N x0 hx0 x1  (10 : Int32)  hr.2.2 hc3) F hr hx0 hl.1 rfl (by decide) dX19_drop_4 rfl rfl hroX19_drop_X19_of ⟨Nat.zero_le _, Nat.zero_le _⟩) F hA hr (fun H locs hw4 hr => ?_)
  clear hc3
  refine lv_iconst (v := (-1 : Int32)) F.1 F.2.1 dX19_drop_7 (by decide) ?_
  refine lv_icmp_eq (tgt := 22) F.1 F.2.1 dX19_drop_8 (by decide) (fun c5 => ?_) (fun c5 => ?_)
  · replace h := zi_t c5 h
    exact bX19_drop_22 hst F hA E  x0 x1 hx0 hr (lv_sub hl [0, 1] rfl) h
  · replace h := zi_f c5 h
    refine lv_aload_n F.1 F.2.1 dX19_drop_11 rfl (lv_at hl 0 rfl) ?_
    refine lv_aload_n F.1 F.2.1 dX19_drop_12 rfl (lv_at hl 0 rfl) ?_
    refine lv_iload_n F.1 F.2.1 dX19_drop_13 rfl (lv_at hl 1 rfl) ?_
    refine lv_bipush (v := (10 : Int32)) F.1 F.2.1 dX19_drop_14 (by decide) ?_
    replace h := zc_some h
    obtain ⟨r6, z7, hc8, h⟩ := h
    refine zr_calli (zrun_V (As := [.int x1, .int (10 : Int32)]) (rest := [.ref (B 19 x0)]) zq_2549 zq_2551 zs_X19_of zq_2552 zq_4 hdX19_of (by decide) (T := TX19) (N := 32) rfl (okX19_of l D cy B ids hst N x0 hx0 x1  (10 : Int32)  hr.2.2 hc8) F hr hx0 hl.1 rfl (Nat.le_of_ble_eq_true rfl) dX19_drop_16 rfl rfl hroX19_drop_X19_of ⟨Nat.zero_le _, Nat.zero_le _⟩) F hA hr (fun H locs hw9 hr => ?_)
    clear hc8
    replace h := zc_some h
    obtain ⟨r10, z11, hc12, h⟩ := h
    refine zr_callv (zrun_V (As := [.int r6]) (rest := []) zq_2553 zq_2555 zs_X19_dropSegment zq_2556 zq_4 hdX19_dropSegment (by decide) (T := TX19) (N := 32) rfl (okX19_dropSegment l D cy B ids hst N x0 hx0 r6  hr.2.2 hc12) F hr hx0 hl.1 rfl (by decide) dX19_drop_19 rfl rfl hroX19_drop_X19_dropSegment ⟨Nat.zero_le _, Nat.zero_le _⟩) F hA hr (fun H locs hw13 hr => ?_)
    clear hc12
    exact bX19_drop_22 hst F hA E  x0 x1 hx0 hr (lv_sub hl [0, 1] rfl) h
end SX19_drop
set_option maxRecDepth 100000 in
theorem okX19_drop (l : Launch) (D : va_G) (cy : Nat → ClassId) (B : Nat → Nat → Nat) (ids : List (Nat × Nat)) (hst : zSt B ids) (N : Nat) (x0 : Nat) (hx0 : (19, x0) ∈ ids) (x1 : Int32) {z : St} {r : Int32} {z' : St} (hW : zWf ids z) (h : fX19_drop N x0 x1 z = some (r, z')) : zM l yX19_drop (zws yX19_drop cX19_drop 2 none) rmX19_drop D cy B ids [.ref (B 19 x0), .int x1] none True z z' :=
  zM_of hst hW (by decide +kernel) (Nat.le_of_ble_eq_true rfl) (fun p e s m args below meth c A ls F hA hret hlocks hr hl => bX19_drop_0 hst F hA (zEnd_v F hret hlocks) x0 x1 hx0 hr hl h)
abbrev rmX19_setSeg : Room := { frames := 0, cells := 0, slots := 0, locals := 0 }
theorem hdX19_setSeg : yX19_setSeg.cls ≠ "java/lang/invoke/MethodHandle" ∧ yX19_setSeg.cls ≠ "java/lang/invoke/VarHandle" ∧ (parseMethodDescriptor yX19_setSeg.desc).map (fun d => d.parameters.length) = some 3 := by decide +kernel
section SX19_setSeg
variable {p : Program} {l : Launch} {e : Env} {s : State} {m : MethodId} {args : Array Value} {below : List Frame} {meth : Method} {c : Code} {Q : State → Prop} {D : va_G} {cy : Nat → ClassId} {B : Nat → Nat → Nat} {ids : List (Nat × Nat)} {A : Nat → Prop}
def fX19_setSeg (N : Nat)  (x0 : Nat) (x1 : Int32) (x2 : Int32) (x3 : Int32) (z : St) : Option (Int32 × St) := zk (((10 : Int32) * x1) + x2) 24000 <| zl (zsA z 174 x0 (Int32.toNatClampNeg (((10 : Int32) * x1) + x2)) x3) fun z2 => some (0, z2)
set_option maxHeartbeats 4000000 in
set_option maxRecDepth 100000 in
theorem bX19_setSeg_0 (hst : zSt B ids) (F : zFx p m c cX19_setSeg 4 s args RX19 D cy B ids A) (hA : ∀ q : Nat, s.heap.size ≤ q → A q) {r : Int32} {z' : St} (E : zEnd p l e rmX19_setSeg s m args below meth c cX19_setSeg D cy B ids A Q none z' .return_ True) {N : Nat}  (x0 : Nat) (x1 : Int32) (x2 : Int32) (x3 : Int32) (hx0 : (19, x0) ∈ ids) {z : St} {H : Heap} {locs : List Loc} {ls : Array Slot} (hr : zRep D cy B ids A s.heap z H locs) (hl : lv_has ls 4 [(0, .ref (B 19 x0)), (1, .int x1), (2, .int x2), (3, .int x3)]) (h : fX19_setSeg N x0 x1 x2 x3 z = some (r, z')) : W p l e rmX19_setSeg s m args below meth c H locs 0 0 Q (F0 m 0 ls []) := by
  unfold fX19_setSeg at h
  refine lv_aload_n F.1 F.2.1 dX19_setSeg_0 rfl (lv_at hl 0 rfl) ?_
  refine gf19_35 F hx0 hr dX19_setSeg_1 ?_
  refine lv_bipush (v := (10 : Int32)) F.1 F.2.1 dX19_setSeg_4 (by decide) ?_
  refine lv_iload_n F.1 F.2.1 dX19_setSeg_6 rfl (lv_at hl 1 rfl) ?_
  refine lv_imul F.1 F.2.1 dX19_setSeg_7 ?_
  refine lv_iload_n F.1 F.2.1 dX19_setSeg_8 rfl (lv_at hl 2 rfl) ?_
  refine lv_iadd F.1 F.2.1 dX19_setSeg_9 ?_
  refine lv_iload_n F.1 F.2.1 dX19_setSeg_10 rfl (lv_at hl 3 rfl) ?_
  replace h := zk_some h
  obtain ⟨c1, h⟩ := h
  refine zr_iast (k := 174) (by decide) rfl (by decide) F (zal_a F hx0 (j := 3) rfl) hr dX19_setSeg_11 c1 (fun H locs z2 ez2 hr => ?_)
  replace h := zl_sub ez2 h
  clear ez2
  obtain ⟨rfl, rfl⟩ := zret h
  exact E _ _ _ _ dX19_setSeg_12 trivial hr
end SX19_setSeg
set_option maxRecDepth 100000 in
theorem okX19_setSeg (l : Launch) (D : va_G) (cy : Nat → ClassId) (B : Nat → Nat → Nat) (ids : List (Nat × Nat)) (hst : zSt B ids) (N : Nat) (x0 : Nat) (hx0 : (19, x0) ∈ ids) (x1 : Int32) (x2 : Int32) (x3 : Int32) {z : St} {r : Int32} {z' : St} (hW : zWf ids z) (h : fX19_setSeg N x0 x1 x2 x3 z = some (r, z')) : zM l yX19_setSeg (zws yX19_setSeg cX19_setSeg 4 none) rmX19_setSeg D cy B ids [.ref (B 19 x0), .int x1, .int x2, .int x3] none True z z' :=
  zM_of hst hW (by decide +kernel) (Nat.le_of_ble_eq_true rfl) (fun p e s m args below meth c A ls F hA hret hlocks hr hl => bX19_setSeg_0 hst F hA (zEnd_v F hret hlocks) x0 x1 x2 x3 hx0 hr hl h)
abbrev rmX19_newSegment : Room := { frames := 1, cells := 0, slots := 0, locals := 23 }
theorem hdX19_newSegment : yX19_newSegment.cls ≠ "java/lang/invoke/MethodHandle" ∧ yX19_newSegment.cls ≠ "java/lang/invoke/VarHandle" ∧ (parseMethodDescriptor yX19_newSegment.desc).map (fun d => d.parameters.length) = some 2 := by decide +kernel
theorem hroX19_newSegment_X19_setSeg : rmX19_setSeg.frames + 1 ≤ rmX19_newSegment.frames ∧ 8 + (4 + 11) + rmX19_setSeg.locals ≤ rmX19_newSegment.locals := by decide
section SX19_newSegment
variable {p : Program} {l : Launch} {e : Env} {s : State} {m : MethodId} {args : Array Value} {below : List Frame} {meth : Method} {c : Code} {Q : State → Prop} {D : va_G} {cy : Nat → ClassId} {B : Nat → Nat → Nat} {ids : List (Nat × Nat)} {A : Nat → Prop}
def fX19_newSegment_23b (N : Nat) (K23 : Nat → Int32 → Int32 → Int32 → Int32 → St → Option (Int32 × St)) (x0 : Nat) (x1 : Int32) (x2 : Int32) (x3 : Int32) (x4 : Int32) (z : St) : Option (Int32 × St) := if (10 : Int32) ≤ x4 then (zc (fX19_setSeg N x0 x3 (2 : Int32) x1 z) fun _ z3 => zc (fX19_setSeg N x0 x3 (3 : Int32) x2 z3) fun _ z7 => zc (fX19_setSeg N x0 x3 (8 : Int32) (-1 : Int32) z7) fun _ z11 => zk x3 2400 <| zl (zsA z11 176 x0 (Int32.toNatClampNeg x3) (1 : Int32)) fun z15 => some (x3, z15)) else (zk (((10 : Int32) * x3) + x4) 24000 <| zl (zsA z 174 x0 (Int32.toNatClampNeg (((10 : Int32) * x3) + x4)) (0 : Int32)) fun z17 => zl (x4 + 1) fun v18 => K23 x0 x1 x2 x3 v18 z17)
def fX19_newSegment_23 (N : Nat)  : Nat → Nat → Int32 → Int32 → Int32 → Int32 → St → Option (Int32 × St)
  | 0 => fun _ _ _ _ _ _ => none
  | n + 1 => fX19_newSegment_23b N (fX19_newSegment_23 N  n)
set_option maxHeartbeats 4000000 in
set_option maxRecDepth 100000 in
theorem bX19_newSegment_23 (hst : zSt B ids) (F : zFx p m c cX19_newSegment 5 s args RX19 D cy B ids A) (hA : ∀ q : Nat, s.heap.size ≤ q → A q) {r : Int32} {z' : St} (E : zEnd p l e rmX19_newSegment s m args below meth c cX19_newSegment D cy B ids A Q (some (.int r)) z' .ireturn True) {N : Nat} {K23 : Nat → Int32 → Int32 → Int32 → Int32 → St → Option (Int32 × St)} (hK23 : ∀ (x0 : Nat) (x1 : Int32) (x2 : Int32) (x3 : Int32) (x4 : Int32) (hx0 : (19, x0) ∈ ids) {z : St} {H : Heap} {locs : List Loc} {ls : Array Slot} (hr : zRep D cy B ids A s.heap z H locs) (hl : lv_has ls 5 [(0, .ref (B 19 x0)), (1, .int x1), (2, .int x2), (3, .int x3), (4, .int x4)]), K23 x0 x1 x2 x3 x4 z = some (r, z') → W p l e rmX19_newSegment s m args below meth c H locs 0 0 Q (F0 m 23 ls [])) (x0 : Nat) (x1 : Int32) (x2 : Int32) (x3 : Int32) (x4 : Int32) (hx0 : (19, x0) ∈ ids) {z : St} {H : Heap} {locs : List Loc} {ls : Array Slot} (hr : zRep D cy B ids A s.heap z H locs) (hl : lv_has ls 5 [(0, .ref (B 19 x0)), (1, .int x1), (2, .int x2), (3, .int x3), (4, .int x4)]) (h : fX19_newSegment_23b N K23 x0 x1 x2 x3 x4 z = some (r, z')) : W p l e rmX19_newSegment s m args below meth c H locs 0 0 Q (F0 m 23 ls []) := by
  unfold fX19_newSegment_23b at h
  refine lv_iload F.1 F.2.1 dX19_newSegment_23 (lv_at hl 4 rfl) ?_
  refine lv_bipush (v := (10 : Int32)) F.1 F.2.1 dX19_newSegment_25 (by decide) ?_
  refine lv_icmp_ge (tgt := 49) F.1 F.2.1 dX19_newSegment_27 (by decide) (fun c1 => ?_) (fun c1 => ?_)
  · replace h := zi_t c1 h
    refine lv_aload_n F.1 F.2.1 dX19_newSegment_49 rfl (lv_at hl 0 rfl) ?_
    refine lv_iload_n F.1 F.2.1 dX19_newSegment_50 rfl (lv_at hl 3 rfl) ?_
    refine lv_iconst (v := (2 : Int32)) F.1 F.2.1 dX19_newSegment_51 (by decide) ?_
    refine lv_iload_n F.1 F.2.1 dX19_newSegment_52 rfl (lv_at hl 1 rfl) ?_
    replace h := zc_some h
    obtain ⟨r2, z3, hc4, h⟩ := h
    refine zr_callv (zrun_V (As := [.int x3, .int (2 : Int32), .int x1]) (rest := []) zq_2757 zq_2759 zs_X19_setSeg zq_2760 zq_4 hdX19_setSeg (by decide) (T := TX19) (N := 32) rfl (okX19_setSeg l D cy B ids hst N x0 hx0 x3  (2 : Int32)  x1  hr.2.2 hc4) F hr hx0 hl.1 rfl (by decide) dX19_newSegment_53 rfl rfl hroX19_newSegment_X19_setSeg ⟨Nat.zero_le _, Nat.zero_le _⟩) F hA hr (fun H locs hw5 hr => ?_)
    clear hc4
    refine lv_aload_n F.1 F.2.1 dX19_newSegment_56 rfl (lv_at hl 0 rfl) ?_
    refine lv_iload_n F.1 F.2.1 dX19_newSegment_57 rfl (lv_at hl 3 rfl) ?_
    refine lv_iconst (v := (3 : Int32)) F.1 F.2.1 dX19_newSegment_58 (by decide) ?_
    refine lv_iload_n F.1 F.2.1 dX19_newSegment_59 rfl (lv_at hl 2 rfl) ?_
    replace h := zc_some h
    obtain ⟨r6, z7, hc8, h⟩ := h
    refine zr_callv (zrun_V (As := [.int x3, .int (3 : Int32), .int x2]) (rest := []) zq_2757 zq_2759 zs_X19_setSeg zq_2760 zq_4 hdX19_setSeg (by decide) (T := TX19) (N := 32) rfl (okX19_setSeg l D cy B ids hst N x0 hx0 x3  (3 : Int32)  x2  hr.2.2 hc8) F hr hx0 hl.1 rfl (by decide) dX19_newSegment_60 rfl rfl hroX19_newSegment_X19_setSeg ⟨Nat.zero_le _, Nat.zero_le _⟩) F hA hr (fun H locs hw9 hr => ?_)
    clear hc8
    refine lv_aload_n F.1 F.2.1 dX19_newSegment_63 rfl (lv_at hl 0 rfl) ?_
    refine lv_iload_n F.1 F.2.1 dX19_newSegment_64 rfl (lv_at hl 3 rfl) ?_
    refine lv_bipush (v := (8 : Int32)) F.1 F.2.1 dX19_newSegment_65 (by decide) ?_
    refine lv_iconst (v := (-1 : Int32)) F.1 F.2.1 dX19_newSegment_67 (by decide) ?_
    replace h := zc_some h
    obtain ⟨r10, z11, hc12, h⟩ := h
    refine zr_callv (zrun_V (As := [.int x3, .int (8 : Int32), .int (-1 : Int32)]) (rest := []) zq_2757 zq_2759 zs_X19_setSeg zq_2760 zq_4 hdX19_setSeg (by decide) (T := TX19) (N := 32) rfl (okX19_setSeg l D cy B ids hst N x0 hx0 x3  (8 : Int32)  (-1 : Int32)  hr.2.2 hc12) F hr hx0 hl.1 rfl (by decide) dX19_newSegment_68 rfl rfl hroX19_newSegment_X19_setSeg ⟨Nat.zero_le _, Nat.zero_le _⟩) F hA hr (fun H locs hw13 hr => ?_)
    clear hc12
    refine lv_aload_n F.1 F.2.1 dX19_newSegment_71 rfl (lv_at hl 0 rfl) ?_
    refine gf19_22 F hx0 hr dX19_newSegment_72 ?_
    refine lv_iload_n F.1 F.2.1 dX19_newSegment_75 rfl (lv_at hl 3 rfl) ?_
    refine lv_iconst (v := (1 : Int32)) F.1 F.2.1 dX19_newSegment_76 (by decide) ?_
    replace h := zk_some h
    obtain ⟨c14, h⟩ := h
    refine zr_iast (k := 176) (by decide) rfl (by decide) F (zal_a F hx0 (j := 5) rfl) hr dX19_newSegment_77 c14 (fun H locs z15 ez15 hr => ?_)
    replace h := zl_sub ez15 h
    clear ez15
    refine lv_iload_n F.1 F.2.1 dX19_newSegment_78 rfl (lv_at hl 3 rfl) ?_
    obtain ⟨rfl, rfl⟩ := zret h
    exact E _ _ _ _ dX19_newSegment_79 trivial hr
  · replace h := zi_f c1 h
    refine lv_aload_n F.1 F.2.1 dX19_newSegment_30 rfl (lv_at hl 0 rfl) ?_
    refine gf19_35 F hx0 hr dX19_newSegment_31 ?_
    refine lv_bipush (v := (10 : Int32)) F.1 F.2.1 dX19_newSegment_34 (by decide) ?_
    refine lv_iload_n F.1 F.2.1 dX19_newSegment_36 rfl (lv_at hl 3 rfl) ?_
    refine lv_imul F.1 F.2.1 dX19_newSegment_37 ?_
    refine lv_iload F.1 F.2.1 dX19_newSegment_38 (lv_at hl 4 rfl) ?_
    refine lv_iadd F.1 F.2.1 dX19_newSegment_40 ?_
    refine lv_iconst (v := (0 : Int32)) F.1 F.2.1 dX19_newSegment_41 (by decide) ?_
    replace h := zk_some h
    obtain ⟨c16, h⟩ := h
    refine zr_iast (k := 174) (by decide) rfl (by decide) F (zal_a F hx0 (j := 3) rfl) hr dX19_newSegment_42 c16 (fun H locs z17 ez17 hr => ?_)
    replace h := zl_sub ez17 h
    clear ez17
    obtain ⟨v18, ev18⟩ : ∃ y : Int32, y = (x4 + 1) := ⟨_, rfl⟩
    replace h := zl_sub ev18 h
    refine lv_iinc (v := v18) (lv' := [(4, .int v18), (0, .ref (B 19 x0)), (1, .int x1), (2, .int x2), (3, .int x3)]) F.1 F.2.1 dX19_newSegment_43 hl (k := 4) rfl (by rw [ev18]; rfl) (by decide) rfl (fun ls hl => ?_)
    refine lv_goto (tgt := 23) F.1 F.2.1 dX19_newSegment_46 (by decide) ?_
    exact hK23 x0 x1 x2 x3 v18 hx0 hr (lv_sub hl [1, 2, 3, 4, 0] rfl) h
theorem lX19_newSegment_23 (hst : zSt B ids) (F : zFx p m c cX19_newSegment 5 s args RX19 D cy B ids A) (hA : ∀ q : Nat, s.heap.size ≤ q → A q) {r : Int32} {z' : St} (E : zEnd p l e rmX19_newSegment s m args below meth c cX19_newSegment D cy B ids A Q (some (.int r)) z' .ireturn True) {N : Nat}  : ∀ (n : Nat) (x0 : Nat) (x1 : Int32) (x2 : Int32) (x3 : Int32) (x4 : Int32) (hx0 : (19, x0) ∈ ids) {z : St} {H : Heap} {locs : List Loc} {ls : Array Slot} (hr : zRep D cy B ids A s.heap z H locs) (hl : lv_has ls 5 [(0, .ref (B 19 x0)), (1, .int x1), (2, .int x2), (3, .int x3), (4, .int x4)]), fX19_newSegment_23 N  n x0 x1 x2 x3 x4 z = some (r, z') → W p l e rmX19_newSegment s m args below meth c H locs 0 0 Q (F0 m 23 ls []) := by
  intro n
  induction n with
  | zero => intro x0 x1 x2 x3 x4 hx0 z H locs ls hr hl h; cases h
  | succ n ih => intro x0 x1 x2 x3 x4 hx0 z H locs ls hr hl h; exact bX19_newSegment_23 hst F hA E ih x0 x1 x2 x3 x4 hx0 hr hl h
def fX19_newSegment (N : Nat)  (x0 : Nat) (x1 : Int32) (x2 : Int32) (z : St) : Option (Int32 × St) := zl (zsI z 19 7 x0 ((zgI z 19 7 x0) - (1 : Int32))) fun z1 => zk (zgI z1 19 7 x0) 2400 <| zl (zgA z1 177 x0 (Int32.toNatClampNeg (zgI z1 19 7 x0))) fun v3 => fX19_newSegment_23 N N x0 x1 x2 v3 (0 : Int32) z1
set_option maxHeartbeats 4000000 in
set_option maxRecDepth 100000 in
theorem bX19_newSegment_0 (hst : zSt B ids) (F : zFx p m c cX19_newSegment 5 s args RX19 D cy B ids A) (hA : ∀ q : Nat, s.heap.size ≤ q → A q) {r : Int32} {z' : St} (E : zEnd p l e rmX19_newSegment s m args below meth c cX19_newSegment D cy B ids A Q (some (.int r)) z' .ireturn True) {N : Nat}  (x0 : Nat) (x1 : Int32) (x2 : Int32) (hx0 : (19, x0) ∈ ids) {z : St} {H : Heap} {locs : List Loc} {ls : Array Slot} (hr : zRep D cy B ids A s.heap z H locs) (hl : lv_has ls 5 [(0, .ref (B 19 x0)), (1, .int x1), (2, .int x2)]) (h : fX19_newSegment N x0 x1 x2 z = some (r, z')) : W p l e rmX19_newSegment s m args below meth c H locs 0 0 Q (F0 m 0 ls []) := by
  unfold fX19_newSegment at h
  refine lv_aload_n F.1 F.2.1 dX19_newSegment_0 rfl (lv_at hl 0 rfl) ?_
  refine lv_dup F.1 F.2.1 dX19_newSegment_1 rfl ?_
  refine gf19_38 F hx0 hr dX19_newSegment_2 ?_
  refine lv_iconst (v := (1 : Int32)) F.1 F.2.1 dX19_newSegment_5 (by decide) ?_
  refine lv_isub F.1 F.2.1 dX19_newSegment_6 ?_
  refine pf19_38 F hx0 hr dX19_newSegment_7 ((zgI z 19 7 x0) - (1 : Int32)) (fun H locs z1 ez1 hr => ?_)
  replace h := zl_sub ez1 h
  clear ez1
  refine lv_aload_n F.1 F.2.1 dX19_newSegment_10 rfl (lv_at hl 0 rfl) ?_
  refine gf19_41 F hx0 hr dX19_newSegment_11 ?_
  refine lv_aload_n F.1 F.2.1 dX19_newSegment_14 rfl (lv_at hl 0 rfl) ?_
  refine gf19_38 F hx0 hr dX19_newSegment_15 ?_
  replace h := zk_some h
  obtain ⟨c2, h⟩ := h
  refine zr_iald (k := 177) (by decide) rfl (by decide) F (zal_a F hx0 (j := 6) rfl) hr dX19_newSegment_18 c2 ?_
  refine lv_topi (fun v3 ev3 => ?_)
  replace h := zl_sub ev3 h
  refine lv_istore_n (lv' := [(3, .int v3), (0, .ref (B 19 x0)), (1, .int x1), (2, .int x2)]) F.1 F.2.1 dX19_newSegment_19 rfl hl (by decide) rfl (fun ls hl => ?_)
  refine lv_iconst (v := (0 : Int32)) F.1 F.2.1 dX19_newSegment_20 (by decide) ?_
  refine lv_istore (lv' := [(4, .int (0 : Int32)), (3, .int v3), (0, .ref (B 19 x0)), (1, .int x1), (2, .int x2)]) F.1 F.2.1 dX19_newSegment_21 hl (by decide) rfl (fun ls hl => ?_)
  exact lX19_newSegment_23 hst F hA E  _ x0 x1 x2 v3 (0 : Int32) hx0 hr (lv_sub hl [2, 3, 4, 1, 0] rfl) h
end SX19_newSegment
set_option maxRecDepth 100000 in
theorem okX19_newSegment (l : Launch) (D : va_G) (cy : Nat → ClassId) (B : Nat → Nat → Nat) (ids : List (Nat × Nat)) (hst : zSt B ids) (N : Nat) (x0 : Nat) (hx0 : (19, x0) ∈ ids) (x1 : Int32) (x2 : Int32) {z : St} {r : Int32} {z' : St} (hW : zWf ids z) (h : fX19_newSegment N x0 x1 x2 z = some (r, z')) : zM l yX19_newSegment (zws yX19_newSegment cX19_newSegment 5 (some .int)) rmX19_newSegment D cy B ids [.ref (B 19 x0), .int x1, .int x2] (some (.int r)) True z z' :=
  zM_of hst hW (by decide +kernel) (Nat.le_of_ble_eq_true rfl) (fun p e s m args below meth c A ls F hA hret hlocks hr hl => bX19_newSegment_0 hst F hA (zEnd_i F hret hlocks) x0 x1 x2 hx0 hr hl h)
abbrev rmX19_setByte : Room := { frames := 0, cells := 0, slots := 0, locals := 0 }
theorem hdX19_setByte : yX19_setByte.cls ≠ "java/lang/invoke/MethodHandle" ∧ yX19_setByte.cls ≠ "java/lang/invoke/VarHandle" ∧ (parseMethodDescriptor yX19_setByte.desc).map (fun d => d.parameters.length) = some 3 := by decide +kernel
section SX19_setByte
variable {p : Program} {l : Launch} {e : Env} {s : State} {m : MethodId} {args : Array Value} {below : List Frame} {meth : Method} {c : Code} {Q : State → Prop} {D : va_G} {cy : Nat → ClassId} {B : Nat → Nat → Nat} {ids : List (Nat × Nat)} {A : Nat → Prop}
def fX19_setByte (N : Nat)  (x0 : Nat) (x1 : Int32) (x2 : Int32) (x3 : Int32) (z : St) : Option (Int32 × St) := zl (((183 : Int32) * x1) + (x2 >>> ((3 : Int32) &&& 31))) fun v1 => zl ((8 : Int32) * (x2 &&& (7 : Int32))) fun v2 => zk v1 439200 <| zk v1 439200 <| zl (zsL z 175 x0 (Int32.toNatClampNeg v1) (((zgL z 175 x0 (Int32.toNatClampNeg v1)) &&& (((255 : Int64) <<< ((v2).toInt64 &&& 63)) ^^^ (-1 : Int64))) ||| ((Int32.toInt64 (x3 &&& (255 : Int32))) <<< ((v2).toInt64 &&& 63)))) fun z5 => some (0, z5)
set_option maxHeartbeats 4000000 in
set_option maxRecDepth 100000 in
theorem bX19_setByte_0 (hst : zSt B ids) (F : zFx p m c cX19_setByte 6 s args RX19 D cy B ids A) (hA : ∀ q : Nat, s.heap.size ≤ q → A q) {r : Int32} {z' : St} (E : zEnd p l e rmX19_setByte s m args below meth c cX19_setByte D cy B ids A Q none z' .return_ True) {N : Nat}  (x0 : Nat) (x1 : Int32) (x2 : Int32) (x3 : Int32) (hx0 : (19, x0) ∈ ids) {z : St} {H : Heap} {locs : List Loc} {ls : Array Slot} (hr : zRep D cy B ids A s.heap z H locs) (hl : lv_has ls 6 [(0, .ref (B 19 x0)), (1, .int x1), (2, .int x2), (3, .int x3)]) (h : fX19_setByte N x0 x1 x2 x3 z = some (r, z')) : W p l e rmX19_setByte s m args below meth c H locs 0 0 Q (F0 m 0 ls []) := by
  unfold fX19_setByte at h
  refine lv_sipush (v := (183 : Int32)) F.1 F.2.1 dX19_setByte_0 (by decide) ?_
  refine lv_iload_n F.1 F.2.1 dX19_setByte_3 rfl (lv_at hl 1 rfl) ?_
  refine lv_imul F.1 F.2.1 dX19_setByte_4 ?_
  refine lv_iload_n F.1 F.2.1 dX19_setByte_5 rfl (lv_at hl 2 rfl) ?_
  refine lv_iconst (v := (3 : Int32)) F.1 F.2.1 dX19_setByte_6 (by decide) ?_
  refine lv_ishr F.1 F.2.1 dX19_setByte_7 ?_
  refine lv_iadd F.1 F.2.1 dX19_setByte_8 ?_
  refine lv_topi (fun v1 ev1 => ?_)
  replace h := zl_sub ev1 h
  refine lv_istore (lv' := [(4, .int v1), (0, .ref (B 19 x0)), (1, .int x1), (2, .int x2), (3, .int x3)]) F.1 F.2.1 dX19_setByte_9 hl (by decide) rfl (fun ls hl => ?_)
  refine lv_bipush (v := (8 : Int32)) F.1 F.2.1 dX19_setByte_11 (by decide) ?_
  refine lv_iload_n F.1 F.2.1 dX19_setByte_13 rfl (lv_at hl 3 rfl) ?_
  refine lv_bipush (v := (7 : Int32)) F.1 F.2.1 dX19_setByte_14 (by decide) ?_
  refine lv_iand F.1 F.2.1 dX19_setByte_16 ?_
  refine lv_imul F.1 F.2.1 dX19_setByte_17 ?_
  refine lv_topi (fun v2 ev2 => ?_)
  replace h := zl_sub ev2 h
  refine lv_istore (lv' := [(5, .int v2), (4, .int v1), (0, .ref (B 19 x0)), (1, .int x1), (2, .int x2), (3, .int x3)]) F.1 F.2.1 dX19_setByte_18 hl (by decide) rfl (fun ls hl => ?_)
  refine lv_aload_n F.1 F.2.1 dX19_setByte_20 rfl (lv_at hl 2 rfl) ?_
  refine gf19_53 F hx0 hr dX19_setByte_21 ?_
  refine lv_iload F.1 F.2.1 dX19_setByte_24 (lv_at hl 1 rfl) ?_
  refine lv_aload_n F.1 F.2.1 dX19_setByte_26 rfl (lv_at hl 2 rfl) ?_
  refine gf19_53 F hx0 hr dX19_setByte_27 ?_
  refine lv_iload F.1 F.2.1 dX19_setByte_30 (lv_at hl 1 rfl) ?_
  replace h := zk_some h
  obtain ⟨c3, h⟩ := h
  refine zr_lald (k := 175) (by decide) rfl (by decide) F (zal_a F hx0 (j := 4) rfl) hr dX19_setByte_32 c3 ?_
  refine lv_ldc2 (v := (255)) F.1 F.2.1 F.2.2.2.1 (F.2.2.2.2.1 _ zq_2949) dX19_setByte_33 ?_
  refine lv_iload F.1 F.2.1 dX19_setByte_36 (lv_at hl 0 rfl) ?_
  refine lv_lshl F.1 F.2.1 dX19_setByte_38 rfl ?_
  refine lv_ldc2 (v := (-1)) F.1 F.2.1 F.2.2.2.1 (F.2.2.2.2.1 _ zq_2950) dX19_setByte_39 ?_
  refine lv_lxor F.1 F.2.1 dX19_setByte_42 ?_
  refine lv_land F.1 F.2.1 dX19_setByte_43 ?_
  refine lv_iload_n F.1 F.2.1 dX19_setByte_44 rfl (lv_at hl 5 rfl) ?_
  refine lv_sipush (v := (255 : Int32)) F.1 F.2.1 dX19_setByte_45 (by decide) ?_
  refine lv_iand F.1 F.2.1 dX19_setByte_48 ?_
  refine lv_i2l F.1 F.2.1 dX19_setByte_49 rfl ?_
  refine lv_iload F.1 F.2.1 dX19_setByte_50 (lv_at hl 0 rfl) ?_
  refine lv_lshl F.1 F.2.1 dX19_setByte_52 rfl ?_
  refine lv_lor F.1 F.2.1 dX19_setByte_53 ?_
  replace h := zk_some h
  obtain ⟨c4, h⟩ := h
  refine zr_last (k := 175) (by decide) rfl (by decide) F (zal_a F hx0 (j := 4) rfl) hr dX19_setByte_54 c4 (fun H locs z5 ez5 hr => ?_)
  replace h := zl_sub ez5 h
  clear ez5
  obtain ⟨rfl, rfl⟩ := zret h
  exact E _ _ _ _ dX19_setByte_55 trivial hr
end SX19_setByte
set_option maxRecDepth 100000 in
theorem okX19_setByte (l : Launch) (D : va_G) (cy : Nat → ClassId) (B : Nat → Nat → Nat) (ids : List (Nat × Nat)) (hst : zSt B ids) (N : Nat) (x0 : Nat) (hx0 : (19, x0) ∈ ids) (x1 : Int32) (x2 : Int32) (x3 : Int32) {z : St} {r : Int32} {z' : St} (hW : zWf ids z) (h : fX19_setByte N x0 x1 x2 x3 z = some (r, z')) : zM l yX19_setByte (zws yX19_setByte cX19_setByte 6 none) rmX19_setByte D cy B ids [.ref (B 19 x0), .int x1, .int x2, .int x3] none True z z' :=
  zM_of hst hW (by decide +kernel) (Nat.le_of_ble_eq_true rfl) (fun p e s m args below meth c A ls F hA hret hlocks hr hl => bX19_setByte_0 hst F hA (zEnd_v F hret hlocks) x0 x1 x2 x3 hx0 hr hl h)
abbrev rmX19_byteOf : Room := { frames := 0, cells := 0, slots := 0, locals := 0 }
theorem hdX19_byteOf : yX19_byteOf.cls ≠ "java/lang/invoke/MethodHandle" ∧ yX19_byteOf.cls ≠ "java/lang/invoke/VarHandle" ∧ (parseMethodDescriptor yX19_byteOf.desc).map (fun d => d.parameters.length) = some 2 := by decide +kernel
section SX19_byteOf
variable {p : Program} {l : Launch} {e : Env} {s : State} {m : MethodId} {args : Array Value} {below : List Frame} {meth : Method} {c : Code} {Q : State → Prop} {D : va_G} {cy : Nat → ClassId} {B : Nat → Nat → Nat} {ids : List (Nat × Nat)} {A : Nat → Prop}
def fX19_byteOf (N : Nat)  (x0 : Nat) (x1 : Int32) (x2 : Int32) (z : St) : Option (Int32 × St) := zk (((183 : Int32) * x1) + (x2 >>> ((3 : Int32) &&& 31))) 439200 <| zq (vp_nar .byte ((Int32.toInt8 (Int64.toInt32 ((zgL z 175 x0 (Int32.toNatClampNeg (((183 : Int32) * x1) + (x2 >>> ((3 : Int32) &&& 31))))) >>> ((((8 : Int32) * (x2 &&& (7 : Int32)))).toInt64 &&& 63)))).toInt32) = ((Int32.toInt8 (Int64.toInt32 ((zgL z 175 x0 (Int32.toNatClampNeg (((183 : Int32) * x1) + (x2 >>> ((3 : Int32) &&& 31))))) >>> ((((8 : Int32) * (x2 &&& (7 : Int32)))).toInt64 &&& 63)))).toInt32)) <| some (((Int32.toInt8 (Int64.toInt32 ((zgL z 175 x0 (Int32.toNatClampNeg (((183 : Int32) * x1) + (x2 >>> ((3 : Int32) &&& 31))))) >>> ((((8 : Int32) * (x2 &&& (7 : Int32)))).toInt64 &&& 63)))).toInt32), z)
set_option maxHeartbeats 4000000 in
set_option maxRecDepth 100000 in
theorem bX19_byteOf_0 (hst : zSt B ids) (F : zFx p m c cX19_byteOf 3 s args RX19 D cy B ids A) (hA : ∀ q : Nat, s.heap.size ≤ q → A q) {r : Int32} {z' : St} (E : zEnd p l e rmX19_byteOf s m args below meth c cX19_byteOf D cy B ids A Q (some (.int r)) z' .ireturn (vp_nar .byte r = r)) {N : Nat}  (x0 : Nat) (x1 : Int32) (x2 : Int32) (hx0 : (19, x0) ∈ ids) {z : St} {H : Heap} {locs : List Loc} {ls : Array Slot} (hr : zRep D cy B ids A s.heap z H locs) (hl : lv_has ls 3 [(0, .ref (B 19 x0)), (1, .int x1), (2, .int x2)]) (h : fX19_byteOf N x0 x1 x2 z = some (r, z')) : W p l e rmX19_byteOf s m args below meth c H locs 0 0 Q (F0 m 0 ls []) := by
  unfold fX19_byteOf at h
  refine lv_aload_n F.1 F.2.1 dX19_byteOf_0 rfl (lv_at hl 0 rfl) ?_
  refine gf19_53 F hx0 hr dX19_byteOf_1 ?_
  refine lv_sipush (v := (183 : Int32)) F.1 F.2.1 dX19_byteOf_4 (by decide) ?_
  refine lv_iload_n F.1 F.2.1 dX19_byteOf_7 rfl (lv_at hl 1 rfl) ?_
  refine lv_imul F.1 F.2.1 dX19_byteOf_8 ?_
  refine lv_iload_n F.1 F.2.1 dX19_byteOf_9 rfl (lv_at hl 2 rfl) ?_
  refine lv_iconst (v := (3 : Int32)) F.1 F.2.1 dX19_byteOf_10 (by decide) ?_
  refine lv_ishr F.1 F.2.1 dX19_byteOf_11 ?_
  refine lv_iadd F.1 F.2.1 dX19_byteOf_12 ?_
  replace h := zk_some h
  obtain ⟨c1, h⟩ := h
  refine zr_lald (k := 175) (by decide) rfl (by decide) F (zal_a F hx0 (j := 4) rfl) hr dX19_byteOf_13 c1 ?_
  refine lv_bipush (v := (8 : Int32)) F.1 F.2.1 dX19_byteOf_14 (by decide) ?_
  refine lv_iload_n F.1 F.2.1 dX19_byteOf_16 rfl (lv_at hl 2 rfl) ?_
  refine lv_bipush (v := (7 : Int32)) F.1 F.2.1 dX19_byteOf_17 (by decide) ?_
  refine lv_iand F.1 F.2.1 dX19_byteOf_19 ?_
  refine lv_imul F.1 F.2.1 dX19_byteOf_20 ?_
  refine lv_lshr F.1 F.2.1 dX19_byteOf_21 rfl ?_
  refine lv_l2i F.1 F.2.1 dX19_byteOf_22 rfl ?_
  refine lv_i2b F.1 F.2.1 dX19_byteOf_23 rfl ?_
  replace h := zq_some h
  obtain ⟨c2, h⟩ := h
  obtain ⟨rfl, rfl⟩ := zret h
  exact E _ _ _ _ dX19_byteOf_24 c2 hr
end SX19_byteOf
set_option maxRecDepth 100000 in
theorem okX19_byteOf (l : Launch) (D : va_G) (cy : Nat → ClassId) (B : Nat → Nat → Nat) (ids : List (Nat × Nat)) (hst : zSt B ids) (N : Nat) (x0 : Nat) (hx0 : (19, x0) ∈ ids) (x1 : Int32) (x2 : Int32) {z : St} {r : Int32} {z' : St} (hW : zWf ids z) (h : fX19_byteOf N x0 x1 x2 z = some (r, z')) : zM l yX19_byteOf (zws yX19_byteOf cX19_byteOf 3 (some .byte)) rmX19_byteOf D cy B ids [.ref (B 19 x0), .int x1, .int x2] (some (.int r)) (vp_nar .byte r = r) z z' :=
  zM_of hst hW (by decide +kernel) (Nat.le_of_ble_eq_true rfl) (fun p e s m args below meth c A ls F hA hret hlocks hr hl => bX19_byteOf_0 hst F hA (zEnd_y F hret hlocks) x0 x1 x2 hx0 hr hl h)
abbrev rmX19_has : Room := { frames := 1, cells := 0, slots := 0, locals := 22 }
theorem hdX19_has : yX19_has.cls ≠ "java/lang/invoke/MethodHandle" ∧ yX19_has.cls ≠ "java/lang/invoke/VarHandle" ∧ (parseMethodDescriptor yX19_has.desc).map (fun d => d.parameters.length) = some 2 := by decide +kernel
theorem hroX19_has_X19_seg : rmX19_seg.frames + 1 ≤ rmX19_has.frames ∧ 8 + (3 + 11) + rmX19_seg.locals ≤ rmX19_has.locals := by decide
section SX19_has
variable {p : Program} {l : Launch} {e : Env} {s : State} {m : MethodId} {args : Array Value} {below : List Frame} {meth : Method} {c : Code} {Q : State → Prop} {D : va_G} {cy : Nat → ClassId} {B : Nat → Nat → Nat} {ids : List (Nat × Nat)} {A : Nat → Prop}
def fX19_has (N : Nat)  (x0 : Nat) (x1 : Int32) (x2 : Int32) (z : St) : Option (Int32 × St) := zc (fX19_seg N x0 x1 (2 : Int32) z) fun r1 z2 => if (r1 &&& x2) = 0 then (some ((0 : Int32), z2)) else (some ((1 : Int32), z2))
set_option maxHeartbeats 4000000 in
set_option maxRecDepth 100000 in
theorem bX19_has_0 (hst : zSt B ids) (F : zFx p m c cX19_has 3 s args RX19 D cy B ids A) (hA : ∀ q : Nat, s.heap.size ≤ q → A q) {r : Int32} {z' : St} (E : zEnd p l e rmX19_has s m args below meth c cX19_has D cy B ids A Q (some (.int r)) z' .ireturn (r = 0 ∨ r = 1)) {N : Nat}  (x0 : Nat) (x1 : Int32) (x2 : Int32) (hx0 : (19, x0) ∈ ids) {z : St} {H : Heap} {locs : List Loc} {ls : Array Slot} (hr : zRep D cy B ids A s.heap z H locs) (hl : lv_has ls 3 [(0, .ref (B 19 x0)), (1, .int x1), (2, .int x2)]) (h : fX19_has N x0 x1 x2 z = some (r, z')) : W p l e rmX19_has s m args below meth c H locs 0 0 Q (F0 m 0 ls []) := by
  unfold fX19_has at h
  refine lv_aload_n F.1 F.2.1 dX19_has_0 rfl (lv_at hl 0 rfl) ?_
  refine lv_iload_n F.1 F.2.1 dX19_has_1 rfl (lv_at hl 1 rfl) ?_
  refine lv_iconst (v := (2 : Int32)) F.1 F.2.1 dX19_has_2 (by decide) ?_
  replace h := zc_some h
  obtain ⟨r1, z2, hc3, h⟩ := h
  refine zr_calli (zrun_V (As := [.int x1, .int (2 : Int32)]) (rest := []) zq_2557 zq_2559 zs_X19_seg zq_2560 zq_4 hdX19_seg (by decide) (T := TX19) (N := 32) rfl (okX19_seg l D cy B ids hst N x0 hx0 x1  (2 : Int32)  hr.2.2 hc3) F hr hx0 hl.1 rfl (by decide) dX19_has_3 rfl rfl hroX19_has_X19_seg ⟨Nat.zero_le _, Nat.zero_le _⟩) F hA hr (fun H locs hw4 hr => ?_)
  clear hc3
  refine lv_iload_n F.1 F.2.1 dX19_has_6 rfl (lv_at hl 2 rfl) ?_
  refine lv_iand F.1 F.2.1 dX19_has_7 ?_
  refine lv_if_eq (tgt := 15) F.1 F.2.1 dX19_has_8 (by decide) (fun c5 => ?_) (fun c5 => ?_)
  · replace h := zi_t c5 h
    refine lv_iconst (v := (0 : Int32)) F.1 F.2.1 dX19_has_15 (by decide) ?_
    obtain ⟨rfl, rfl⟩ := zret h
    exact E _ _ _ _ dX19_has_16 (by decide) hr
  · replace h := zi_f c5 h
    refine lv_iconst (v := (1 : Int32)) F.1 F.2.1 dX19_has_11 (by decide) ?_
    refine lv_goto (tgt := 16) F.1 F.2.1 dX19_has_12 (by decide) ?_
    obtain ⟨rfl, rfl⟩ := zret h
    exact E _ _ _ _ dX19_has_16 (by decide) hr
end SX19_has
set_option maxRecDepth 100000 in
theorem okX19_has (l : Launch) (D : va_G) (cy : Nat → ClassId) (B : Nat → Nat → Nat) (ids : List (Nat × Nat)) (hst : zSt B ids) (N : Nat) (x0 : Nat) (hx0 : (19, x0) ∈ ids) (x1 : Int32) (x2 : Int32) {z : St} {r : Int32} {z' : St} (hW : zWf ids z) (h : fX19_has N x0 x1 x2 z = some (r, z')) : zM l yX19_has (zws yX19_has cX19_has 3 (some .boolean)) rmX19_has D cy B ids [.ref (B 19 x0), .int x1, .int x2] (some (.int r)) (r = 0 ∨ r = 1) z z' :=
  zM_of hst hW (by decide +kernel) (Nat.le_of_ble_eq_true rfl) (fun p e s m args below meth c A ls F hA hret hlocks hr hl => bX19_has_0 hst F hA (zEnd_z F hret hlocks) x0 x1 x2 hx0 hr hl h)
abbrev rmX19_sizeOf : Room := { frames := 2, cells := 0, slots := 0, locals := 44 }
theorem hdX19_sizeOf : yX19_sizeOf.cls ≠ "java/lang/invoke/MethodHandle" ∧ yX19_sizeOf.cls ≠ "java/lang/invoke/VarHandle" ∧ (parseMethodDescriptor yX19_sizeOf.desc).map (fun d => d.parameters.length) = some 1 := by decide +kernel
theorem hroX19_sizeOf_X19_has : rmX19_has.frames + 1 ≤ rmX19_sizeOf.frames ∧ 8 + (3 + 11) + rmX19_has.locals ≤ rmX19_sizeOf.locals := by decide
theorem hroX19_sizeOf_X19_seg : rmX19_seg.frames + 1 ≤ rmX19_sizeOf.frames ∧ 8 + (3 + 11) + rmX19_seg.locals ≤ rmX19_sizeOf.locals := by decide
section SX19_sizeOf
variable {p : Program} {l : Launch} {e : Env} {s : State} {m : MethodId} {args : Array Value} {below : List Frame} {meth : Method} {c : Code} {Q : State → Prop} {D : va_G} {cy : Nat → ClassId} {B : Nat → Nat → Nat} {ids : List (Nat × Nat)} {A : Nat → Prop}
def fX19_sizeOf_14 (N : Nat)  (x0 : Nat) (x1 : Int32) (s0 : Int32) (z : St) : Option (Int32 × St) := zc (fX19_seg N x0 x1 (7 : Int32) z) fun r1 z2 => zc (fX19_has N x0 x1 (2 : Int32) z2) fun r5 z6 => if r5 = 0 then (some (((s0 + r1) + (0 : Int32)), z6)) else (some (((s0 + r1) + (1 : Int32)), z6))
set_option maxHeartbeats 4000000 in
set_option maxRecDepth 100000 in
theorem bX19_sizeOf_14 (hst : zSt B ids) (F : zFx p m c cX19_sizeOf 2 s args RX19 D cy B ids A) (hA : ∀ q : Nat, s.heap.size ≤ q → A q) {r : Int32} {z' : St} (E : zEnd p l e rmX19_sizeOf s m args below meth c cX19_sizeOf D cy B ids A Q (some (.int r)) z' .ireturn True) {N : Nat}  (x0 : Nat) (x1 : Int32) (s0 : Int32) (hx0 : (19, x0) ∈ ids) {z : St} {H : Heap} {locs : List Loc} {ls : Array Slot} (hr : zRep D cy B ids A s.heap z H locs) (hl : lv_has ls 2 [(0, .ref (B 19 x0)), (1, .int x1)]) (h : fX19_sizeOf_14 N x0 x1 s0 z = some (r, z')) : W p l e rmX19_sizeOf s m args below meth c H locs 0 0 Q (F0 m 14 ls [.int s0]) := by
  unfold fX19_sizeOf_14 at h
  refine lv_aload_n F.1 F.2.1 dX19_sizeOf_14 rfl (lv_at hl 0 rfl) ?_
  refine lv_iload_n F.1 F.2.1 dX19_sizeOf_15 rfl (lv_at hl 1 rfl) ?_
  refine lv_bipush (v := (7 : Int32)) F.1 F.2.1 dX19_sizeOf_16 (by decide) ?_
  replace h := zc_some h
  obtain ⟨r1, z2, hc3, h⟩ := h
  refine zr_calli (zrun_V (As := [.int x1, .int (7 : Int32)]) (rest := [.int s0]) zq_2557 zq_2559 zs_X19_seg zq_2560 zq_4 hdX19_seg (by decide) (T := TX19) (N := 32) rfl (okX19_seg l D cy B ids hst N x0 hx0 x1  (7 : Int32)  hr.2.2 hc3) F hr hx0 hl.1 rfl (Nat.le_of_ble_eq_true rfl) dX19_sizeOf_18 rfl rfl hroX19_sizeOf_X19_seg ⟨Nat.zero_le _, Nat.zero_le _⟩) F hA hr (fun H locs hw4 hr => ?_)
  clear hc3
  refine lv_iadd F.1 F.2.1 dX19_sizeOf_21 ?_
  refine lv_aload_n F.1 F.2.1 dX19_sizeOf_22 rfl (lv_at hl 0 rfl) ?_
  refine lv_iload_n F.1 F.2.1 dX19_sizeOf_23 rfl (lv_at hl 1 rfl) ?_
  refine lv_iconst (v := (2 : Int32)) F.1 F.2.1 dX19_sizeOf_24 (by decide) ?_
  replace h := zc_some h
  obtain ⟨r5, z6, hc7, h⟩ := h
  refine zr_calli (zrun_V (As := [.int x1, .int (2 : Int32)]) (rest := [.int (s0 + r1)]) zq_2663 zq_2665 zs_X19_has zq_2666 zq_4 hdX19_has (by decide) (T := TX19) (N := 32) rfl (okX19_has l D cy B ids hst N x0 hx0 x1  (2 : Int32)  hr.2.2 hc7) F hr hx0 hl.1 rfl (Nat.le_of_ble_eq_true rfl) dX19_sizeOf_25 rfl rfl hroX19_sizeOf_X19_has ⟨Nat.zero_le _, Nat.zero_le _⟩) F hA hr (fun H locs hw8 hr => ?_)
  clear hc7
  refine lv_if_eq (tgt := 35) F.1 F.2.1 dX19_sizeOf_28 (by decide) (fun c9 => ?_) (fun c9 => ?_)
  · replace h := zi_t c9 h
    refine lv_iconst (v := (0 : Int32)) F.1 F.2.1 dX19_sizeOf_35 (by decide) ?_
    refine lv_iadd F.1 F.2.1 dX19_sizeOf_36 ?_
    obtain ⟨rfl, rfl⟩ := zret h
    exact E _ _ _ _ dX19_sizeOf_37 trivial hr
  · replace h := zi_f c9 h
    refine lv_iconst (v := (1 : Int32)) F.1 F.2.1 dX19_sizeOf_31 (by decide) ?_
    refine lv_goto (tgt := 36) F.1 F.2.1 dX19_sizeOf_32 (by decide) ?_
    refine lv_iadd F.1 F.2.1 dX19_sizeOf_36 ?_
    obtain ⟨rfl, rfl⟩ := zret h
    exact E _ _ _ _ dX19_sizeOf_37 trivial hr
def fX19_sizeOf (N : Nat)  (x0 : Nat) (x1 : Int32) (z : St) : Option (Int32 × St) := zc (fX19_has N x0 x1 (1 : Int32) z) fun r1 z2 => if r1 = 0 then (fX19_sizeOf_14 N x0 x1 (0 : Int32) z2) else (fX19_sizeOf_14 N x0 x1 (1 : Int32) z2)
set_option maxHeartbeats 4000000 in
set_option maxRecDepth 100000 in
theorem bX19_sizeOf_0 (hst : zSt B ids) (F : zFx p m c cX19_sizeOf 2 s args RX19 D cy B ids A) (hA : ∀ q : Nat, s.heap.size ≤ q → A q) {r : Int32} {z' : St} (E : zEnd p l e rmX19_sizeOf s m args below meth c cX19_sizeOf D cy B ids A Q (some (.int r)) z' .ireturn True) {N : Nat}  (x0 : Nat) (x1 : Int32) (hx0 : (19, x0) ∈ ids) {z : St} {H : Heap} {locs : List Loc} {ls : Array Slot} (hr : zRep D cy B ids A s.heap z H locs) (hl : lv_has ls 2 [(0, .ref (B 19 x0)), (1, .int x1)]) (h : fX19_sizeOf N x0 x1 z = some (r, z')) : W p l e rmX19_sizeOf s m args below meth c H locs 0 0 Q (F0 m 0 ls []) := by
  unfold fX19_sizeOf at h
  refine lv_aload_n F.1 F.2.1 dX19_sizeOf_0 rfl (lv_at hl 0 rfl) ?_
  refine lv_iload_n F.1 F.2.1 dX19_sizeOf_1 rfl (lv_at hl 1 rfl) ?_
  refine lv_iconst (v := (1 : Int32)) F.1 F.2.1 dX19_sizeOf_2 (by decide) ?_
  replace h := zc_some h
  obtain ⟨r1, z2, hc3, h⟩ := h
  refine zr_calli (zrun_V (As := [.int x1, .int (1 : Int32)]) (rest := []) zq_2663 zq_2665 zs_X19_has zq_2666 zq_4 hdX19_has (by decide) (T := TX19) (N := 32) rfl (okX19_has l D cy B ids hst N x0 hx0 x1  (1 : Int32)  hr.2.2 hc3) F hr hx0 hl.1 rfl (by decide) dX19_sizeOf_3 rfl rfl hroX19_sizeOf_X19_has ⟨Nat.zero_le _, Nat.zero_le _⟩) F hA hr (fun H locs hw4 hr => ?_)
  clear hc3
  refine lv_if_eq (tgt := 13) F.1 F.2.1 dX19_sizeOf_6 (by decide) (fun c5 => ?_) (fun c5 => ?_)
  · replace h := zi_t c5 h
    refine lv_iconst (v := (0 : Int32)) F.1 F.2.1 dX19_sizeOf_13 (by decide) ?_
    exact bX19_sizeOf_14 hst F hA E  x0 x1 (0 : Int32) hx0 hr (lv_sub hl [0, 1] rfl) h
  · replace h := zi_f c5 h
    refine lv_iconst (v := (1 : Int32)) F.1 F.2.1 dX19_sizeOf_9 (by decide) ?_
    refine lv_goto (tgt := 14) F.1 F.2.1 dX19_sizeOf_10 (by decide) ?_
    exact bX19_sizeOf_14 hst F hA E  x0 x1 (1 : Int32) hx0 hr (lv_sub hl [0, 1] rfl) h
end SX19_sizeOf
set_option maxRecDepth 100000 in
theorem okX19_sizeOf (l : Launch) (D : va_G) (cy : Nat → ClassId) (B : Nat → Nat → Nat) (ids : List (Nat × Nat)) (hst : zSt B ids) (N : Nat) (x0 : Nat) (hx0 : (19, x0) ∈ ids) (x1 : Int32) {z : St} {r : Int32} {z' : St} (hW : zWf ids z) (h : fX19_sizeOf N x0 x1 z = some (r, z')) : zM l yX19_sizeOf (zws yX19_sizeOf cX19_sizeOf 2 (some .int)) rmX19_sizeOf D cy B ids [.ref (B 19 x0), .int x1] (some (.int r)) True z z' :=
  zM_of hst hW (by decide +kernel) (Nat.le_of_ble_eq_true rfl) (fun p e s m args below meth c A ls F hA hret hlocks hr hl => bX19_sizeOf_0 hst F hA (zEnd_i F hret hlocks) x0 x1 hx0 hr hl h)
abbrev rmX19_ad : Room := { frames := 0, cells := 0, slots := 0, locals := 0 }
theorem hdX19_ad : yX19_ad.cls ≠ "java/lang/invoke/MethodHandle" ∧ yX19_ad.cls ≠ "java/lang/invoke/VarHandle" ∧ (parseMethodDescriptor yX19_ad.desc).map (fun d => d.parameters.length) = some 2 := by decide +kernel
section SX19_ad
variable {p : Program} {l : Launch} {e : Env} {s : State} {m : MethodId} {args : Array Value} {below : List Frame} {meth : Method} {c : Code} {Q : State → Prop} {D : va_G} {cy : Nat → ClassId} {B : Nat → Nat → Nat} {ids : List (Nat × Nat)} {A : Nat → Prop}
def fX19_ad (N : Nat)  (x0 : Nat) (x1 : Int32) (x2 : Int32) (z : St) : Option (Int32 × St) := zk (((76 : Int32) * x1) + x2) 182400 <| some ((zgA z 178 x0 (Int32.toNatClampNeg (((76 : Int32) * x1) + x2))), z)
set_option maxHeartbeats 4000000 in
set_option maxRecDepth 100000 in
theorem bX19_ad_0 (hst : zSt B ids) (F : zFx p m c cX19_ad 3 s args RX19 D cy B ids A) (hA : ∀ q : Nat, s.heap.size ≤ q → A q) {r : Int32} {z' : St} (E : zEnd p l e rmX19_ad s m args below meth c cX19_ad D cy B ids A Q (some (.int r)) z' .ireturn True) {N : Nat}  (x0 : Nat) (x1 : Int32) (x2 : Int32) (hx0 : (19, x0) ∈ ids) {z : St} {H : Heap} {locs : List Loc} {ls : Array Slot} (hr : zRep D cy B ids A s.heap z H locs) (hl : lv_has ls 3 [(0, .ref (B 19 x0)), (1, .int x1), (2, .int x2)]) (h : fX19_ad N x0 x1 x2 z = some (r, z')) : W p l e rmX19_ad s m args below meth c H locs 0 0 Q (F0 m 0 ls []) := by
  unfold fX19_ad at h
  refine lv_aload_n F.1 F.2.1 dX19_ad_0 rfl (lv_at hl 0 rfl) ?_
  refine gf19_65 F hx0 hr dX19_ad_1 ?_
  refine lv_bipush (v := (76 : Int32)) F.1 F.2.1 dX19_ad_4 (by decide) ?_
  refine lv_iload_n F.1 F.2.1 dX19_ad_6 rfl (lv_at hl 1 rfl) ?_
  refine lv_imul F.1 F.2.1 dX19_ad_7 ?_
  refine lv_iload_n F.1 F.2.1 dX19_ad_8 rfl (lv_at hl 2 rfl) ?_
  refine lv_iadd F.1 F.2.1 dX19_ad_9 ?_
  replace h := zk_some h
  obtain ⟨c1, h⟩ := h
  refine zr_iald (k := 178) (by decide) rfl (by decide) F (zal_a F hx0 (j := 8) rfl) hr dX19_ad_10 c1 ?_
  obtain ⟨rfl, rfl⟩ := zret h
  exact E _ _ _ _ dX19_ad_11 trivial hr
end SX19_ad
set_option maxRecDepth 100000 in
theorem okX19_ad (l : Launch) (D : va_G) (cy : Nat → ClassId) (B : Nat → Nat → Nat) (ids : List (Nat × Nat)) (hst : zSt B ids) (N : Nat) (x0 : Nat) (hx0 : (19, x0) ∈ ids) (x1 : Int32) (x2 : Int32) {z : St} {r : Int32} {z' : St} (hW : zWf ids z) (h : fX19_ad N x0 x1 x2 z = some (r, z')) : zM l yX19_ad (zws yX19_ad cX19_ad 3 (some .int)) rmX19_ad D cy B ids [.ref (B 19 x0), .int x1, .int x2] (some (.int r)) True z z' :=
  zM_of hst hW (by decide +kernel) (Nat.le_of_ble_eq_true rfl) (fun p e s m args below meth c A ls F hA hret hlocks hr hl => bX19_ad_0 hst F hA (zEnd_i F hret hlocks) x0 x1 x2 hx0 hr hl h)
abbrev rmX19_newAdvert : Room := { frames := 0, cells := 0, slots := 0, locals := 0 }
theorem hdX19_newAdvert : yX19_newAdvert.cls ≠ "java/lang/invoke/MethodHandle" ∧ yX19_newAdvert.cls ≠ "java/lang/invoke/VarHandle" ∧ (parseMethodDescriptor yX19_newAdvert.desc).map (fun d => d.parameters.length) = some 1 := by decide +kernel
section SX19_newAdvert
variable {p : Program} {l : Launch} {e : Env} {s : State} {m : MethodId} {args : Array Value} {below : List Frame} {meth : Method} {c : Code} {Q : State → Prop} {D : va_G} {cy : Nat → ClassId} {B : Nat → Nat → Nat} {ids : List (Nat × Nat)} {A : Nat → Prop}
def fX19_newAdvert_22b (N : Nat) (K22 : Nat → Int32 → Int32 → Int32 → St → Option (Int32 × St)) (x0 : Nat) (x1 : Int32) (x2 : Int32) (x3 : Int32) (z : St) : Option (Int32 × St) := if (76 : Int32) ≤ x3 then (zk ((76 : Int32) * x2) 182400 <| zl (zsA z 178 x0 (Int32.toNatClampNeg ((76 : Int32) * x2)) x1) fun z3 => zk x2 2400 <| zl (zsA z3 179 x0 (Int32.toNatClampNeg x2) (1 : Int32)) fun z5 => some (x2, z5)) else (zk (((76 : Int32) * x2) + x3) 182400 <| zl (zsA z 178 x0 (Int32.toNatClampNeg (((76 : Int32) * x2) + x3)) (0 : Int32)) fun z7 => zl (x3 + 1) fun v8 => K22 x0 x1 x2 v8 z7)
def fX19_newAdvert_22 (N : Nat)  : Nat → Nat → Int32 → Int32 → Int32 → St → Option (Int32 × St)
  | 0 => fun _ _ _ _ _ => none
  | n + 1 => fX19_newAdvert_22b N (fX19_newAdvert_22 N  n)
set_option maxHeartbeats 4000000 in
set_option maxRecDepth 100000 in
theorem bX19_newAdvert_22 (hst : zSt B ids) (F : zFx p m c cX19_newAdvert 4 s args RX19 D cy B ids A) (hA : ∀ q : Nat, s.heap.size ≤ q → A q) {r : Int32} {z' : St} (E : zEnd p l e rmX19_newAdvert s m args below meth c cX19_newAdvert D cy B ids A Q (some (.int r)) z' .ireturn True) {N : Nat} {K22 : Nat → Int32 → Int32 → Int32 → St → Option (Int32 × St)} (hK22 : ∀ (x0 : Nat) (x1 : Int32) (x2 : Int32) (x3 : Int32) (hx0 : (19, x0) ∈ ids) {z : St} {H : Heap} {locs : List Loc} {ls : Array Slot} (hr : zRep D cy B ids A s.heap z H locs) (hl : lv_has ls 4 [(0, .ref (B 19 x0)), (1, .int x1), (2, .int x2), (3, .int x3)]), K22 x0 x1 x2 x3 z = some (r, z') → W p l e rmX19_newAdvert s m args below meth c H locs 0 0 Q (F0 m 22 ls [])) (x0 : Nat) (x1 : Int32) (x2 : Int32) (x3 : Int32) (hx0 : (19, x0) ∈ ids) {z : St} {H : Heap} {locs : List Loc} {ls : Array Slot} (hr : zRep D cy B ids A s.heap z H locs) (hl : lv_has ls 4 [(0, .ref (B 19 x0)), (1, .int x1), (2, .int x2), (3, .int x3)]) (h : fX19_newAdvert_22b N K22 x0 x1 x2 x3 z = some (r, z')) : W p l e rmX19_newAdvert s m args below meth c H locs 0 0 Q (F0 m 22 ls []) := by
  unfold fX19_newAdvert_22b at h
  refine lv_iload_n F.1 F.2.1 dX19_newAdvert_22 rfl (lv_at hl 3 rfl) ?_
  refine lv_bipush (v := (76 : Int32)) F.1 F.2.1 dX19_newAdvert_23 (by decide) ?_
  refine lv_icmp_ge (tgt := 46) F.1 F.2.1 dX19_newAdvert_25 (by decide) (fun c1 => ?_) (fun c1 => ?_)
  · replace h := zi_t c1 h
    refine lv_aload_n F.1 F.2.1 dX19_newAdvert_46 rfl (lv_at hl 0 rfl) ?_
    refine gf19_65 F hx0 hr dX19_newAdvert_47 ?_
    refine lv_bipush (v := (76 : Int32)) F.1 F.2.1 dX19_newAdvert_50 (by decide) ?_
    refine lv_iload_n F.1 F.2.1 dX19_newAdvert_52 rfl (lv_at hl 2 rfl) ?_
    refine lv_imul F.1 F.2.1 dX19_newAdvert_53 ?_
    refine lv_iload_n F.1 F.2.1 dX19_newAdvert_54 rfl (lv_at hl 1 rfl) ?_
    replace h := zk_some h
    obtain ⟨c2, h⟩ := h
    refine zr_iast (k := 178) (by decide) rfl (by decide) F (zal_a F hx0 (j := 8) rfl) hr dX19_newAdvert_55 c2 (fun H locs z3 ez3 hr => ?_)
    replace h := zl_sub ez3 h
    clear ez3
    refine lv_aload_n F.1 F.2.1 dX19_newAdvert_56 rfl (lv_at hl 0 rfl) ?_
    refine gf19_25 F hx0 hr dX19_newAdvert_57 ?_
    refine lv_iload_n F.1 F.2.1 dX19_newAdvert_60 rfl (lv_at hl 2 rfl) ?_
    refine lv_iconst (v := (1 : Int32)) F.1 F.2.1 dX19_newAdvert_61 (by decide) ?_
    replace h := zk_some h
    obtain ⟨c4, h⟩ := h
    refine zr_iast (k := 179) (by decide) rfl (by decide) F (zal_a F hx0 (j := 9) rfl) hr dX19_newAdvert_62 c4 (fun H locs z5 ez5 hr => ?_)
    replace h := zl_sub ez5 h
    clear ez5
    refine lv_iload_n F.1 F.2.1 dX19_newAdvert_63 rfl (lv_at hl 2 rfl) ?_
    obtain ⟨rfl, rfl⟩ := zret h
    exact E _ _ _ _ dX19_newAdvert_64 trivial hr
  · replace h := zi_f c1 h
    refine lv_aload_n F.1 F.2.1 dX19_newAdvert_28 rfl (lv_at hl 0 rfl) ?_
    refine gf19_65 F hx0 hr dX19_newAdvert_29 ?_
    refine lv_bipush (v := (76 : Int32)) F.1 F.2.1 dX19_newAdvert_32 (by decide) ?_
    refine lv_iload_n F.1 F.2.1 dX19_newAdvert_34 rfl (lv_at hl 2 rfl) ?_
    refine lv_imul F.1 F.2.1 dX19_newAdvert_35 ?_
    refine lv_iload_n F.1 F.2.1 dX19_newAdvert_36 rfl (lv_at hl 3 rfl) ?_
    refine lv_iadd F.1 F.2.1 dX19_newAdvert_37 ?_
    refine lv_iconst (v := (0 : Int32)) F.1 F.2.1 dX19_newAdvert_38 (by decide) ?_
    replace h := zk_some h
    obtain ⟨c6, h⟩ := h
    refine zr_iast (k := 178) (by decide) rfl (by decide) F (zal_a F hx0 (j := 8) rfl) hr dX19_newAdvert_39 c6 (fun H locs z7 ez7 hr => ?_)
    replace h := zl_sub ez7 h
    clear ez7
    obtain ⟨v8, ev8⟩ : ∃ y : Int32, y = (x3 + 1) := ⟨_, rfl⟩
    replace h := zl_sub ev8 h
    refine lv_iinc (v := v8) (lv' := [(3, .int v8), (0, .ref (B 19 x0)), (1, .int x1), (2, .int x2)]) F.1 F.2.1 dX19_newAdvert_40 hl (k := 3) rfl (by rw [ev8]; rfl) (by decide) rfl (fun ls hl => ?_)
    refine lv_goto (tgt := 22) F.1 F.2.1 dX19_newAdvert_43 (by decide) ?_
    exact hK22 x0 x1 x2 v8 hx0 hr (lv_sub hl [1, 2, 3, 0] rfl) h
theorem lX19_newAdvert_22 (hst : zSt B ids) (F : zFx p m c cX19_newAdvert 4 s args RX19 D cy B ids A) (hA : ∀ q : Nat, s.heap.size ≤ q → A q) {r : Int32} {z' : St} (E : zEnd p l e rmX19_newAdvert s m args below meth c cX19_newAdvert D cy B ids A Q (some (.int r)) z' .ireturn True) {N : Nat}  : ∀ (n : Nat) (x0 : Nat) (x1 : Int32) (x2 : Int32) (x3 : Int32) (hx0 : (19, x0) ∈ ids) {z : St} {H : Heap} {locs : List Loc} {ls : Array Slot} (hr : zRep D cy B ids A s.heap z H locs) (hl : lv_has ls 4 [(0, .ref (B 19 x0)), (1, .int x1), (2, .int x2), (3, .int x3)]), fX19_newAdvert_22 N  n x0 x1 x2 x3 z = some (r, z') → W p l e rmX19_newAdvert s m args below meth c H locs 0 0 Q (F0 m 22 ls []) := by
  intro n
  induction n with
  | zero => intro x0 x1 x2 x3 hx0 z H locs ls hr hl h; cases h
  | succ n ih => intro x0 x1 x2 x3 hx0 z H locs ls hr hl h; exact bX19_newAdvert_22 hst F hA E ih x0 x1 x2 x3 hx0 hr hl h
def fX19_newAdvert (N : Nat)  (x0 : Nat) (x1 : Int32) (z : St) : Option (Int32 × St) := zl (zsI z 19 11 x0 ((zgI z 19 11 x0) - (1 : Int32))) fun z1 => zk (zgI z1 19 11 x0) 2400 <| zl (zgA z1 180 x0 (Int32.toNatClampNeg (zgI z1 19 11 x0))) fun v3 => fX19_newAdvert_22 N N x0 x1 v3 (0 : Int32) z1
set_option maxHeartbeats 4000000 in
set_option maxRecDepth 100000 in
theorem bX19_newAdvert_0 (hst : zSt B ids) (F : zFx p m c cX19_newAdvert 4 s args RX19 D cy B ids A) (hA : ∀ q : Nat, s.heap.size ≤ q → A q) {r : Int32} {z' : St} (E : zEnd p l e rmX19_newAdvert s m args below meth c cX19_newAdvert D cy B ids A Q (some (.int r)) z' .ireturn True) {N : Nat}  (x0 : Nat) (x1 : Int32) (hx0 : (19, x0) ∈ ids) {z : St} {H : Heap} {locs : List Loc} {ls : Array Slot} (hr : zRep D cy B ids A s.heap z H locs) (hl : lv_has ls 4 [(0, .ref (B 19 x0)), (1, .int x1)]) (h : fX19_newAdvert N x0 x1 z = some (r, z')) : W p l e rmX19_newAdvert s m args below meth c H locs 0 0 Q (F0 m 0 ls []) := by
  unfold fX19_newAdvert at h
  refine lv_aload_n F.1 F.2.1 dX19_newAdvert_0 rfl (lv_at hl 0 rfl) ?_
  refine lv_dup F.1 F.2.1 dX19_newAdvert_1 rfl ?_
  refine gf19_68 F hx0 hr dX19_newAdvert_2 ?_
  refine lv_iconst (v := (1 : Int32)) F.1 F.2.1 dX19_newAdvert_5 (by decide) ?_
  refine lv_isub F.1 F.2.1 dX19_newAdvert_6 ?_
  refine pf19_68 F hx0 hr dX19_newAdvert_7 ((zgI z 19 11 x0) - (1 : Int32)) (fun H locs z1 ez1 hr => ?_)
  replace h := zl_sub ez1 h
  clear ez1
  refine lv_aload_n F.1 F.2.1 dX19_newAdvert_10 rfl (lv_at hl 0 rfl) ?_
  refine gf19_71 F hx0 hr dX19_newAdvert_11 ?_
  refine lv_aload_n F.1 F.2.1 dX19_newAdvert_14 rfl (lv_at hl 0 rfl) ?_
  refine gf19_68 F hx0 hr dX19_newAdvert_15 ?_
  replace h := zk_some h
  obtain ⟨c2, h⟩ := h
  refine zr_iald (k := 180) (by decide) rfl (by decide) F (zal_a F hx0 (j := 10) rfl) hr dX19_newAdvert_18 c2 ?_
  refine lv_topi (fun v3 ev3 => ?_)
  replace h := zl_sub ev3 h
  refine lv_istore_n (lv' := [(2, .int v3), (0, .ref (B 19 x0)), (1, .int x1)]) F.1 F.2.1 dX19_newAdvert_19 rfl hl (by decide) rfl (fun ls hl => ?_)
  refine lv_iconst (v := (0 : Int32)) F.1 F.2.1 dX19_newAdvert_20 (by decide) ?_
  refine lv_istore_n (lv' := [(3, .int (0 : Int32)), (2, .int v3), (0, .ref (B 19 x0)), (1, .int x1)]) F.1 F.2.1 dX19_newAdvert_21 rfl hl (by decide) rfl (fun ls hl => ?_)
  exact lX19_newAdvert_22 hst F hA E  _ x0 x1 v3 (0 : Int32) hx0 hr (lv_sub hl [2, 3, 1, 0] rfl) h
end SX19_newAdvert
set_option maxRecDepth 100000 in
theorem okX19_newAdvert (l : Launch) (D : va_G) (cy : Nat → ClassId) (B : Nat → Nat → Nat) (ids : List (Nat × Nat)) (hst : zSt B ids) (N : Nat) (x0 : Nat) (hx0 : (19, x0) ∈ ids) (x1 : Int32) {z : St} {r : Int32} {z' : St} (hW : zWf ids z) (h : fX19_newAdvert N x0 x1 z = some (r, z')) : zM l yX19_newAdvert (zws yX19_newAdvert cX19_newAdvert 4 (some .int)) rmX19_newAdvert D cy B ids [.ref (B 19 x0), .int x1] (some (.int r)) True z z' :=
  zM_of hst hW (by decide +kernel) (Nat.le_of_ble_eq_true rfl) (fun p e s m args below meth c A ls F hA hret hlocks hr hl => bX19_newAdvert_0 hst F hA (zEnd_i F hret hlocks) x0 x1 hx0 hr hl h)
abbrev rmX19_netRow : Room := { frames := 0, cells := 0, slots := 0, locals := 0 }
theorem hdX19_netRow : yX19_netRow.cls ≠ "java/lang/invoke/MethodHandle" ∧ yX19_netRow.cls ≠ "java/lang/invoke/VarHandle" ∧ (parseMethodDescriptor yX19_netRow.desc).map (fun d => d.parameters.length) = some 3 := by decide +kernel
section SX19_netRow
variable {p : Program} {l : Launch} {e : Env} {s : State} {m : MethodId} {args : Array Value} {below : List Frame} {meth : Method} {c : Code} {Q : State → Prop} {D : va_G} {cy : Nat → ClassId} {B : Nat → Nat → Nat} {ids : List (Nat × Nat)} {A : Nat → Prop}
def fX19_netRow (N : Nat)  (x0 : Nat) (x1 : Int32) (x2 : Int32) (x3 : Int32) (z : St) : Option (Int32 × St) := zk (((((76 : Int32) * x1) + (4 : Int32)) + ((3 : Int32) * x2)) + x3) 182400 <| some ((zgA z 178 x0 (Int32.toNatClampNeg (((((76 : Int32) * x1) + (4 : Int32)) + ((3 : Int32) * x2)) + x3))), z)
set_option maxHeartbeats 4000000 in
set_option maxRecDepth 100000 in
theorem bX19_netRow_0 (hst : zSt B ids) (F : zFx p m c cX19_netRow 4 s args RX19 D cy B ids A) (hA : ∀ q : Nat, s.heap.size ≤ q → A q) {r : Int32} {z' : St} (E : zEnd p l e rmX19_netRow s m args below meth c cX19_netRow D cy B ids A Q (some (.int r)) z' .ireturn True) {N : Nat}  (x0 : Nat) (x1 : Int32) (x2 : Int32) (x3 : Int32) (hx0 : (19, x0) ∈ ids) {z : St} {H : Heap} {locs : List Loc} {ls : Array Slot} (hr : zRep D cy B ids A s.heap z H locs) (hl : lv_has ls 4 [(0, .ref (B 19 x0)), (1, .int x1), (2, .int x2), (3, .int x3)]) (h : fX19_netRow N x0 x1 x2 x3 z = some (r, z')) : W p l e rmX19_netRow s m args below meth c H locs 0 0 Q (F0 m 0 ls []) := by
  unfold fX19_netRow at h
  refine lv_aload_n F.1 F.2.1 dX19_netRow_0 rfl (lv_at hl 0 rfl) ?_
  refine gf19_65 F hx0 hr dX19_netRow_1 ?_
  refine lv_bipush (v := (76 : Int32)) F.1 F.2.1 dX19_netRow_4 (by decide) ?_
  refine lv_iload_n F.1 F.2.1 dX19_netRow_6 rfl (lv_at hl 1 rfl) ?_
  refine lv_imul F.1 F.2.1 dX19_netRow_7 ?_
  refine lv_iconst (v := (4 : Int32)) F.1 F.2.1 dX19_netRow_8 (by decide) ?_
  refine lv_iadd F.1 F.2.1 dX19_netRow_9 ?_
  refine lv_iconst (v := (3 : Int32)) F.1 F.2.1 dX19_netRow_10 (by decide) ?_
  refine lv_iload_n F.1 F.2.1 dX19_netRow_11 rfl (lv_at hl 2 rfl) ?_
  refine lv_imul F.1 F.2.1 dX19_netRow_12 ?_
  refine lv_iadd F.1 F.2.1 dX19_netRow_13 ?_
  refine lv_iload_n F.1 F.2.1 dX19_netRow_14 rfl (lv_at hl 3 rfl) ?_
  refine lv_iadd F.1 F.2.1 dX19_netRow_15 ?_
  replace h := zk_some h
  obtain ⟨c1, h⟩ := h
  refine zr_iald (k := 178) (by decide) rfl (by decide) F (zal_a F hx0 (j := 8) rfl) hr dX19_netRow_16 c1 ?_
  obtain ⟨rfl, rfl⟩ := zret h
  exact E _ _ _ _ dX19_netRow_17 trivial hr
end SX19_netRow
set_option maxRecDepth 100000 in
theorem okX19_netRow (l : Launch) (D : va_G) (cy : Nat → ClassId) (B : Nat → Nat → Nat) (ids : List (Nat × Nat)) (hst : zSt B ids) (N : Nat) (x0 : Nat) (hx0 : (19, x0) ∈ ids) (x1 : Int32) (x2 : Int32) (x3 : Int32) {z : St} {r : Int32} {z' : St} (hW : zWf ids z) (h : fX19_netRow N x0 x1 x2 x3 z = some (r, z')) : zM l yX19_netRow (zws yX19_netRow cX19_netRow 4 (some .int)) rmX19_netRow D cy B ids [.ref (B 19 x0), .int x1, .int x2, .int x3] (some (.int r)) True z z' :=
  zM_of hst hW (by decide +kernel) (Nat.le_of_ble_eq_true rfl) (fun p e s m args below meth c A ls F hA hret hlocks hr hl => bX19_netRow_0 hst F hA (zEnd_i F hret hlocks) x0 x1 x2 x3 hx0 hr hl h)
abbrev rmX19_friendRow : Room := { frames := 1, cells := 0, slots := 0, locals := 23 }
theorem hdX19_friendRow : yX19_friendRow.cls ≠ "java/lang/invoke/MethodHandle" ∧ yX19_friendRow.cls ≠ "java/lang/invoke/VarHandle" ∧ (parseMethodDescriptor yX19_friendRow.desc).map (fun d => d.parameters.length) = some 3 := by decide +kernel
theorem hroX19_friendRow_X19_ad : rmX19_ad.frames + 1 ≤ rmX19_friendRow.frames ∧ 8 + (3 + 11) + rmX19_ad.locals ≤ rmX19_friendRow.locals := by decide
theorem hroX19_friendRow_X19_netRow : rmX19_netRow.frames + 1 ≤ rmX19_friendRow.frames ∧ 8 + (4 + 11) + rmX19_netRow.locals ≤ rmX19_friendRow.locals := by decide
section SX19_friendRow
variable {p : Program} {l : Launch} {e : Env} {s : State} {m : MethodId} {args : Array Value} {below : List Frame} {meth : Method} {c : Code} {Q : State → Prop} {D : va_G} {cy : Nat → ClassId} {B : Nat → Nat → Nat} {ids : List (Nat × Nat)} {A : Nat → Prop}
def fX19_friendRow (N : Nat)  (x0 : Nat) (x1 : Int32) (x2 : Int32) (x3 : Int32) (z : St) : Option (Int32 × St) := zc (fX19_ad N x0 x1 (2 : Int32) z) fun r1 z2 => zc (fX19_netRow N x0 x1 (r1 + x2) x3 z2) fun r5 z6 => some (r5, z6)
set_option maxHeartbeats 4000000 in
set_option maxRecDepth 100000 in
theorem bX19_friendRow_0 (hst : zSt B ids) (F : zFx p m c cX19_friendRow 4 s args RX19 D cy B ids A) (hA : ∀ q : Nat, s.heap.size ≤ q → A q) {r : Int32} {z' : St} (E : zEnd p l e rmX19_friendRow s m args below meth c cX19_friendRow D cy B ids A Q (some (.int r)) z' .ireturn True) {N : Nat}  (x0 : Nat) (x1 : Int32) (x2 : Int32) (x3 : Int32) (hx0 : (19, x0) ∈ ids) {z : St} {H : Heap} {locs : List Loc} {ls : Array Slot} (hr : zRep D cy B ids A s.heap z H locs) (hl : lv_has ls 4 [(0, .ref (B 19 x0)), (1, .int x1), (2, .int x2), (3, .int x3)]) (h : fX19_friendRow N x0 x1 x2 x3 z = some (r, z')) : W p l e rmX19_friendRow s m args below meth c H locs 0 0 Q (F0 m 0 ls []) := by
  unfold fX19_friendRow at h
  refine lv_aload_n F.1 F.2.1 dX19_friendRow_0 rfl (lv_at hl 0 rfl) ?_
  refine lv_iload_n F.1 F.2.1 dX19_friendRow_1 rfl (lv_at hl 1 rfl) ?_
  refine lv_aload_n F.1 F.2.1 dX19_friendRow_2 rfl (lv_at hl 0 rfl) ?_
  refine lv_iload_n F.1 F.2.1 dX19_friendRow_3 rfl (lv_at hl 1 rfl) ?_
  refine lv_iconst (v := (2 : Int32)) F.1 F.2.1 dX19_friendRow_4 (by decide) ?_
  replace h := zc_some h
  obtain ⟨r1, z2, hc3, h⟩ := h
  refine zr_calli (zrun_V (As := [.int x1, .int (2 : Int32)]) (rest := [.int x1, .ref (B 19 x0)]) zq_2828 zq_2830 zs_X19_ad zq_2831 zq_4 hdX19_ad (by decide) (T := TX19) (N := 32) rfl (okX19_ad l D cy B ids hst N x0 hx0 x1  (2 : Int32)  hr.2.2 hc3) F hr hx0 hl.1 rfl (Nat.le_of_ble_eq_true rfl) dX19_friendRow_5 rfl rfl hroX19_friendRow_X19_ad ⟨Nat.zero_le _, Nat.zero_le _⟩) F hA hr (fun H locs hw4 hr => ?_)
  clear hc3
  refine lv_iload_n F.1 F.2.1 dX19_friendRow_8 rfl (lv_at hl 2 rfl) ?_
  refine lv_iadd F.1 F.2.1 dX19_friendRow_9 ?_
  refine lv_iload_n F.1 F.2.1 dX19_friendRow_10 rfl (lv_at hl 3 rfl) ?_
  replace h := zc_some h
  obtain ⟨r5, z6, hc7, h⟩ := h
  refine zr_calli (zrun_V (As := [.int x1, .int (r1 + x2), .int x3]) (rest := []) zq_2908 zq_2910 zs_X19_netRow zq_2911 zq_4 hdX19_netRow (by decide) (T := TX19) (N := 32) rfl (okX19_netRow l D cy B ids hst N x0 hx0 x1  (r1 + x2)  x3  hr.2.2 hc7) F hr hx0 hl.1 rfl (by decide) dX19_friendRow_11 rfl rfl hroX19_friendRow_X19_netRow ⟨Nat.zero_le _, Nat.zero_le _⟩) F hA hr (fun H locs hw8 hr => ?_)
  clear hc7
  obtain ⟨rfl, rfl⟩ := zret h
  exact E _ _ _ _ dX19_friendRow_14 trivial hr
end SX19_friendRow
set_option maxRecDepth 100000 in
theorem okX19_friendRow (l : Launch) (D : va_G) (cy : Nat → ClassId) (B : Nat → Nat → Nat) (ids : List (Nat × Nat)) (hst : zSt B ids) (N : Nat) (x0 : Nat) (hx0 : (19, x0) ∈ ids) (x1 : Int32) (x2 : Int32) (x3 : Int32) {z : St} {r : Int32} {z' : St} (hW : zWf ids z) (h : fX19_friendRow N x0 x1 x2 x3 z = some (r, z')) : zM l yX19_friendRow (zws yX19_friendRow cX19_friendRow 4 (some .int)) rmX19_friendRow D cy B ids [.ref (B 19 x0), .int x1, .int x2, .int x3] (some (.int r)) True z z' :=
  zM_of hst hW (by decide +kernel) (Nat.le_of_ble_eq_true rfl) (fun p e s m args below meth c A ls F hA hret hlocks hr hl => bX19_friendRow_0 hst F hA (zEnd_i F hret hlocks) x0 x1 x2 x3 hx0 hr hl h)
abbrev rmX19_tellAlike : Room := { frames := 1, cells := 0, slots := 0, locals := 22 }
theorem hdX19_tellAlike : yX19_tellAlike.cls ≠ "java/lang/invoke/MethodHandle" ∧ yX19_tellAlike.cls ≠ "java/lang/invoke/VarHandle" ∧ (parseMethodDescriptor yX19_tellAlike.desc).map (fun d => d.parameters.length) = some 2 := by decide +kernel
theorem hroX19_tellAlike_X19_ad : rmX19_ad.frames + 1 ≤ rmX19_tellAlike.frames ∧ 8 + (3 + 11) + rmX19_ad.locals ≤ rmX19_tellAlike.locals := by decide
section SX19_tellAlike
variable {p : Program} {l : Launch} {e : Env} {s : State} {m : MethodId} {args : Array Value} {below : List Frame} {meth : Method} {c : Code} {Q : State → Prop} {D : va_G} {cy : Nat → ClassId} {B : Nat → Nat → Nat} {ids : List (Nat × Nat)} {A : Nat → Prop}
def fX19_tellAlike_82 (N : Nat) (K39 : Nat → Int32 → Int32 → Int32 → Int32 → St → Option (Int32 × St)) (x0 : Nat) (x1 : Int32) (x2 : Int32) (x4 : Int32) (s0 : Int32) (z : St) : Option (Int32 × St) := zl (x4 + 1) fun v1 => K39 x0 x1 x2 s0 v1 z
set_option maxHeartbeats 4000000 in
set_option maxRecDepth 100000 in
theorem bX19_tellAlike_82 (hst : zSt B ids) (F : zFx p m c cX19_tellAlike 5 s args RX19 D cy B ids A) (hA : ∀ q : Nat, s.heap.size ≤ q → A q) {r : Int32} {z' : St} (E : zEnd p l e rmX19_tellAlike s m args below meth c cX19_tellAlike D cy B ids A Q (some (.int r)) z' .ireturn (r = 0 ∨ r = 1)) {N : Nat} {K39 : Nat → Int32 → Int32 → Int32 → Int32 → St → Option (Int32 × St)} (hK39 : ∀ (x0 : Nat) (x1 : Int32) (x2 : Int32) (x3 : Int32) (x4 : Int32) (hx0 : (19, x0) ∈ ids) {z : St} {H : Heap} {locs : List Loc} {ls : Array Slot} (hr : zRep D cy B ids A s.heap z H locs) (hl : lv_has ls 5 [(0, .ref (B 19 x0)), (1, .int x1), (2, .int x2), (3, .int x3), (4, .int x4)]), K39 x0 x1 x2 x3 x4 z = some (r, z') → W p l e rmX19_tellAlike s m args below meth c H locs 0 0 Q (F0 m 39 ls [])) (x0 : Nat) (x1 : Int32) (x2 : Int32) (x4 : Int32) (s0 : Int32) (hx0 : (19, x0) ∈ ids) {z : St} {H : Heap} {locs : List Loc} {ls : Array Slot} (hr : zRep D cy B ids A s.heap z H locs) (hl : lv_has ls 5 [(0, .ref (B 19 x0)), (1, .int x1), (2, .int x2), (4, .int x4)]) (h : fX19_tellAlike_82 N K39 x0 x1 x2 x4 s0 z = some (r, z')) : W p l e rmX19_tellAlike s m args below meth c H locs 0 0 Q (F0 m 82 ls [.int s0]) := by
  unfold fX19_tellAlike_82 at h
  refine lv_istore_n (lv' := [(3, .int s0), (0, .ref (B 19 x0)), (1, .int x1), (2, .int x2), (4, .int x4)]) F.1 F.2.1 dX19_tellAlike_82 rfl hl (by decide) rfl (fun ls hl => ?_)
  obtain ⟨v1, ev1⟩ : ∃ y : Int32, y = (x4 + 1) := ⟨_, rfl⟩
  replace h := zl_sub ev1 h
  refine lv_iinc (v := v1) (lv' := [(4, .int v1), (3, .int s0), (0, .ref (B 19 x0)), (1, .int x1), (2, .int x2)]) F.1 F.2.1 dX19_tellAlike_83 hl (k := 4) rfl (by rw [ev1]; rfl) (by decide) rfl (fun ls hl => ?_)
  refine lv_goto (tgt := 39) F.1 F.2.1 dX19_tellAlike_86 (by decide) ?_
  exact hK39 x0 x1 x2 s0 v1 hx0 hr (lv_sub hl [2, 3, 4, 1, 0] rfl) h
def fX19_tellAlike_39b (N : Nat) (K39 : Nat → Int32 → Int32 → Int32 → Int32 → St → Option (Int32 × St)) (x0 : Nat) (x1 : Int32) (x2 : Int32) (x3 : Int32) (x4 : Int32) (z : St) : Option (Int32 × St) := if (76 : Int32) ≤ x4 then (zq (x3 = 0 ∨ x3 = 1) <| some (x3, z)) else (if x3 = 0 then (zq (x3 = 0 ∨ x3 = 1) <| some (x3, z)) else (zk (((76 : Int32) * x1) + x4) 182400 <| zk (((76 : Int32) * x2) + x4) 182400 <| if ¬ (zgA z 178 x0 (Int32.toNatClampNeg (((76 : Int32) * x1) + x4))) = (zgA z 178 x0 (Int32.toNatClampNeg (((76 : Int32) * x2) + x4))) then (fX19_tellAlike_82 N K39 x0 x1 x2 x4 (0 : Int32) z) else (fX19_tellAlike_82 N K39 x0 x1 x2 x4 (1 : Int32) z)))
def fX19_tellAlike_39 (N : Nat)  : Nat → Nat → Int32 → Int32 → Int32 → Int32 → St → Option (Int32 × St)
  | 0 => fun _ _ _ _ _ _ => none
  | n + 1 => fX19_tellAlike_39b N (fX19_tellAlike_39 N  n)
set_option maxHeartbeats 4000000 in
set_option maxRecDepth 100000 in
theorem bX19_tellAlike_39 (hst : zSt B ids) (F : zFx p m c cX19_tellAlike 5 s args RX19 D cy B ids A) (hA : ∀ q : Nat, s.heap.size ≤ q → A q) {r : Int32} {z' : St} (E : zEnd p l e rmX19_tellAlike s m args below meth c cX19_tellAlike D cy B ids A Q (some (.int r)) z' .ireturn (r = 0 ∨ r = 1)) {N : Nat} {K39 : Nat → Int32 → Int32 → Int32 → Int32 → St → Option (Int32 × St)} (hK39 : ∀ (x0 : Nat) (x1 : Int32) (x2 : Int32) (x3 : Int32) (x4 : Int32) (hx0 : (19, x0) ∈ ids) {z : St} {H : Heap} {locs : List Loc} {ls : Array Slot} (hr : zRep D cy B ids A s.heap z H locs) (hl : lv_has ls 5 [(0, .ref (B 19 x0)), (1, .int x1), (2, .int x2), (3, .int x3), (4, .int x4)]), K39 x0 x1 x2 x3 x4 z = some (r, z') → W p l e rmX19_tellAlike s m args below meth c H locs 0 0 Q (F0 m 39 ls [])) (x0 : Nat) (x1 : Int32) (x2 : Int32) (x3 : Int32) (x4 : Int32) (hx0 : (19, x0) ∈ ids) {z : St} {H : Heap} {locs : List Loc} {ls : Array Slot} (hr : zRep D cy B ids A s.heap z H locs) (hl : lv_has ls 5 [(0, .ref (B 19 x0)), (1, .int x1), (2, .int x2), (3, .int x3), (4, .int x4)]) (h : fX19_tellAlike_39b N K39 x0 x1 x2 x3 x4 z = some (r, z')) : W p l e rmX19_tellAlike s m args below meth c H locs 0 0 Q (F0 m 39 ls []) := by
  unfold fX19_tellAlike_39b at h
  refine lv_iload F.1 F.2.1 dX19_tellAlike_39 (lv_at hl 4 rfl) ?_
  refine lv_bipush (v := (76 : Int32)) F.1 F.2.1 dX19_tellAlike_41 (by decide) ?_
  refine lv_icmp_ge (tgt := 89) F.1 F.2.1 dX19_tellAlike_43 (by decide) (fun c1 => ?_) (fun c1 => ?_)
  · replace h := zi_t c1 h
    refine lv_iload_n F.1 F.2.1 dX19_tellAlike_89 rfl (lv_at hl 3 rfl) ?_
    replace h := zq_some h
    obtain ⟨c2, h⟩ := h
    obtain ⟨rfl, rfl⟩ := zret h
    exact E _ _ _ _ dX19_tellAlike_90 c2 hr
  · replace h := zi_f c1 h
    refine lv_iload_n F.1 F.2.1 dX19_tellAlike_46 rfl (lv_at hl 3 rfl) ?_
    refine lv_if_eq (tgt := 89) F.1 F.2.1 dX19_tellAlike_47 (by decide) (fun c3 => ?_) (fun c3 => ?_)
    · replace h := zi_t c3 h
      refine lv_iload_n F.1 F.2.1 dX19_tellAlike_89 rfl (lv_at hl 3 rfl) ?_
      replace h := zq_some h
      obtain ⟨c4, h⟩ := h
      obtain ⟨rfl, rfl⟩ := zret h
      exact E _ _ _ _ dX19_tellAlike_90 c4 hr
    · replace h := zi_f c3 h
      refine lv_aload_n F.1 F.2.1 dX19_tellAlike_50 rfl (lv_at hl 0 rfl) ?_
      refine gf19_65 F hx0 hr dX19_tellAlike_51 ?_
      refine lv_bipush (v := (76 : Int32)) F.1 F.2.1 dX19_tellAlike_54 (by decide) ?_
      refine lv_iload_n F.1 F.2.1 dX19_tellAlike_56 rfl (lv_at hl 1 rfl) ?_
      refine lv_imul F.1 F.2.1 dX19_tellAlike_57 ?_
      refine lv_iload F.1 F.2.1 dX19_tellAlike_58 (lv_at hl 4 rfl) ?_
      refine lv_iadd F.1 F.2.1 dX19_tellAlike_60 ?_
      replace h := zk_some h
      obtain ⟨c5, h⟩ := h
      refine zr_iald (k := 178) (by decide) rfl (by decide) F (zal_a F hx0 (j := 8) rfl) hr dX19_tellAlike_61 c5 ?_
      refine lv_aload_n F.1 F.2.1 dX19_tellAlike_62 rfl (lv_at hl 0 rfl) ?_
      refine gf19_65 F hx0 hr dX19_tellAlike_63 ?_
      refine lv_bipush (v := (76 : Int32)) F.1 F.2.1 dX19_tellAlike_66 (by decide) ?_
      refine lv_iload_n F.1 F.2.1 dX19_tellAlike_68 rfl (lv_at hl 2 rfl) ?_
      refine lv_imul F.1 F.2.1 dX19_tellAlike_69 ?_
      refine lv_iload F.1 F.2.1 dX19_tellAlike_70 (lv_at hl 4 rfl) ?_
      refine lv_iadd F.1 F.2.1 dX19_tellAlike_72 ?_
      replace h := zk_some h
      obtain ⟨c6, h⟩ := h
      refine zr_iald (k := 178) (by decide) rfl (by decide) F (zal_a F hx0 (j := 8) rfl) hr dX19_tellAlike_73 c6 ?_
      refine lv_icmp_ne (tgt := 81) F.1 F.2.1 dX19_tellAlike_74 (by decide) (fun c7 => ?_) (fun c7 => ?_)
      · replace h := zi_t c7 h
        refine lv_iconst (v := (0 : Int32)) F.1 F.2.1 dX19_tellAlike_81 (by decide) ?_
        exact bX19_tellAlike_82 hst F hA E hK39 x0 x1 x2 x4 (0 : Int32) hx0 hr (lv_sub hl [0, 1, 2, 4] rfl) h
      · replace h := zi_f (fun q => q c7) h
        refine lv_iconst (v := (1 : Int32)) F.1 F.2.1 dX19_tellAlike_77 (by decide) ?_
        refine lv_goto (tgt := 82) F.1 F.2.1 dX19_tellAlike_78 (by decide) ?_
        exact bX19_tellAlike_82 hst F hA E hK39 x0 x1 x2 x4 (1 : Int32) hx0 hr (lv_sub hl [0, 1, 2, 4] rfl) h
theorem lX19_tellAlike_39 (hst : zSt B ids) (F : zFx p m c cX19_tellAlike 5 s args RX19 D cy B ids A) (hA : ∀ q : Nat, s.heap.size ≤ q → A q) {r : Int32} {z' : St} (E : zEnd p l e rmX19_tellAlike s m args below meth c cX19_tellAlike D cy B ids A Q (some (.int r)) z' .ireturn (r = 0 ∨ r = 1)) {N : Nat}  : ∀ (n : Nat) (x0 : Nat) (x1 : Int32) (x2 : Int32) (x3 : Int32) (x4 : Int32) (hx0 : (19, x0) ∈ ids) {z : St} {H : Heap} {locs : List Loc} {ls : Array Slot} (hr : zRep D cy B ids A s.heap z H locs) (hl : lv_has ls 5 [(0, .ref (B 19 x0)), (1, .int x1), (2, .int x2), (3, .int x3), (4, .int x4)]), fX19_tellAlike_39 N  n x0 x1 x2 x3 x4 z = some (r, z') → W p l e rmX19_tellAlike s m args below meth c H locs 0 0 Q (F0 m 39 ls []) := by
  intro n
  induction n with
  | zero => intro x0 x1 x2 x3 x4 hx0 z H locs ls hr hl h; cases h
  | succ n ih => intro x0 x1 x2 x3 x4 hx0 z H locs ls hr hl h; exact bX19_tellAlike_39 hst F hA E ih x0 x1 x2 x3 x4 hx0 hr hl h
def fX19_tellAlike_35 (N : Nat)  (x0 : Nat) (x1 : Int32) (x2 : Int32) (s0 : Int32) (z : St) : Option (Int32 × St) := fX19_tellAlike_39 N N x0 x1 x2 s0 (4 : Int32) z
set_option maxHeartbeats 4000000 in
set_option maxRecDepth 100000 in
theorem bX19_tellAlike_35 (hst : zSt B ids) (F : zFx p m c cX19_tellAlike 5 s args RX19 D cy B ids A) (hA : ∀ q : Nat, s.heap.size ≤ q → A q) {r : Int32} {z' : St} (E : zEnd p l e rmX19_tellAlike s m args below meth c cX19_tellAlike D cy B ids A Q (some (.int r)) z' .ireturn (r = 0 ∨ r = 1)) {N : Nat}  (x0 : Nat) (x1 : Int32) (x2 : Int32) (s0 : Int32) (hx0 : (19, x0) ∈ ids) {z : St} {H : Heap} {locs : List Loc} {ls : Array Slot} (hr : zRep D cy B ids A s.heap z H locs) (hl : lv_has ls 5 [(0, .ref (B 19 x0)), (1, .int x1), (2, .int x2)]) (h : fX19_tellAlike_35 N x0 x1 x2 s0 z = some (r, z')) : W p l e rmX19_tellAlike s m args below meth c H locs 0 0 Q (F0 m 35 ls [.int s0]) := by
  unfold fX19_tellAlike_35 at h
  refine lv_istore_n (lv' := [(3, .int s0), (0, .ref (B 19 x0)), (1, .int x1), (2, .int x2)]) F.1 F.2.1 dX19_tellAlike_35 rfl hl (by decide) rfl (fun ls hl => ?_)
  refine lv_iconst (v := (4 : Int32)) F.1 F.2.1 dX19_tellAlike_36 (by decide) ?_
  refine lv_istore (lv' := [(4, .int (4 : Int32)), (3, .int s0), (0, .ref (B 19 x0)), (1, .int x1), (2, .int x2)]) F.1 F.2.1 dX19_tellAlike_37 hl (by decide) rfl (fun ls hl => ?_)
  exact lX19_tellAlike_39 hst F hA E  _ x0 x1 x2 s0 (4 : Int32) hx0 hr (lv_sub hl [2, 3, 4, 1, 0] rfl) h
def fX19_tellAlike_34 (N : Nat)  (x0 : Nat) (x1 : Int32) (x2 : Int32) (z : St) : Option (Int32 × St) := fX19_tellAlike_35 N x0 x1 x2 (0 : Int32) z
set_option maxHeartbeats 4000000 in
set_option maxRecDepth 100000 in
theorem bX19_tellAlike_34 (hst : zSt B ids) (F : zFx p m c cX19_tellAlike 5 s args RX19 D cy B ids A) (hA : ∀ q : Nat, s.heap.size ≤ q → A q) {r : Int32} {z' : St} (E : zEnd p l e rmX19_tellAlike s m args below meth c cX19_tellAlike D cy B ids A Q (some (.int r)) z' .ireturn (r = 0 ∨ r = 1)) {N : Nat}  (x0 : Nat) (x1 : Int32) (x2 : Int32) (hx0 : (19, x0) ∈ ids) {z : St} {H : Heap} {locs : List Loc} {ls : Array Slot} (hr : zRep D cy B ids A s.heap z H locs) (hl : lv_has ls 5 [(0, .ref (B 19 x0)), (1, .int x1), (2, .int x2)]) (h : fX19_tellAlike_34 N x0 x1 x2 z = some (r, z')) : W p l e rmX19_tellAlike s m args below meth c H locs 0 0 Q (F0 m 34 ls []) := by
  unfold fX19_tellAlike_34 at h
  refine lv_iconst (v := (0 : Int32)) F.1 F.2.1 dX19_tellAlike_34 (by decide) ?_
  exact bX19_tellAlike_35 hst F hA E  x0 x1 x2 (0 : Int32) hx0 hr (lv_sub hl [0, 1, 2] rfl) h
def fX19_tellAlike (N : Nat)  (x0 : Nat) (x1 : Int32) (x2 : Int32) (z : St) : Option (Int32 × St) := zc (fX19_ad N x0 x1 (2 : Int32) z) fun r1 z2 => zc (fX19_ad N x0 x2 (2 : Int32) z2) fun r5 z6 => if ¬ r1 = r5 then (fX19_tellAlike_34 N x0 x1 x2 z6) else (zc (fX19_ad N x0 x1 (3 : Int32) z6) fun r10 z11 => zc (fX19_ad N x0 x2 (3 : Int32) z11) fun r14 z15 => if ¬ r10 = r14 then (fX19_tellAlike_34 N x0 x1 x2 z15) else (fX19_tellAlike_35 N x0 x1 x2 (1 : Int32) z15))
set_option maxHeartbeats 4000000 in
set_option maxRecDepth 100000 in
theorem bX19_tellAlike_0 (hst : zSt B ids) (F : zFx p m c cX19_tellAlike 5 s args RX19 D cy B ids A) (hA : ∀ q : Nat, s.heap.size ≤ q → A q) {r : Int32} {z' : St} (E : zEnd p l e rmX19_tellAlike s m args below meth c cX19_tellAlike D cy B ids A Q (some (.int r)) z' .ireturn (r = 0 ∨ r = 1)) {N : Nat}  (x0 : Nat) (x1 : Int32) (x2 : Int32) (hx0 : (19, x0) ∈ ids) {z : St} {H : Heap} {locs : List Loc} {ls : Array Slot} (hr : zRep D cy B ids A s.heap z H locs) (hl : lv_has ls 5 [(0, .ref (B 19 x0)), (1, .int x1), (2, .int x2)]) (h : fX19_tellAlike N x0 x1 x2 z = some (r, z')) : W p l e rmX19_tellAlike s m args below meth c H locs 0 0 Q (F0 m 0 ls []) := by
  unfold fX19_tellAlike at h
  refine lv_aload_n F.1 F.2.1 dX19_tellAlike_0 rfl (lv_at hl 0 rfl) ?_
  refine lv_iload_n F.1 F.2.1 dX19_tellAlike_1 rfl (lv_at hl 1 rfl) ?_
  refine lv_iconst (v := (2 : Int32)) F.1 F.2.1 dX19_tellAlike_2 (by decide) ?_
  replace h := zc_some h
  obtain ⟨r1, z2, hc3, h⟩ := h
  refine zr_calli (zrun_V (As := [.int x1, .int (2 : Int32)]) (rest := []) zq_2828 zq_2830 zs_X19_ad zq_2831 zq_4 hdX19_ad (by decide) (T := TX19) (N := 32) rfl (okX19_ad l D cy B ids hst N x0 hx0 x1  (2 : Int32)  hr.2.2 hc3) F hr hx0 hl.1 rfl (by decide) dX19_tellAlike_3 rfl rfl hroX19_tellAlike_X19_ad ⟨Nat.zero_le _, Nat.zero_le _⟩) F hA hr (fun H locs hw4 hr => ?_)
  clear hc3
  refine lv_aload_n F.1 F.2.1 dX19_tellAlike_6 rfl (lv_at hl 0 rfl) ?_
  refine lv_iload_n F.1 F.2.1 dX19_tellAlike_7 rfl (lv_at hl 2 rfl) ?_
  refine lv_iconst (v := (2 : Int32)) F.1 F.2.1 dX19_tellAlike_8 (by decide) ?_
  replace h := zc_some h
  obtain ⟨r5, z6, hc7, h⟩ := h
  refine zr_calli (zrun_V (As := [.int x2, .int (2 : Int32)]) (rest := [.int r1]) zq_2828 zq_2830 zs_X19_ad zq_2831 zq_4 hdX19_ad (by decide) (T := TX19) (N := 32) rfl (okX19_ad l D cy B ids hst N x0 hx0 x2  (2 : Int32)  hr.2.2 hc7) F hr hx0 hl.1 rfl (Nat.le_of_ble_eq_true rfl) dX19_tellAlike_9 rfl rfl hroX19_tellAlike_X19_ad ⟨Nat.zero_le _, Nat.zero_le _⟩) F hA hr (fun H locs hw8 hr => ?_)
  clear hc7
  refine lv_icmp_ne (tgt := 34) F.1 F.2.1 dX19_tellAlike_12 (by decide) (fun c9 => ?_) (fun c9 => ?_)
  · replace h := zi_t c9 h
    exact bX19_tellAlike_34 hst F hA E  x0 x1 x2 hx0 hr (lv_sub hl [0, 1, 2] rfl) h
  · replace h := zi_f (fun q => q c9) h
    refine lv_aload_n F.1 F.2.1 dX19_tellAlike_15 rfl (lv_at hl 0 rfl) ?_
    refine lv_iload_n F.1 F.2.1 dX19_tellAlike_16 rfl (lv_at hl 1 rfl) ?_
    refine lv_iconst (v := (3 : Int32)) F.1 F.2.1 dX19_tellAlike_17 (by decide) ?_
    replace h := zc_some h
    obtain ⟨r10, z11, hc12, h⟩ := h
    refine zr_calli (zrun_V (As := [.int x1, .int (3 : Int32)]) (rest := []) zq_2828 zq_2830 zs_X19_ad zq_2831 zq_4 hdX19_ad (by decide) (T := TX19) (N := 32) rfl (okX19_ad l D cy B ids hst N x0 hx0 x1  (3 : Int32)  hr.2.2 hc12) F hr hx0 hl.1 rfl (by decide) dX19_tellAlike_18 rfl rfl hroX19_tellAlike_X19_ad ⟨Nat.zero_le _, Nat.zero_le _⟩) F hA hr (fun H locs hw13 hr => ?_)
    clear hc12
    refine lv_aload_n F.1 F.2.1 dX19_tellAlike_21 rfl (lv_at hl 0 rfl) ?_
    refine lv_iload_n F.1 F.2.1 dX19_tellAlike_22 rfl (lv_at hl 2 rfl) ?_
    refine lv_iconst (v := (3 : Int32)) F.1 F.2.1 dX19_tellAlike_23 (by decide) ?_
    replace h := zc_some h
    obtain ⟨r14, z15, hc16, h⟩ := h
    refine zr_calli (zrun_V (As := [.int x2, .int (3 : Int32)]) (rest := [.int r10]) zq_2828 zq_2830 zs_X19_ad zq_2831 zq_4 hdX19_ad (by decide) (T := TX19) (N := 32) rfl (okX19_ad l D cy B ids hst N x0 hx0 x2  (3 : Int32)  hr.2.2 hc16) F hr hx0 hl.1 rfl (Nat.le_of_ble_eq_true rfl) dX19_tellAlike_24 rfl rfl hroX19_tellAlike_X19_ad ⟨Nat.zero_le _, Nat.zero_le _⟩) F hA hr (fun H locs hw17 hr => ?_)
    clear hc16
    refine lv_icmp_ne (tgt := 34) F.1 F.2.1 dX19_tellAlike_27 (by decide) (fun c18 => ?_) (fun c18 => ?_)
    · replace h := zi_t c18 h
      exact bX19_tellAlike_34 hst F hA E  x0 x1 x2 hx0 hr (lv_sub hl [0, 1, 2] rfl) h
    · replace h := zi_f (fun q => q c18) h
      refine lv_iconst (v := (1 : Int32)) F.1 F.2.1 dX19_tellAlike_30 (by decide) ?_
      refine lv_goto (tgt := 35) F.1 F.2.1 dX19_tellAlike_31 (by decide) ?_
      exact bX19_tellAlike_35 hst F hA E  x0 x1 x2 (1 : Int32) hx0 hr (lv_sub hl [0, 1, 2] rfl) h
end SX19_tellAlike
set_option maxRecDepth 100000 in
theorem okX19_tellAlike (l : Launch) (D : va_G) (cy : Nat → ClassId) (B : Nat → Nat → Nat) (ids : List (Nat × Nat)) (hst : zSt B ids) (N : Nat) (x0 : Nat) (hx0 : (19, x0) ∈ ids) (x1 : Int32) (x2 : Int32) {z : St} {r : Int32} {z' : St} (hW : zWf ids z) (h : fX19_tellAlike N x0 x1 x2 z = some (r, z')) : zM l yX19_tellAlike (zws yX19_tellAlike cX19_tellAlike 5 (some .boolean)) rmX19_tellAlike D cy B ids [.ref (B 19 x0), .int x1, .int x2] (some (.int r)) (r = 0 ∨ r = 1) z z' :=
  zM_of hst hW (by decide +kernel) (Nat.le_of_ble_eq_true rfl) (fun p e s m args below meth c A ls F hA hret hlocks hr hl => bX19_tellAlike_0 hst F hA (zEnd_z F hret hlocks) x0 x1 x2 hx0 hr hl h)
