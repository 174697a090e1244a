abbrev rmX3_makeProbe : Room := { frames := 4, cells := 0, slots := 0, locals := 134 }
theorem hdX3_makeProbe : yX3_makeProbe.cls ≠ "java/lang/invoke/MethodHandle" ∧ yX3_makeProbe.cls ≠ "java/lang/invoke/VarHandle" ∧ (parseMethodDescriptor yX3_makeProbe.desc).map (fun d => d.parameters.length) = some 2 := by decide +kernel
theorem hroX3_makeProbe_X3_goAhead : rmX3_goAhead.frames + 1 ≤ rmX3_makeProbe.frames ∧ 8 + (5 + 11) + rmX3_goAhead.locals ≤ rmX3_makeProbe.locals := by decide
theorem hroX3_makeProbe_X3_sendsNew : rmX3_sendsNew.frames + 1 ≤ rmX3_makeProbe.frames ∧ 8 + (1 + 11) + rmX3_sendsNew.locals ≤ rmX3_makeProbe.locals := by decide
theorem hroX3_makeProbe_X6_hasNew : rmX6_hasNew.frames + 1 ≤ rmX3_makeProbe.frames ∧ 8 + (1 + 11) + rmX6_hasNew.locals ≤ rmX3_makeProbe.locals := by decide
section SX3_makeProbe
variable {p : Program} {l : Launch} {e : Env} {s : State} {m : MethodId} {args : Array Value} {below : List Frame} {meth : Method} {c : Code} {Q : State → Prop} {D : va_G} {cy : Nat → ClassId} {B : Nat → Nat → Nat} {ids : List (Nat × Nat)} {A : Nat → Prop}
def fX3_makeProbe_58 (N : Nat)  (x2 : Int32) (x3 : Int32) (s0 : Nat) (s1 : Nat) (s2 : Int32) (z : St) : Option (Int32 × St) := zc (fX3_goAhead N s0 s1 s2 x3 x2 z) fun _ z2 => some ((1 : Int32), z2)
set_option maxHeartbeats 4000000 in
set_option maxRecDepth 100000 in
theorem bX3_makeProbe_58 (hst : zSt B ids) (F : zFx p m c cX3_makeProbe 4 s args RX3 D cy B ids A) (hA : ∀ q : Nat, s.heap.size ≤ q → A q) {r : Int32} {z' : St} (E : zEnd p l e rmX3_makeProbe s m args below meth c cX3_makeProbe D cy B ids A Q (some (.int r)) z' .ireturn (r = 0 ∨ r = 1)) {N : Nat}  (x2 : Int32) (x3 : Int32) (s0 : Nat) (s1 : Nat) (s2 : Int32) (hs0 : (3, s0) ∈ ids) (hs1 : (7, s1) ∈ ids) {z : St} {H : Heap} {locs : List Loc} {ls : Array Slot} (hr : zRep D cy B ids A s.heap z H locs) (hl : lv_has ls 4 [(2, .int x2), (3, .int x3)]) (h : fX3_makeProbe_58 N x2 x3 s0 s1 s2 z = some (r, z')) : W p l e rmX3_makeProbe s m args below meth c H locs 0 0 Q (F0 m 58 ls [.int s2, .ref (B 7 s1), .ref (B 3 s0)]) := by
  unfold fX3_makeProbe_58 at h
  refine lv_iload_n F.1 F.2.1 dX3_makeProbe_58 rfl (lv_at hl 1 rfl) ?_
  refine lv_iload_n F.1 F.2.1 dX3_makeProbe_59 rfl (lv_at hl 0 rfl) ?_
  replace h := zc_some h
  obtain ⟨r1, z2, hc3, h⟩ := h
  refine zr_callv (zrun_V (As := [.ref (B 7 s1), .int s2, .int x3, .int x2]) (rest := []) zq_1632 zq_1634 zs_X3_goAhead zq_1635 zq_13 hdX3_goAhead (by decide) (T := TX3) (N := 19) rfl (okX3_goAhead l D cy B ids hst N s0 hs0 s1 hs1 s2  x3  x2  hr.2.2 hc3) F hr hs0 hl.1 rfl (by decide) dX3_makeProbe_60 rfl rfl hroX3_makeProbe_X3_goAhead ⟨Nat.zero_le _, Nat.zero_le _⟩) F hA hr (fun H locs hw4 hr => ?_)
  clear hc3
  refine lv_iconst (v := (1 : Int32)) F.1 F.2.1 dX3_makeProbe_63 (by decide) ?_
  obtain ⟨rfl, rfl⟩ := zret h
  exact E _ _ _ _ dX3_makeProbe_64 (by decide) hr
def fX3_makeProbe_46 (N : Nat)  (x0 : Nat) (x1 : Nat) (x2 : Int32) (s0 : Int32) (z : St) : Option (Int32 × St) := if s0 = 0 then (fX3_makeProbe_58 N x2 s0 x0 x1 (1 : Int32) z) else (fX3_makeProbe_58 N x2 s0 x0 x1 (0 : Int32) z)
set_option maxHeartbeats 4000000 in
set_option maxRecDepth 100000 in
theorem bX3_makeProbe_46 (hst : zSt B ids) (F : zFx p m c cX3_makeProbe 4 s args RX3 D cy B ids A) (hA : ∀ q : Nat, s.heap.size ≤ q → A q) {r : Int32} {z' : St} (E : zEnd p l e rmX3_makeProbe s m args below meth c cX3_makeProbe D cy B ids A Q (some (.int r)) z' .ireturn (r = 0 ∨ r = 1)) {N : Nat}  (x0 : Nat) (x1 : Nat) (x2 : Int32) (s0 : Int32) (hx0 : (3, x0) ∈ ids) (hx1 : (7, x1) ∈ ids) {z : St} {H : Heap} {locs : List Loc} {ls : Array Slot} (hr : zRep D cy B ids A s.heap z H locs) (hl : lv_has ls 4 [(0, .ref (B 3 x0)), (1, .ref (B 7 x1)), (2, .int x2)]) (h : fX3_makeProbe_46 N x0 x1 x2 s0 z = some (r, z')) : W p l e rmX3_makeProbe s m args below meth c H locs 0 0 Q (F0 m 46 ls [.int s0]) := by
  unfold fX3_makeProbe_46 at h
  refine lv_istore_n (lv' := [(3, .int s0), (0, .ref (B 3 x0)), (1, .ref (B 7 x1)), (2, .int x2)]) F.1 F.2.1 dX3_makeProbe_46 rfl hl (by decide) rfl (fun ls hl => ?_)
  refine lv_aload_n F.1 F.2.1 dX3_makeProbe_47 rfl (lv_at hl 1 rfl) ?_
  refine lv_aload_n F.1 F.2.1 dX3_makeProbe_48 rfl (lv_at hl 2 rfl) ?_
  refine lv_iload_n F.1 F.2.1 dX3_makeProbe_49 rfl (lv_at hl 0 rfl) ?_
  refine lv_if_eq (tgt := 57) F.1 F.2.1 dX3_makeProbe_50 (by decide) (fun c1 => ?_) (fun c1 => ?_)
  · replace h := zi_t c1 h
    refine lv_iconst (v := (1 : Int32)) F.1 F.2.1 dX3_makeProbe_57 (by decide) ?_
    exact bX3_makeProbe_58 hst F hA E  x2 s0 x0 x1 (1 : Int32) hx0 hx1 hr (lv_sub hl [3, 0] rfl) h
  · replace h := zi_f c1 h
    refine lv_iconst (v := (0 : Int32)) F.1 F.2.1 dX3_makeProbe_53 (by decide) ?_
    refine lv_goto (tgt := 58) F.1 F.2.1 dX3_makeProbe_54 (by decide) ?_
    exact bX3_makeProbe_58 hst F hA E  x2 s0 x0 x1 (0 : Int32) hx0 hx1 hr (lv_sub hl [3, 0] rfl) h
def fX3_makeProbe (N : Nat)  (x0 : Nat) (x1 : Nat) (x2 : Int32) (z : St) : Option (Int32 × St) := zl (zsI z 3 12 x0 (0 : Int32)) fun z1 => zc (fX3_sendsNew N x0 z1) fun r2 z3 => if r2 = 0 then (some ((0 : Int32), z3)) else (zl (zgR z3 3 16 x0) fun y7 => zd y7 fun a8 => zc (fX6_hasNew N a8 z3) fun r9 z10 => if ¬ r9 = 0 then (zl (zgR z10 3 16 x0) fun y14 => zd y14 fun a15 => zl (zgR z10 3 16 x0) fun y16 => zd y16 fun a17 => if (zgI z10 6 3 a15) < (zgI z10 6 2 a17) then (fX3_makeProbe_46 N x0 x1 x2 (0 : Int32) z10) else (fX3_makeProbe_46 N x0 x1 x2 (1 : Int32) z10)) else (some ((0 : Int32), z10)))
set_option maxHeartbeats 4000000 in
set_option maxRecDepth 100000 in
theorem bX3_makeProbe_0 (hst : zSt B ids) (F : zFx p m c cX3_makeProbe 4 s args RX3 D cy B ids A) (hA : ∀ q : Nat, s.heap.size ≤ q → A q) {r : Int32} {z' : St} (E : zEnd p l e rmX3_makeProbe s m args below meth c cX3_makeProbe D cy B ids A Q (some (.int r)) z' .ireturn (r = 0 ∨ r = 1)) {N : Nat}  (x0 : Nat) (x1 : Nat) (x2 : Int32) (hx0 : (3, x0) ∈ ids) (hx1 : (7, x1) ∈ ids) {z : St} {H : Heap} {locs : List Loc} {ls : Array Slot} (hr : zRep D cy B ids A s.heap z H locs) (hl : lv_has ls 4 [(0, .ref (B 3 x0)), (1, .ref (B 7 x1)), (2, .int x2)]) (h : fX3_makeProbe N x0 x1 x2 z = some (r, z')) : W p l e rmX3_makeProbe s m args below meth c H locs 0 0 Q (F0 m 0 ls []) := by
  unfold fX3_makeProbe at h
  refine lv_aload_n F.1 F.2.1 dX3_makeProbe_0 rfl (lv_at hl 0 rfl) ?_
  refine lv_iconst (v := (0 : Int32)) F.1 F.2.1 dX3_makeProbe_1 (by decide) ?_
  refine pf3_68 F hx0 hr dX3_makeProbe_2 (0 : Int32) (by decide) (fun H locs z1 ez1 hr => ?_)
  replace h := zl_sub ez1 h
  clear ez1
  refine lv_aload_n F.1 F.2.1 dX3_makeProbe_5 rfl (lv_at hl 0 rfl) ?_
  replace h := zc_some h
  obtain ⟨r2, z3, hc4, h⟩ := h
  refine zr_calli (zrun_V (As := []) (rest := []) zq_1623 zq_1625 zs_X3_sendsNew zq_1626 zq_13 hdX3_sendsNew (by decide) (T := TX3) (N := 19) rfl (okX3_sendsNew l D cy B ids hst N x0 hx0 hr.2.2 hc4) F hr hx0 hl.1 rfl (by decide) dX3_makeProbe_6 rfl rfl hroX3_makeProbe_X3_sendsNew ⟨Nat.zero_le _, Nat.zero_le _⟩) F hA hr (fun H locs hw5 hr => ?_)
  clear hc4
  refine lv_if_eq (tgt := 22) F.1 F.2.1 dX3_makeProbe_9 (by decide) (fun c6 => ?_) (fun c6 => ?_)
  · replace h := zi_t c6 h
    refine lv_iconst (v := (0 : Int32)) F.1 F.2.1 dX3_makeProbe_22 (by decide) ?_
    obtain ⟨rfl, rfl⟩ := zret h
    exact E _ _ _ _ dX3_makeProbe_23 (by decide) hr
  · replace h := zi_f c6 h
    refine lv_aload_n F.1 F.2.1 dX3_makeProbe_12 rfl (lv_at hl 0 rfl) ?_
    refine gf3_12 F hx0 hr dX3_makeProbe_13 (fun y7 ey7 => ?_)
    replace h := zl_sub ey7 h
    have hy7 := zal_g hr hx0 (j := 16) rfl ey7
    clear ey7
    replace h := zd_some h
    obtain ⟨a8, rfl, h⟩ := h
    replace h := zc_some h
    obtain ⟨r9, z10, hc11, h⟩ := h
    refine zr_calli (zrun_VN (As := []) (rest := []) zn_1640 zq_1642 zs_X6_hasNew zq_1643 zq_14 hdX6_hasNew (by decide) (T := TX6) (N := 14) rfl (okX6_hasNew l D cy B ids hst N a8 (hy7 _ rfl) hr.2.2 hc11) F hr (hy7 _ rfl) hl.1 rfl (by decide) dX3_makeProbe_16 rfl rfl hroX3_makeProbe_X6_hasNew ⟨Nat.zero_le _, Nat.zero_le _⟩) F hA hr (fun H locs hw12 hr => ?_)
    clear hc11
    refine lv_if_ne (tgt := 24) F.1 F.2.1 dX3_makeProbe_19 (by decide) (fun c13 => ?_) (fun c13 => ?_)
    · replace h := zi_t c13 h
      refine lv_aload_n F.1 F.2.1 dX3_makeProbe_24 rfl (lv_at hl 0 rfl) ?_
      refine gf3_12 F hx0 hr dX3_makeProbe_25 (fun y14 ey14 => ?_)
      replace h := zl_sub ey14 h
      have hy14 := zal_g hr hx0 (j := 16) rfl ey14
      clear ey14
      replace h := zd_some h
      obtain ⟨a15, rfl, h⟩ := h
      refine gf3_258 F (hy14 _ rfl) hr dX3_makeProbe_28 ?_
      refine lv_aload_n F.1 F.2.1 dX3_makeProbe_31 rfl (lv_at hl 0 rfl) ?_
      refine gf3_12 F hx0 hr dX3_makeProbe_32 (fun y16 ey16 => ?_)
      replace h := zl_sub ey16 h
      have hy16 := zal_g hr hx0 (j := 16) rfl ey16
      clear ey16
      replace h := zd_some h
      obtain ⟨a17, rfl, h⟩ := h
      refine gf3_267 F (hy16 _ rfl) hr dX3_makeProbe_35 ?_
      refine lv_icmp_lt (tgt := 45) F.1 F.2.1 dX3_makeProbe_38 (by decide) (fun c18 => ?_) (fun c18 => ?_)
      · replace h := zi_t c18 h
        refine lv_iconst (v := (0 : Int32)) F.1 F.2.1 dX3_makeProbe_45 (by decide) ?_
        exact bX3_makeProbe_46 hst F hA E  x0 x1 x2 (0 : Int32) hx0 hx1 hr (lv_sub hl [0, 1, 2] rfl) h
      · replace h := zi_f c18 h
        refine lv_iconst (v := (1 : Int32)) F.1 F.2.1 dX3_makeProbe_41 (by decide) ?_
        refine lv_goto (tgt := 46) F.1 F.2.1 dX3_makeProbe_42 (by decide) ?_
        exact bX3_makeProbe_46 hst F hA E  x0 x1 x2 (1 : Int32) hx0 hx1 hr (lv_sub hl [0, 1, 2] rfl) h
    · replace h := zi_f (fun q => q c13) h
      refine lv_iconst (v := (0 : Int32)) F.1 F.2.1 dX3_makeProbe_22 (by decide) ?_
      obtain ⟨rfl, rfl⟩ := zret h
      exact E _ _ _ _ dX3_makeProbe_23 (by decide) hr
end SX3_makeProbe
set_option maxRecDepth 100000 in
theorem okX3_makeProbe (l : Launch) (D : va_G) (cy : Nat → ClassId) (B : Nat → Nat → Nat) (ids : List (Nat × Nat)) (hst : zSt B ids) (N : Nat) (x0 : Nat) (hx0 : (3, x0) ∈ ids) (x1 : Nat) (hx1 : (7, x1) ∈ ids) (x2 : Int32) {z : St} {r : Int32} {z' : St} (hW : zWf ids z) (h : fX3_makeProbe N x0 x1 x2 z = some (r, z')) : zM l yX3_makeProbe (zws yX3_makeProbe cX3_makeProbe 4 (some .boolean)) rmX3_makeProbe D cy B ids [.ref (B 3 x0), .ref (B 7 x1), .int x2] (some (.int r)) (r = 0 ∨ r = 1) z z' :=
  zM_of hst hW (by decide +kernel) (Nat.le_of_ble_eq_true rfl) (fun p e s m args below meth c A ls F hA hret hlocks hr hl => bX3_makeProbe_0 hst F hA (zEnd_z F hret hlocks) x0 x1 x2 hx0 hx1 hr hl h)
abbrev rmX3_makeNext : Room := { frames := 5, cells := 0, slots := 0, locals := 159 }
theorem hdX3_makeNext : yX3_makeNext.cls ≠ "java/lang/invoke/MethodHandle" ∧ yX3_makeNext.cls ≠ "java/lang/invoke/VarHandle" ∧ (parseMethodDescriptor yX3_makeNext.desc).map (fun d => d.parameters.length) = some 2 := by decide +kernel
theorem hroX3_makeNext_X3_makeAgain : rmX3_makeAgain.frames + 1 ≤ rmX3_makeNext.frames ∧ 8 + (4 + 11) + rmX3_makeAgain.locals ≤ rmX3_makeNext.locals := by decide
theorem hroX3_makeNext_X3_makeBytes : rmX3_makeBytes.frames + 1 ≤ rmX3_makeNext.frames ∧ 8 + (6 + 11) + rmX3_makeBytes.locals ≤ rmX3_makeNext.locals := by decide
theorem hroX3_makeNext_X3_makeNew : rmX3_makeNew.frames + 1 ≤ rmX3_makeNext.frames ∧ 8 + (6 + 11) + rmX3_makeNew.locals ≤ rmX3_makeNext.locals := by decide
theorem hroX3_makeNext_X3_makeOpen : rmX3_makeOpen.frames + 1 ≤ rmX3_makeNext.frames ∧ 8 + (4 + 11) + rmX3_makeOpen.locals ≤ rmX3_makeNext.locals := by decide
theorem hroX3_makeNext_X3_makeProbe : rmX3_makeProbe.frames + 1 ≤ rmX3_makeNext.frames ∧ 8 + (4 + 11) + rmX3_makeProbe.locals ≤ rmX3_makeNext.locals := by decide
theorem hroX3_makeNext_X3_sendsNew : rmX3_sendsNew.frames + 1 ≤ rmX3_makeNext.frames ∧ 8 + (1 + 11) + rmX3_sendsNew.locals ≤ rmX3_makeNext.locals := by decide
theorem hroX3_makeNext_X7_beginSegment : rmX7_beginSegment.frames + 1 ≤ rmX3_makeNext.frames ∧ 8 + (5 + 11) + rmX7_beginSegment.locals ≤ rmX3_makeNext.locals := by decide
section SX3_makeNext
variable {p : Program} {l : Launch} {e : Env} {s : State} {m : MethodId} {args : Array Value} {below : List Frame} {meth : Method} {c : Code} {Q : State → Prop} {D : va_G} {cy : Nat → ClassId} {B : Nat → Nat → Nat} {ids : List (Nat × Nat)} {A : Nat → Prop}
def fX3_makeNext_96 (N : Nat)  (x0 : Nat) (x1 : Nat) (z : St) : Option (Int32 × St) := if ¬ (zgI z 3 13 x0) = 0 then (zl (zgR z 3 16 x0) fun y2 => zd y2 fun a3 => zc (fX3_makeBytes N x0 x1 (zgI z 6 6 a3) (0 : Int32) (0 : Int32) (0 : Int32) z) fun _ z5 => some ((1 : Int32), z5)) else (some ((0 : Int32), z))
set_option maxHeartbeats 4000000 in
set_option maxRecDepth 100000 in
theorem bX3_makeNext_96 (hst : zSt B ids) (F : zFx p m c cX3_makeNext 3 s args RX3 D cy B ids A) (hA : ∀ q : Nat, s.heap.size ≤ q → A q) {r : Int32} {z' : St} (E : zEnd p l e rmX3_makeNext s m args below meth c cX3_makeNext D cy B ids A Q (some (.int r)) z' .ireturn (r = 0 ∨ r = 1)) {N : Nat}  (x0 : Nat) (x1 : Nat) (hx0 : (3, x0) ∈ ids) (hx1 : (7, x1) ∈ ids) {z : St} {H : Heap} {locs : List Loc} {ls : Array Slot} (hr : zRep D cy B ids A s.heap z H locs) (hl : lv_has ls 3 [(0, .ref (B 3 x0)), (1, .ref (B 7 x1))]) (h : fX3_makeNext_96 N x0 x1 z = some (r, z')) : W p l e rmX3_makeNext s m args below meth c H locs 0 0 Q (F0 m 96 ls []) := by
  unfold fX3_makeNext_96 at h
  refine lv_aload_n F.1 F.2.1 dX3_makeNext_96 rfl (lv_at hl 0 rfl) ?_
  refine gf3_71 F hx0 hr dX3_makeNext_97 ?_
  refine lv_if_ne (tgt := 105) F.1 F.2.1 dX3_makeNext_100 (by decide) (fun c1 => ?_) (fun c1 => ?_)
  · replace h := zi_t c1 h
    refine lv_aload_n F.1 F.2.1 dX3_makeNext_105 rfl (lv_at hl 0 rfl) ?_
    refine lv_aload_n F.1 F.2.1 dX3_makeNext_106 rfl (lv_at hl 1 rfl) ?_
    refine lv_aload_n F.1 F.2.1 dX3_makeNext_107 rfl (lv_at hl 0 rfl) ?_
    refine gf3_12 F hx0 hr dX3_makeNext_108 (fun y2 ey2 => ?_)
    replace h := zl_sub ey2 h
    have hy2 := zal_g hr hx0 (j := 16) rfl ey2
    clear ey2
    replace h := zd_some h
    obtain ⟨a3, rfl, h⟩ := h
    refine gf3_86 F (hy2 _ rfl) hr dX3_makeNext_111 ?_
    refine lv_iconst (v := (0 : Int32)) F.1 F.2.1 dX3_makeNext_114 (by decide) ?_
    refine lv_iconst (v := (0 : Int32)) F.1 F.2.1 dX3_makeNext_115 (by decide) ?_
    refine lv_iconst (v := (0 : Int32)) F.1 F.2.1 dX3_makeNext_116 (by decide) ?_
    replace h := zc_some h
    obtain ⟨r4, z5, hc6, h⟩ := h
    refine zr_callv (zrun_V (As := [.ref (B 7 x1), .int (zgI z 6 6 a3), .int (0 : Int32), .int (0 : Int32), .int (0 : Int32)]) (rest := []) zq_1614 zq_1616 zs_X3_makeBytes zq_1617 zq_13 hdX3_makeBytes (by decide) (T := TX3) (N := 19) rfl (okX3_makeBytes l D cy B ids hst N x0 hx0 x1 hx1 (zgI z 6 6 a3)  (0 : Int32)  (0 : Int32)  (0 : Int32)  hr.2.2 hc6) F hr hx0 hl.1 rfl (by decide) dX3_makeNext_117 rfl rfl hroX3_makeNext_X3_makeBytes ⟨Nat.zero_le _, Nat.zero_le _⟩) F hA hr (fun H locs hw7 hr => ?_)
    clear hc6
    refine lv_iconst (v := (1 : Int32)) F.1 F.2.1 dX3_makeNext_120 (by decide) ?_
    obtain ⟨rfl, rfl⟩ := zret h
    exact E _ _ _ _ dX3_makeNext_121 (by decide) hr
  · replace h := zi_f (fun q => q c1) h
    refine lv_iconst (v := (0 : Int32)) F.1 F.2.1 dX3_makeNext_103 (by decide) ?_
    obtain ⟨rfl, rfl⟩ := zret h
    exact E _ _ _ _ dX3_makeNext_104 (by decide) hr
def fX3_makeNext_78 (N : Nat)  (x0 : Nat) (x1 : Nat) (x2 : Int32) (z : St) : Option (Int32 × St) := if (zgI z 3 12 x0) = 0 then (fX3_makeNext_96 N x0 x1 z) else (zc (fX3_makeProbe N x0 x1 x2 z) fun r2 z3 => if r2 = 0 then (fX3_makeNext_96 N x0 x1 z3) else (some ((1 : Int32), z3)))
set_option maxHeartbeats 4000000 in
set_option maxRecDepth 100000 in
theorem bX3_makeNext_78 (hst : zSt B ids) (F : zFx p m c cX3_makeNext 3 s args RX3 D cy B ids A) (hA : ∀ q : Nat, s.heap.size ≤ q → A q) {r : Int32} {z' : St} (E : zEnd p l e rmX3_makeNext s m args below meth c cX3_makeNext D cy B ids A Q (some (.int r)) z' .ireturn (r = 0 ∨ r = 1)) {N : Nat}  (x0 : Nat) (x1 : Nat) (x2 : Int32) (hx0 : (3, x0) ∈ ids) (hx1 : (7, x1) ∈ ids) {z : St} {H : Heap} {locs : List Loc} {ls : Array Slot} (hr : zRep D cy B ids A s.heap z H locs) (hl : lv_has ls 3 [(0, .ref (B 3 x0)), (1, .ref (B 7 x1)), (2, .int x2)]) (h : fX3_makeNext_78 N x0 x1 x2 z = some (r, z')) : W p l e rmX3_makeNext s m args below meth c H locs 0 0 Q (F0 m 78 ls []) := by
  unfold fX3_makeNext_78 at h
  refine lv_aload_n F.1 F.2.1 dX3_makeNext_78 rfl (lv_at hl 0 rfl) ?_
  refine gf3_68 F hx0 hr dX3_makeNext_79 ?_
  refine lv_if_eq (tgt := 96) F.1 F.2.1 dX3_makeNext_82 (by decide) (fun c1 => ?_) (fun c1 => ?_)
  · replace h := zi_t c1 h
    exact bX3_makeNext_96 hst F hA E  x0 x1 hx0 hx1 hr (lv_sub hl [0, 1] rfl) h
  · replace h := zi_f c1 h
    refine lv_aload_n F.1 F.2.1 dX3_makeNext_85 rfl (lv_at hl 0 rfl) ?_
    refine lv_aload_n F.1 F.2.1 dX3_makeNext_86 rfl (lv_at hl 1 rfl) ?_
    refine lv_iload_n F.1 F.2.1 dX3_makeNext_87 rfl (lv_at hl 2 rfl) ?_
    replace h := zc_some h
    obtain ⟨r2, z3, hc4, h⟩ := h
    refine zr_calli (zrun_V (As := [.ref (B 7 x1), .int x2]) (rest := []) zq_1636 zq_1638 zs_X3_makeProbe zq_1639 zq_13 hdX3_makeProbe (by decide) (T := TX3) (N := 19) rfl (okX3_makeProbe l D cy B ids hst N x0 hx0 x1 hx1 x2  hr.2.2 hc4) F hr hx0 hl.1 rfl (by decide) dX3_makeNext_88 rfl rfl hroX3_makeNext_X3_makeProbe ⟨Nat.zero_le _, Nat.zero_le _⟩) F hA hr (fun H locs hw5 hr => ?_)
    clear hc4
    refine lv_if_eq (tgt := 96) F.1 F.2.1 dX3_makeNext_91 (by decide) (fun c6 => ?_) (fun c6 => ?_)
    · replace h := zi_t c6 h
      exact bX3_makeNext_96 hst F hA E  x0 x1 hx0 hx1 hr (lv_sub hl [0, 1] rfl) h
    · replace h := zi_f c6 h
      refine lv_iconst (v := (1 : Int32)) F.1 F.2.1 dX3_makeNext_94 (by decide) ?_
      obtain ⟨rfl, rfl⟩ := zret h
      exact E _ _ _ _ dX3_makeNext_95 (by decide) hr
def fX3_makeNext (N : Nat)  (x0 : Nat) (x1 : Nat) (x2 : Int32) (z : St) : Option (Int32 × St) := if (zgI z 3 5 x0) = 0 then (if (zgI z 3 9 x0) = 0 then (if (zgI z 3 11 x0) = 0 then (zc (fX3_sendsNew N x0 z) fun r4 z5 => if r4 = 0 then (fX3_makeNext_78 N x0 x1 x2 z5) else (zc (fX3_makeNew N x0 x1 x2 z5) fun r9 z10 => if r9 = 0 then (fX3_makeNext_78 N x0 x1 x2 z10) else (some ((1 : Int32), z10)))) else (zc (fX3_makeAgain N x0 x1 z) fun _ z15 => some ((1 : Int32), z15))) else (zc (fX3_makeOpen N x0 x1 x2 z) fun _ z19 => some ((1 : Int32), z19))) else (zl (zsI z 3 5 x0 (0 : Int32)) fun z22 => zc (fX7_beginSegment N x1 (zgI z22 3 6 x0) (zgI z22 3 7 x0) (zgI z22 3 8 x0) (0 : Int32) z22) fun _ z24 => some ((1 : Int32), z24))
set_option maxHeartbeats 4000000 in
set_option maxRecDepth 100000 in
theorem bX3_makeNext_0 (hst : zSt B ids) (F : zFx p m c cX3_makeNext 3 s args RX3 D cy B ids A) (hA : ∀ q : Nat, s.heap.size ≤ q → A q) {r : Int32} {z' : St} (E : zEnd p l e rmX3_makeNext s m args below meth c cX3_makeNext D cy B ids A Q (some (.int r)) z' .ireturn (r = 0 ∨ r = 1)) {N : Nat}  (x0 : Nat) (x1 : Nat) (x2 : Int32) (hx0 : (3, x0) ∈ ids) (hx1 : (7, x1) ∈ ids) {z : St} {H : Heap} {locs : List Loc} {ls : Array Slot} (hr : zRep D cy B ids A s.heap z H locs) (hl : lv_has ls 3 [(0, .ref (B 3 x0)), (1, .ref (B 7 x1)), (2, .int x2)]) (h : fX3_makeNext N x0 x1 x2 z = some (r, z')) : W p l e rmX3_makeNext s m args below meth c H locs 0 0 Q (F0 m 0 ls []) := by
  unfold fX3_makeNext at h
  refine lv_aload_n F.1 F.2.1 dX3_makeNext_0 rfl (lv_at hl 0 rfl) ?_
  refine gf3_46 F hx0 hr dX3_makeNext_1 ?_
  refine lv_if_eq (tgt := 31) F.1 F.2.1 dX3_makeNext_4 (by decide) (fun c1 => ?_) (fun c1 => ?_)
  · replace h := zi_t c1 h
    refine lv_aload_n F.1 F.2.1 dX3_makeNext_31 rfl (lv_at hl 0 rfl) ?_
    refine gf3_59 F hx0 hr dX3_makeNext_32 ?_
    refine lv_if_eq (tgt := 46) F.1 F.2.1 dX3_makeNext_35 (by decide) (fun c2 => ?_) (fun c2 => ?_)
    · replace h := zi_t c2 h
      refine lv_aload_n F.1 F.2.1 dX3_makeNext_46 rfl (lv_at hl 0 rfl) ?_
      refine gf3_65 F hx0 hr dX3_makeNext_47 ?_
      refine lv_if_eq (tgt := 60) F.1 F.2.1 dX3_makeNext_50 (by decide) (fun c3 => ?_) (fun c3 => ?_)
      · replace h := zi_t c3 h
        refine lv_aload_n F.1 F.2.1 dX3_makeNext_60 rfl (lv_at hl 0 rfl) ?_
        replace h := zc_some h
        obtain ⟨r4, z5, hc6, h⟩ := h
        refine zr_calli (zrun_V (As := []) (rest := []) zq_1623 zq_1625 zs_X3_sendsNew zq_1626 zq_13 hdX3_sendsNew (by decide) (T := TX3) (N := 19) rfl (okX3_sendsNew l D cy B ids hst N x0 hx0 hr.2.2 hc6) F hr hx0 hl.1 rfl (by decide) dX3_makeNext_61 rfl rfl hroX3_makeNext_X3_sendsNew ⟨Nat.zero_le _, Nat.zero_le _⟩) F hA hr (fun H locs hw7 hr => ?_)
        clear hc6
        refine lv_if_eq (tgt := 78) F.1 F.2.1 dX3_makeNext_64 (by decide) (fun c8 => ?_) (fun c8 => ?_)
        · replace h := zi_t c8 h
          exact bX3_makeNext_78 hst F hA E  x0 x1 x2 hx0 hx1 hr (lv_sub hl [0, 1, 2] rfl) h
        · replace h := zi_f c8 h
          refine lv_aload_n F.1 F.2.1 dX3_makeNext_67 rfl (lv_at hl 0 rfl) ?_
          refine lv_aload_n F.1 F.2.1 dX3_makeNext_68 rfl (lv_at hl 1 rfl) ?_
          refine lv_iload_n F.1 F.2.1 dX3_makeNext_69 rfl (lv_at hl 2 rfl) ?_
          replace h := zc_some h
          obtain ⟨r9, z10, hc11, h⟩ := h
          refine zr_calli (zrun_V (As := [.ref (B 7 x1), .int x2]) (rest := []) zq_1627 zq_1629 zs_X3_makeNew zq_1630 zq_13 hdX3_makeNew (by decide) (T := TX3) (N := 19) rfl (okX3_makeNew l D cy B ids hst N x0 hx0 x1 hx1 x2  hr.2.2 hc11) F hr hx0 hl.1 rfl (by decide) dX3_makeNext_70 rfl rfl hroX3_makeNext_X3_makeNew ⟨Nat.zero_le _, Nat.zero_le _⟩) F hA hr (fun H locs hw12 hr => ?_)
          clear hc11
          refine lv_if_eq (tgt := 78) F.1 F.2.1 dX3_makeNext_73 (by decide) (fun c13 => ?_) (fun c13 => ?_)
          · replace h := zi_t c13 h
            exact bX3_makeNext_78 hst F hA E  x0 x1 x2 hx0 hx1 hr (lv_sub hl [0, 1, 2] rfl) h
          · replace h := zi_f c13 h
            refine lv_iconst (v := (1 : Int32)) F.1 F.2.1 dX3_makeNext_76 (by decide) ?_
            obtain ⟨rfl, rfl⟩ := zret h
            exact E _ _ _ _ dX3_makeNext_77 (by decide) hr
      · replace h := zi_f c3 h
        refine lv_aload_n F.1 F.2.1 dX3_makeNext_53 rfl (lv_at hl 0 rfl) ?_
        refine lv_aload_n F.1 F.2.1 dX3_makeNext_54 rfl (lv_at hl 1 rfl) ?_
        replace h := zc_some h
        obtain ⟨r14, z15, hc16, h⟩ := h
        refine zr_callv (zrun_V (As := [.ref (B 7 x1)]) (rest := []) zq_1610 zq_1612 zs_X3_makeAgain zq_1613 zq_13 hdX3_makeAgain (by decide) (T := TX3) (N := 19) rfl (okX3_makeAgain l D cy B ids hst N x0 hx0 x1 hx1 hr.2.2 hc16) F hr hx0 hl.1 rfl (by decide) dX3_makeNext_55 rfl rfl hroX3_makeNext_X3_makeAgain ⟨Nat.zero_le _, Nat.zero_le _⟩) F hA hr (fun H locs hw17 hr => ?_)
        clear hc16
        refine lv_iconst (v := (1 : Int32)) F.1 F.2.1 dX3_makeNext_58 (by decide) ?_
        obtain ⟨rfl, rfl⟩ := zret h
        exact E _ _ _ _ dX3_makeNext_59 (by decide) hr
    · replace h := zi_f c2 h
      refine lv_aload_n F.1 F.2.1 dX3_makeNext_38 rfl (lv_at hl 0 rfl) ?_
      refine lv_aload_n F.1 F.2.1 dX3_makeNext_39 rfl (lv_at hl 1 rfl) ?_
      refine lv_iload_n F.1 F.2.1 dX3_makeNext_40 rfl (lv_at hl 2 rfl) ?_
      replace h := zc_some h
      obtain ⟨r18, z19, hc20, h⟩ := h
      refine zr_callv (zrun_V (As := [.ref (B 7 x1), .int x2]) (rest := []) zq_1600 zq_1602 zs_X3_makeOpen zq_1603 zq_13 hdX3_makeOpen (by decide) (T := TX3) (N := 19) rfl (okX3_makeOpen l D cy B ids hst N x0 hx0 x1 hx1 x2  hr.2.2 hc20) F hr hx0 hl.1 rfl (by decide) dX3_makeNext_41 rfl rfl hroX3_makeNext_X3_makeOpen ⟨Nat.zero_le _, Nat.zero_le _⟩) F hA hr (fun H locs hw21 hr => ?_)
      clear hc20
      refine lv_iconst (v := (1 : Int32)) F.1 F.2.1 dX3_makeNext_44 (by decide) ?_
      obtain ⟨rfl, rfl⟩ := zret h
      exact E _ _ _ _ dX3_makeNext_45 (by decide) hr
  · replace h := zi_f c1 h
    refine lv_aload_n F.1 F.2.1 dX3_makeNext_7 rfl (lv_at hl 0 rfl) ?_
    refine lv_iconst (v := (0 : Int32)) F.1 F.2.1 dX3_makeNext_8 (by decide) ?_
    refine pf3_46 F hx0 hr dX3_makeNext_9 (0 : Int32) (by decide) (fun H locs z22 ez22 hr => ?_)
    replace h := zl_sub ez22 h
    clear ez22
    refine lv_aload_n F.1 F.2.1 dX3_makeNext_12 rfl (lv_at hl 1 rfl) ?_
    refine lv_aload_n F.1 F.2.1 dX3_makeNext_13 rfl (lv_at hl 0 rfl) ?_
    refine gf3_98 F hx0 hr dX3_makeNext_14 ?_
    refine lv_aload_n F.1 F.2.1 dX3_makeNext_17 rfl (lv_at hl 0 rfl) ?_
    refine gf3_101 F hx0 hr dX3_makeNext_18 ?_
    refine lv_aload_n F.1 F.2.1 dX3_makeNext_21 rfl (lv_at hl 0 rfl) ?_
    refine gf3_107 F hx0 hr dX3_makeNext_22 ?_
    refine lv_iconst (v := (0 : Int32)) F.1 F.2.1 dX3_makeNext_25 (by decide) ?_
    replace h := zc_some h
    obtain ⟨r23, z24, hc25, h⟩ := h
    refine zr_callv (zrun_VN (As := [.int (zgI z22 3 6 x0), .int (zgI z22 3 7 x0), .int (zgI z22 3 8 x0), .int (0 : Int32)]) (rest := []) zn_1599 zq_1297 zs_X7_beginSegment zq_1298 zq_2 hdX7_beginSegment (by decide) (T := TX7) (N := 20) rfl (okX7_beginSegment l D cy B ids hst N x1 hx1 (zgI z22 3 6 x0)  (zgI z22 3 7 x0)  (zgI z22 3 8 x0)  (0 : Int32)  hr.2.2 hc25) F hr hx1 hl.1 rfl (by decide) dX3_makeNext_26 rfl rfl hroX3_makeNext_X7_beginSegment ⟨Nat.zero_le _, Nat.zero_le _⟩) F hA hr (fun H locs hw26 hr => ?_)
    clear hc25
    refine lv_iconst (v := (1 : Int32)) F.1 F.2.1 dX3_makeNext_29 (by decide) ?_
    obtain ⟨rfl, rfl⟩ := zret h
    exact E _ _ _ _ dX3_makeNext_30 (by decide) hr
end SX3_makeNext
set_option maxRecDepth 100000 in
theorem okX3_makeNext (l : Launch) (D : va_G) (cy : Nat → ClassId) (B : Nat → Nat → Nat) (ids : List (Nat × Nat)) (hst : zSt B ids) (N : Nat) (x0 : Nat) (hx0 : (3, x0) ∈ ids) (x1 : Nat) (hx1 : (7, x1) ∈ ids) (x2 : Int32) {z : St} {r : Int32} {z' : St} (hW : zWf ids z) (h : fX3_makeNext N x0 x1 x2 z = some (r, z')) : zM l yX3_makeNext (zws yX3_makeNext cX3_makeNext 3 (some .boolean)) rmX3_makeNext D cy B ids [.ref (B 3 x0), .ref (B 7 x1), .int x2] (some (.int r)) (r = 0 ∨ r = 1) z z' :=
  zM_of hst hW (by decide +kernel) (Nat.le_of_ble_eq_true rfl) (fun p e s m args below meth c A ls F hA hret hlocks hr hl => bX3_makeNext_0 hst F hA (zEnd_z F hret hlocks) x0 x1 x2 hx0 hx1 hr hl h)
abbrev rmX5_addFate : Room := { frames := 0, cells := 0, slots := 0, locals := 0 }
theorem hdX5_addFate : yX5_addFate.cls ≠ "java/lang/invoke/MethodHandle" ∧ yX5_addFate.cls ≠ "java/lang/invoke/VarHandle" ∧ (parseMethodDescriptor yX5_addFate.desc).map (fun d => d.parameters.length) = some 1 := by decide +kernel
section SX5_addFate
variable {p : Program} {l : Launch} {e : Env} {s : State} {m : MethodId} {args : Array Value} {below : List Frame} {meth : Method} {c : Code} {Q : State → Prop} {D : va_G} {cy : Nat → ClassId} {B : Nat → Nat → Nat} {ids : List (Nat × Nat)} {A : Nat → Prop}
def fX5_addFate (N : Nat)  (x0 : Nat) (x1 : Int32) (z : St) : Option (Int32 × St) := if (zgI z 5 6 x0) < (64 : Int32) then (zk (((zgI z 5 5 x0) + (zgI z 5 6 x0)) &&& (63 : Int32)) 64 <| zl (zsA z 122 x0 (Int32.toNatClampNeg (((zgI z 5 5 x0) + (zgI z 5 6 x0)) &&& (63 : Int32))) (vp_nar .byte ((Int32.toInt8 x1).toInt32))) fun z3 => zl (zsI z3 5 6 x0 ((zgI z3 5 6 x0) + (1 : Int32))) fun z4 => some (0, z4)) else (some (0, z))
set_option maxHeartbeats 4000000 in
set_option maxRecDepth 100000 in
theorem bX5_addFate_0 (hst : zSt B ids) (F : zFx p m c cX5_addFate 2 s args RX5 D cy B ids A) (hA : ∀ q : Nat, s.heap.size ≤ q → A q) {r : Int32} {z' : St} (E : zEnd p l e rmX5_addFate s m args below meth c cX5_addFate D cy B ids A Q none z' .return_ True) {N : Nat}  (x0 : Nat) (x1 : Int32) (hx0 : (5, x0) ∈ ids) {z : St} {H : Heap} {locs : List Loc} {ls : Array Slot} (hr : zRep D cy B ids A s.heap z H locs) (hl : lv_has ls 2 [(0, .ref (B 5 x0)), (1, .int x1)]) (h : fX5_addFate N x0 x1 z = some (r, z')) : W p l e rmX5_addFate s m args below meth c H locs 0 0 Q (F0 m 0 ls []) := by
  unfold fX5_addFate at h
  refine lv_aload_n F.1 F.2.1 dX5_addFate_0 rfl (lv_at hl 0 rfl) ?_
  refine gf5_29 F hx0 hr dX5_addFate_1 ?_
  refine lv_bipush (v := (64 : Int32)) F.1 F.2.1 dX5_addFate_4 (by decide) ?_
  refine lv_icmp_lt (tgt := 10) F.1 F.2.1 dX5_addFate_6 (by decide) (fun c1 => ?_) (fun c1 => ?_)
  · replace h := zi_t c1 h
    refine lv_aload_n F.1 F.2.1 dX5_addFate_10 rfl (lv_at hl 0 rfl) ?_
    refine gf5_15 F hx0 hr dX5_addFate_11 ?_
    refine lv_aload_n F.1 F.2.1 dX5_addFate_14 rfl (lv_at hl 0 rfl) ?_
    refine gf5_32 F hx0 hr dX5_addFate_15 ?_
    refine lv_aload_n F.1 F.2.1 dX5_addFate_18 rfl (lv_at hl 0 rfl) ?_
    refine gf5_29 F hx0 hr dX5_addFate_19 ?_
    refine lv_iadd F.1 F.2.1 dX5_addFate_22 ?_
    refine lv_bipush (v := (63 : Int32)) F.1 F.2.1 dX5_addFate_23 (by decide) ?_
    refine lv_iand F.1 F.2.1 dX5_addFate_25 ?_
    refine lv_iload_n F.1 F.2.1 dX5_addFate_26 rfl (lv_at hl 1 rfl) ?_
    refine lv_i2b F.1 F.2.1 dX5_addFate_27 rfl ?_
    replace h := zk_some h
    obtain ⟨c2, h⟩ := h
    refine zr_bast (k := 122) (by decide) rfl (by decide) F (zal_a F hx0 (j := 4) rfl) hr dX5_addFate_28 c2 (fun H locs z3 ez3 hr => ?_)
    replace h := zl_sub ez3 h
    clear ez3
    refine lv_aload_n F.1 F.2.1 dX5_addFate_29 rfl (lv_at hl 0 rfl) ?_
    refine lv_dup F.1 F.2.1 dX5_addFate_30 rfl ?_
    refine gf5_29 F hx0 hr dX5_addFate_31 ?_
    refine lv_iconst (v := (1 : Int32)) F.1 F.2.1 dX5_addFate_34 (by decide) ?_
    refine lv_iadd F.1 F.2.1 dX5_addFate_35 ?_
    refine pf5_29 F hx0 hr dX5_addFate_36 ((zgI z3 5 6 x0) + (1 : Int32)) (fun H locs z4 ez4 hr => ?_)
    replace h := zl_sub ez4 h
    clear ez4
    obtain ⟨rfl, rfl⟩ := zret h
    exact E _ _ _ _ dX5_addFate_39 trivial hr
  · replace h := zi_f c1 h
    obtain ⟨rfl, rfl⟩ := zret h
    exact E _ _ _ _ dX5_addFate_9 trivial hr
end SX5_addFate
set_option maxRecDepth 100000 in
theorem okX5_addFate (l : Launch) (D : va_G) (cy : Nat → ClassId) (B : Nat → Nat → Nat) (ids : List (Nat × Nat)) (hst : zSt B ids) (N : Nat) (x0 : Nat) (hx0 : (5, x0) ∈ ids) (x1 : Int32) {z : St} {r : Int32} {z' : St} (hW : zWf ids z) (h : fX5_addFate N x0 x1 z = some (r, z')) : zM l yX5_addFate (zws yX5_addFate cX5_addFate 2 none) rmX5_addFate D cy B ids [.ref (B 5 x0), .int x1] none True z z' :=
  zM_of hst hW (by decide +kernel) (Nat.le_of_ble_eq_true rfl) (fun p e s m args below meth c A ls F hA hret hlocks hr hl => bX5_addFate_0 hst F hA (zEnd_v F hret hlocks) x0 x1 hx0 hr hl h)
abbrev rmX5_nextFate : Room := { frames := 0, cells := 0, slots := 0, locals := 0 }
theorem hdX5_nextFate : yX5_nextFate.cls ≠ "java/lang/invoke/MethodHandle" ∧ yX5_nextFate.cls ≠ "java/lang/invoke/VarHandle" ∧ (parseMethodDescriptor yX5_nextFate.desc).map (fun d => d.parameters.length) = some 0 := by decide +kernel
section SX5_nextFate
variable {p : Program} {l : Launch} {e : Env} {s : State} {m : MethodId} {args : Array Value} {below : List Frame} {meth : Method} {c : Code} {Q : State → Prop} {D : va_G} {cy : Nat → ClassId} {B : Nat → Nat → Nat} {ids : List (Nat × Nat)} {A : Nat → Prop}
def fX5_nextFate (N : Nat)  (x0 : Nat) (z : St) : Option (Int32 × St) := if ¬ (zgI z 5 6 x0) = 0 then (zk (zgI z 5 5 x0) 64 <| zl (zgA z 122 x0 (Int32.toNatClampNeg (zgI z 5 5 x0))) fun v3 => zl (zsI z 5 5 x0 (((zgI z 5 5 x0) + (1 : Int32)) &&& (63 : Int32))) fun z4 => zl (zsI z4 5 6 x0 ((zgI z4 5 6 x0) - (1 : Int32))) fun z5 => some (v3, z5)) else (some ((0 : Int32), z))
set_option maxHeartbeats 4000000 in
set_option maxRecDepth 100000 in
theorem bX5_nextFate_0 (hst : zSt B ids) (F : zFx p m c cX5_nextFate 2 s args RX5 D cy B ids A) (hA : ∀ q : Nat, s.heap.size ≤ q → A q) {r : Int32} {z' : St} (E : zEnd p l e rmX5_nextFate s m args below meth c cX5_nextFate D cy B ids A Q (some (.int r)) z' .ireturn True) {N : Nat}  (x0 : Nat) (hx0 : (5, x0) ∈ ids) {z : St} {H : Heap} {locs : List Loc} {ls : Array Slot} (hr : zRep D cy B ids A s.heap z H locs) (hl : lv_has ls 2 [(0, .ref (B 5 x0))]) (h : fX5_nextFate N x0 z = some (r, z')) : W p l e rmX5_nextFate s m args below meth c H locs 0 0 Q (F0 m 0 ls []) := by
  unfold fX5_nextFate at h
  refine lv_aload_n F.1 F.2.1 dX5_nextFate_0 rfl (lv_at hl 0 rfl) ?_
  refine gf5_29 F hx0 hr dX5_nextFate_1 ?_
  refine lv_if_ne (tgt := 9) F.1 F.2.1 dX5_nextFate_4 (by decide) (fun c1 => ?_) (fun c1 => ?_)
  · replace h := zi_t c1 h
    refine lv_aload_n F.1 F.2.1 dX5_nextFate_9 rfl (lv_at hl 0 rfl) ?_
    refine gf5_15 F hx0 hr dX5_nextFate_10 ?_
    refine lv_aload_n F.1 F.2.1 dX5_nextFate_13 rfl (lv_at hl 0 rfl) ?_
    refine gf5_32 F hx0 hr dX5_nextFate_14 ?_
    replace h := zk_some h
    obtain ⟨c2, h⟩ := h
    refine zr_bald (k := 122) (by decide) rfl (by decide) F (zal_a F hx0 (j := 4) rfl) hr dX5_nextFate_17 c2 ?_
    refine lv_topi (fun v3 ev3 => ?_)
    replace h := zl_sub ev3 h
    refine lv_istore_n (lv' := [(1, .int v3), (0, .ref (B 5 x0))]) F.1 F.2.1 dX5_nextFate_18 rfl hl (by decide) rfl (fun ls hl => ?_)
    refine lv_aload_n F.1 F.2.1 dX5_nextFate_19 rfl (lv_at hl 1 rfl) ?_
    refine lv_aload_n F.1 F.2.1 dX5_nextFate_20 rfl (lv_at hl 1 rfl) ?_
    refine gf5_32 F hx0 hr dX5_nextFate_21 ?_
    refine lv_iconst (v := (1 : Int32)) F.1 F.2.1 dX5_nextFate_24 (by decide) ?_
    refine lv_iadd F.1 F.2.1 dX5_nextFate_25 ?_
    refine lv_bipush (v := (63 : Int32)) F.1 F.2.1 dX5_nextFate_26 (by decide) ?_
    refine lv_iand F.1 F.2.1 dX5_nextFate_28 ?_
    refine pf5_32 F hx0 hr dX5_nextFate_29 (((zgI z 5 5 x0) + (1 : Int32)) &&& (63 : Int32)) (fun H locs z4 ez4 hr => ?_)
    replace h := zl_sub ez4 h
    clear ez4
    refine lv_aload_n F.1 F.2.1 dX5_nextFate_32 rfl (lv_at hl 1 rfl) ?_
    refine lv_dup F.1 F.2.1 dX5_nextFate_33 rfl ?_
    refine gf5_29 F hx0 hr dX5_nextFate_34 ?_
    refine lv_iconst (v := (1 : Int32)) F.1 F.2.1 dX5_nextFate_37 (by decide) ?_
    refine lv_isub F.1 F.2.1 dX5_nextFate_38 ?_
    refine pf5_29 F hx0 hr dX5_nextFate_39 ((zgI z4 5 6 x0) - (1 : Int32)) (fun H locs z5 ez5 hr => ?_)
    replace h := zl_sub ez5 h
    clear ez5
    refine lv_iload_n F.1 F.2.1 dX5_nextFate_42 rfl (lv_at hl 0 rfl) ?_
    obtain ⟨rfl, rfl⟩ := zret h
    exact E _ _ _ _ dX5_nextFate_43 trivial hr
  · replace h := zi_f (fun q => q c1) h
    refine lv_iconst (v := (0 : Int32)) F.1 F.2.1 dX5_nextFate_7 (by decide) ?_
    obtain ⟨rfl, rfl⟩ := zret h
    exact E _ _ _ _ dX5_nextFate_8 trivial hr
end SX5_nextFate
set_option maxRecDepth 100000 in
theorem okX5_nextFate (l : Launch) (D : va_G) (cy : Nat → ClassId) (B : Nat → Nat → Nat) (ids : List (Nat × Nat)) (hst : zSt B ids) (N : Nat) (x0 : Nat) (hx0 : (5, x0) ∈ ids) {z : St} {r : Int32} {z' : St} (hW : zWf ids z) (h : fX5_nextFate N x0 z = some (r, z')) : zM l yX5_nextFate (zws yX5_nextFate cX5_nextFate 2 (some .int)) rmX5_nextFate D cy B ids [.ref (B 5 x0)] (some (.int r)) True z z' :=
  zM_of hst hW (by decide +kernel) (Nat.le_of_ble_eq_true rfl) (fun p e s m args below meth c A ls F hA hret hlocks hr hl => bX5_nextFate_0 hst F hA (zEnd_i F hret hlocks) x0 hx0 hr hl h)
abbrev rmX5_addressOf : Room := { frames := 0, cells := 0, slots := 0, locals := 0 }
theorem hdX5_addressOf : yX5_addressOf.cls ≠ "java/lang/invoke/MethodHandle" ∧ yX5_addressOf.cls ≠ "java/lang/invoke/VarHandle" ∧ (parseMethodDescriptor yX5_addressOf.desc).map (fun d => d.parameters.length) = some 1 := by decide +kernel
section SX5_addressOf
variable {p : Program} {l : Launch} {e : Env} {s : State} {m : MethodId} {args : Array Value} {below : List Frame} {meth : Method} {c : Code} {Q : State → Prop} {D : va_G} {cy : Nat → ClassId} {B : Nat → Nat → Nat} {ids : List (Nat × Nat)} {A : Nat → Prop}
def fX5_addressOf (N : Nat)  (x0 : Nat) (x1 : Int32) (z : St) : Option (Int32 × St) := some (((((167772160 : Int32) + ((zgI z 5 0 x0) <<< ((16 : Int32) &&& 31))) + x1) + (1 : Int32)), z)
set_option maxHeartbeats 4000000 in
set_option maxRecDepth 100000 in
theorem bX5_addressOf_0 (hst : zSt B ids) (F : zFx p m c cX5_addressOf 2 s args RX5 D cy B ids A) (hA : ∀ q : Nat, s.heap.size ≤ q → A q) {r : Int32} {z' : St} (E : zEnd p l e rmX5_addressOf s m args below meth c cX5_addressOf D cy B ids A Q (some (.int r)) z' .ireturn True) {N : Nat}  (x0 : Nat) (x1 : Int32) (hx0 : (5, x0) ∈ ids) {z : St} {H : Heap} {locs : List Loc} {ls : Array Slot} (hr : zRep D cy B ids A s.heap z H locs) (hl : lv_has ls 2 [(0, .ref (B 5 x0)), (1, .int x1)]) (h : fX5_addressOf N x0 x1 z = some (r, z')) : W p l e rmX5_addressOf s m args below meth c H locs 0 0 Q (F0 m 0 ls []) := by
  unfold fX5_addressOf at h
  refine lv_ldc (v := (167772160)) F.1 F.2.1 F.2.2.2.1 (F.2.2.2.2.1 _ zq_1447) dX5_addressOf_0 ?_
  refine lv_aload_n F.1 F.2.1 dX5_addressOf_2 rfl (lv_at hl 0 rfl) ?_
  refine gf5_25 F hx0 hr dX5_addressOf_3 ?_
  refine lv_bipush (v := (16 : Int32)) F.1 F.2.1 dX5_addressOf_6 (by decide) ?_
  refine lv_ishl F.1 F.2.1 dX5_addressOf_8 ?_
  refine lv_iadd F.1 F.2.1 dX5_addressOf_9 ?_
  refine lv_iload_n F.1 F.2.1 dX5_addressOf_10 rfl (lv_at hl 1 rfl) ?_
  refine lv_iadd F.1 F.2.1 dX5_addressOf_11 ?_
  refine lv_iconst (v := (1 : Int32)) F.1 F.2.1 dX5_addressOf_12 (by decide) ?_
  refine lv_iadd F.1 F.2.1 dX5_addressOf_13 ?_
  obtain ⟨rfl, rfl⟩ := zret h
  exact E _ _ _ _ dX5_addressOf_14 trivial hr
end SX5_addressOf
set_option maxRecDepth 100000 in
theorem okX5_addressOf (l : Launch) (D : va_G) (cy : Nat → ClassId) (B : Nat → Nat → Nat) (ids : List (Nat × Nat)) (hst : zSt B ids) (N : Nat) (x0 : Nat) (hx0 : (5, x0) ∈ ids) (x1 : Int32) {z : St} {r : Int32} {z' : St} (hW : zWf ids z) (h : fX5_addressOf N x0 x1 z = some (r, z')) : zM l yX5_addressOf (zws yX5_addressOf cX5_addressOf 2 (some .int)) rmX5_addressOf D cy B ids [.ref (B 5 x0), .int x1] (some (.int r)) True z z' :=
  zM_of hst hW (by decide +kernel) (Nat.le_of_ble_eq_true rfl) (fun p e s m args below meth c A ls F hA hret hlocks hr hl => bX5_addressOf_0 hst F hA (zEnd_i F hret hlocks) x0 x1 hx0 hr hl h)
abbrev rmX5_leastRouter : Room := { frames := 0, cells := 0, slots := 0, locals := 0 }
theorem hdX5_leastRouter : yX5_leastRouter.cls ≠ "java/lang/invoke/MethodHandle" ∧ yX5_leastRouter.cls ≠ "java/lang/invoke/VarHandle" ∧ (parseMethodDescriptor yX5_leastRouter.desc).map (fun d => d.parameters.length) = some 0 := by decide +kernel
section SX5_leastRouter
variable {p : Program} {l : Launch} {e : Env} {s : State} {m : MethodId} {args : Array Value} {below : List Frame} {meth : Method} {c : Code} {Q : State → Prop} {D : va_G} {cy : Nat → ClassId} {B : Nat → Nat → Nat} {ids : List (Nat × Nat)} {A : Nat → Prop}
def fX5_leastRouter_2b (N : Nat) (K2 : Nat → Int32 → St → Option (Int32 × St)) (x0 : Nat) (x1 : Int32) (z : St) : Option (Int32 × St) := if (zgI z 5 8 x0) ≤ x1 then (some ((-1 : Int32), z)) else (zk x1 8 <| zl (zgQ z 123 x0 (Int32.toNatClampNeg x1)) fun y3 => zd y3 fun a4 => zl (zgR z 8 0 a4) fun y5 => zd y5 fun a6 => if (zgI z 1 1 a6) = 0 then (zl (x1 + 1) fun v8 => K2 x0 v8 z) else (some (x1, z)))
def fX5_leastRouter_2 (N : Nat)  : Nat → Nat → Int32 → St → Option (Int32 × St)
  | 0 => fun _ _ _ => none
  | n + 1 => fX5_leastRouter_2b N (fX5_leastRouter_2 N  n)
set_option maxHeartbeats 4000000 in
set_option maxRecDepth 100000 in
theorem bX5_leastRouter_2 (hst : zSt B ids) (F : zFx p m c cX5_leastRouter 2 s args RX5 D cy B ids A) (hA : ∀ q : Nat, s.heap.size ≤ q → A q) {r : Int32} {z' : St} (E : zEnd p l e rmX5_leastRouter s m args below meth c cX5_leastRouter D cy B ids A Q (some (.int r)) z' .ireturn True) {N : Nat} {K2 : Nat → Int32 → St → Option (Int32 × St)} (hK2 : ∀ (x0 : Nat) (x1 : Int32) (hx0 : (5, x0) ∈ ids) {z : St} {H : Heap} {locs : List Loc} {ls : Array Slot} (hr : zRep D cy B ids A s.heap z H locs) (hl : lv_has ls 2 [(0, .ref (B 5 x0)), (1, .int x1)]), K2 x0 x1 z = some (r, z') → W p l e rmX5_leastRouter s m args below meth c H locs 0 0 Q (F0 m 2 ls [])) (x0 : Nat) (x1 : Int32) (hx0 : (5, x0) ∈ ids) {z : St} {H : Heap} {locs : List Loc} {ls : Array Slot} (hr : zRep D cy B ids A s.heap z H locs) (hl : lv_has ls 2 [(0, .ref (B 5 x0)), (1, .int x1)]) (h : fX5_leastRouter_2b N K2 x0 x1 z = some (r, z')) : W p l e rmX5_leastRouter s m args below meth c H locs 0 0 Q (F0 m 2 ls []) := by
  unfold fX5_leastRouter_2b at h
  refine lv_iload_n F.1 F.2.1 dX5_leastRouter_2 rfl (lv_at hl 1 rfl) ?_
  refine lv_aload_n F.1 F.2.1 dX5_leastRouter_3 rfl (lv_at hl 0 rfl) ?_
  refine gf5_36 F hx0 hr dX5_leastRouter_4 ?_
  refine lv_icmp_ge (tgt := 33) F.1 F.2.1 dX5_leastRouter_7 (by decide) (fun c1 => ?_) (fun c1 => ?_)
  · replace h := zi_t c1 h
    refine lv_iconst (v := (-1 : Int32)) F.1 F.2.1 dX5_leastRouter_33 (by decide) ?_
    obtain ⟨rfl, rfl⟩ := zret h
    exact E _ _ _ _ dX5_leastRouter_34 trivial hr
  · replace h := zi_f c1 h
    refine lv_aload_n F.1 F.2.1 dX5_leastRouter_10 rfl (lv_at hl 0 rfl) ?_
    refine gf5_21 F hx0 hr dX5_leastRouter_11 ?_
    refine lv_iload_n F.1 F.2.1 dX5_leastRouter_14 rfl (lv_at hl 1 rfl) ?_
    replace h := zk_some h
    obtain ⟨c2, h⟩ := h
    refine zr_aaldv (k := 123) (by decide) rfl rfl (zlen_d (by decide)) F (zal_a F hx0 (j := 7) rfl) hr dX5_leastRouter_15 c2 (fun y3 ey3 => ?_)
    replace h := zl_sub ey3 h
    have hy3 := zal_q hr (zal_a F hx0 (j := 7) rfl) rfl ey3
    clear ey3
    replace h := zd_some h
    obtain ⟨a4, rfl, h⟩ := h
    refine gf5_39 F (hy3 _ rfl) hr dX5_leastRouter_16 (fun y5 ey5 => ?_)
    replace h := zl_sub ey5 h
    have hy5 := zal_g hr (hy3 _ rfl) (j := 0) rfl ey5
    clear ey5
    replace h := zd_some h
    obtain ⟨a6, rfl, h⟩ := h
    refine gf5_43 F (hy5 _ rfl) hr dX5_leastRouter_19 ?_
    refine lv_if_eq (tgt := 27) F.1 F.2.1 dX5_leastRouter_22 (by decide) (fun c7 => ?_) (fun c7 => ?_)
    · replace h := zi_t c7 h
      obtain ⟨v8, ev8⟩ : ∃ y : Int32, y = (x1 + 1) := ⟨_, rfl⟩
      replace h := zl_sub ev8 h
      refine lv_iinc (v := v8) (lv' := [(1, .int v8), (0, .ref (B 5 x0))]) F.1 F.2.1 dX5_leastRouter_27 hl (k := 1) rfl (by rw [ev8]; rfl) (by decide) rfl (fun ls hl => ?_)
      refine lv_goto (tgt := 2) F.1 F.2.1 dX5_leastRouter_30 (by decide) ?_
      exact hK2 x0 v8 hx0 hr (lv_sub hl [1, 0] rfl) h
    · replace h := zi_f c7 h
      refine lv_iload_n F.1 F.2.1 dX5_leastRouter_25 rfl (lv_at hl 1 rfl) ?_
      obtain ⟨rfl, rfl⟩ := zret h
      exact E _ _ _ _ dX5_leastRouter_26 trivial hr
theorem lX5_leastRouter_2 (hst : zSt B ids) (F : zFx p m c cX5_leastRouter 2 s args RX5 D cy B ids A) (hA : ∀ q : Nat, s.heap.size ≤ q → A q) {r : Int32} {z' : St} (E : zEnd p l e rmX5_leastRouter s m args below meth c cX5_leastRouter D cy B ids A Q (some (.int r)) z' .ireturn True) {N : Nat}  : ∀ (n : Nat) (x0 : Nat) (x1 : Int32) (hx0 : (5, x0) ∈ ids) {z : St} {H : Heap} {locs : List Loc} {ls : Array Slot} (hr : zRep D cy B ids A s.heap z H locs) (hl : lv_has ls 2 [(0, .ref (B 5 x0)), (1, .int x1)]), fX5_leastRouter_2 N  n x0 x1 z = some (r, z') → W p l e rmX5_leastRouter s m args below meth c H locs 0 0 Q (F0 m 2 ls []) := by
  intro n
  induction n with
  | zero => intro x0 x1 hx0 z H locs ls hr hl h; cases h
  | succ n ih => intro x0 x1 hx0 z H locs ls hr hl h; exact bX5_leastRouter_2 hst F hA E ih x0 x1 hx0 hr hl h
def fX5_leastRouter (N : Nat)  (x0 : Nat) (z : St) : Option (Int32 × St) := fX5_leastRouter_2 N N x0 (0 : Int32) z
set_option maxHeartbeats 4000000 in
set_option maxRecDepth 100000 in
theorem bX5_leastRouter_0 (hst : zSt B ids) (F : zFx p m c cX5_leastRouter 2 s args RX5 D cy B ids A) (hA : ∀ q : Nat, s.heap.size ≤ q → A q) {r : Int32} {z' : St} (E : zEnd p l e rmX5_leastRouter s m args below meth c cX5_leastRouter D cy B ids A Q (some (.int r)) z' .ireturn True) {N : Nat}  (x0 : Nat) (hx0 : (5, x0) ∈ ids) {z : St} {H : Heap} {locs : List Loc} {ls : Array Slot} (hr : zRep D cy B ids A s.heap z H locs) (hl : lv_has ls 2 [(0, .ref (B 5 x0))]) (h : fX5_leastRouter N x0 z = some (r, z')) : W p l e rmX5_leastRouter s m args below meth c H locs 0 0 Q (F0 m 0 ls []) := by
  unfold fX5_leastRouter at h
  refine lv_iconst (v := (0 : Int32)) F.1 F.2.1 dX5_leastRouter_0 (by decide) ?_
  refine lv_istore_n (lv' := [(1, .int (0 : Int32)), (0, .ref (B 5 x0))]) F.1 F.2.1 dX5_leastRouter_1 rfl hl (by decide) rfl (fun ls hl => ?_)
  exact lX5_leastRouter_2 hst F hA E  _ x0 (0 : Int32) hx0 hr (lv_sub hl [1, 0] rfl) h
end SX5_leastRouter
set_option maxRecDepth 100000 in
theorem okX5_leastRouter (l : Launch) (D : va_G) (cy : Nat → ClassId) (B : Nat → Nat → Nat) (ids : List (Nat × Nat)) (hst : zSt B ids) (N : Nat) (x0 : Nat) (hx0 : (5, x0) ∈ ids) {z : St} {r : Int32} {z' : St} (hW : zWf ids z) (h : fX5_leastRouter N x0 z = some (r, z')) : zM l yX5_leastRouter (zws yX5_leastRouter cX5_leastRouter 2 (some .int)) rmX5_leastRouter D cy B ids [.ref (B 5 x0)] (some (.int r)) True z z' :=
  zM_of hst hW (by decide +kernel) (Nat.le_of_ble_eq_true rfl) (fun p e s m args below meth c A ls F hA hret hlocks hr hl => bX5_leastRouter_0 hst F hA (zEnd_i F hret hlocks) x0 hx0 hr hl h)
abbrev rmX6_add : Room := { frames := 0, cells := 0, slots := 0, locals := 0 }
theorem hdX6_add : yX6_add.cls ≠ "java/lang/invoke/MethodHandle" ∧ yX6_add.cls ≠ "java/lang/invoke/VarHandle" ∧ (parseMethodDescriptor yX6_add.desc).map (fun d => d.parameters.length) = some 1 := by decide +kernel
section SX6_add
variable {p : Program} {l : Launch} {e : Env} {s : State} {m : MethodId} {args : Array Value} {below : List Frame} {meth : Method} {c : Code} {Q : State → Prop} {D : va_G} {cy : Nat → ClassId} {B : Nat → Nat → Nat} {ids : List (Nat × Nat)} {A : Nat → Prop}
def fX6_add (N : Nat)  (x0 : Nat) (x1 : Int32) (z : St) : Option (Int32 × St) := if (zgI z 6 2 x0) < (2048 : Int32) then (zk (((zgI z 6 1 x0) + (zgI z 6 2 x0)) &&& (2047 : Int32)) 2048 <| zl (zsA z 124 x0 (Int32.toNatClampNeg (((zgI z 6 1 x0) + (zgI z 6 2 x0)) &&& (2047 : Int32))) (vp_nar .byte ((Int32.toInt8 x1).toInt32))) fun z3 => zl (zsI z3 6 2 x0 ((zgI z3 6 2 x0) + (1 : Int32))) fun z4 => some (0, z4)) else (some (0, z))
set_option maxHeartbeats 4000000 in
set_option maxRecDepth 100000 in
theorem bX6_add_0 (hst : zSt B ids) (F : zFx p m c cX6_add 2 s args RX6 D cy B ids A) (hA : ∀ q : Nat, s.heap.size ≤ q → A q) {r : Int32} {z' : St} (E : zEnd p l e rmX6_add s m args below meth c cX6_add D cy B ids A Q none z' .return_ True) {N : Nat}  (x0 : Nat) (x1 : Int32) (hx0 : (6, x0) ∈ ids) {z : St} {H : Heap} {locs : List Loc} {ls : Array Slot} (hr : zRep D cy B ids A s.heap z H locs) (hl : lv_has ls 2 [(0, .ref (B 6 x0)), (1, .int x1)]) (h : fX6_add N x0 x1 z = some (r, z')) : W p l e rmX6_add s m args below meth c H locs 0 0 Q (F0 m 0 ls []) := by
  unfold fX6_add at h
  refine lv_aload_n F.1 F.2.1 dX6_add_0 rfl (lv_at hl 0 rfl) ?_
  refine gf6_19 F hx0 hr dX6_add_1 ?_
  refine lv_sipush (v := (2048 : Int32)) F.1 F.2.1 dX6_add_4 (by decide) ?_
  refine lv_icmp_lt (tgt := 11) F.1 F.2.1 dX6_add_7 (by decide) (fun c1 => ?_) (fun c1 => ?_)
  · replace h := zi_t c1 h
    refine lv_aload_n F.1 F.2.1 dX6_add_11 rfl (lv_at hl 0 rfl) ?_
    refine gf6_9 F hx0 hr dX6_add_12 ?_
    refine lv_aload_n F.1 F.2.1 dX6_add_15 rfl (lv_at hl 0 rfl) ?_
    refine gf6_15 F hx0 hr dX6_add_16 ?_
    refine lv_aload_n F.1 F.2.1 dX6_add_19 rfl (lv_at hl 0 rfl) ?_
    refine gf6_19 F hx0 hr dX6_add_20 ?_
    refine lv_iadd F.1 F.2.1 dX6_add_23 ?_
    refine lv_sipush (v := (2047 : Int32)) F.1 F.2.1 dX6_add_24 (by decide) ?_
    refine lv_iand F.1 F.2.1 dX6_add_27 ?_
    refine lv_iload_n F.1 F.2.1 dX6_add_28 rfl (lv_at hl 1 rfl) ?_
    refine lv_i2b F.1 F.2.1 dX6_add_29 rfl ?_
    replace h := zk_some h
    obtain ⟨c2, h⟩ := h
    refine zr_bast (k := 124) (by decide) rfl (by decide) F (zal_a F hx0 (j := 0) rfl) hr dX6_add_30 c2 (fun H locs z3 ez3 hr => ?_)
    replace h := zl_sub ez3 h
    clear ez3
    refine lv_aload_n F.1 F.2.1 dX6_add_31 rfl (lv_at hl 0 rfl) ?_
    refine lv_dup F.1 F.2.1 dX6_add_32 rfl ?_
    refine gf6_19 F hx0 hr dX6_add_33 ?_
    refine lv_iconst (v := (1 : Int32)) F.1 F.2.1 dX6_add_36 (by decide) ?_
    refine lv_iadd F.1 F.2.1 dX6_add_37 ?_
    refine pf6_19 F hx0 hr dX6_add_38 ((zgI z3 6 2 x0) + (1 : Int32)) (fun H locs z4 ez4 hr => ?_)
    replace h := zl_sub ez4 h
    clear ez4
    obtain ⟨rfl, rfl⟩ := zret h
    exact E _ _ _ _ dX6_add_41 trivial hr
  · replace h := zi_f c1 h
    obtain ⟨rfl, rfl⟩ := zret h
    exact E _ _ _ _ dX6_add_10 trivial hr
end SX6_add
set_option maxRecDepth 100000 in
theorem okX6_add (l : Launch) (D : va_G) (cy : Nat → ClassId) (B : Nat → Nat → Nat) (ids : List (Nat × Nat)) (hst : zSt B ids) (N : Nat) (x0 : Nat) (hx0 : (6, x0) ∈ ids) (x1 : Int32) {z : St} {r : Int32} {z' : St} (hW : zWf ids z) (h : fX6_add N x0 x1 z = some (r, z')) : zM l yX6_add (zws yX6_add cX6_add 2 none) rmX6_add D cy B ids [.ref (B 6 x0), .int x1] none True z z' :=
  zM_of hst hW (by decide +kernel) (Nat.le_of_ble_eq_true rfl) (fun p e s m args below meth c A ls F hA hret hlocks hr hl => bX6_add_0 hst F hA (zEnd_v F hret hlocks) x0 x1 hx0 hr hl h)
abbrev rmX7_get4 : Room := { frames := 1, cells := 0, slots := 0, locals := 21 }
theorem hdX7_get4 : yX7_get4.cls ≠ "java/lang/invoke/MethodHandle" ∧ yX7_get4.cls ≠ "java/lang/invoke/VarHandle" ∧ (parseMethodDescriptor yX7_get4.desc).map (fun d => d.parameters.length) = some 1 := by decide +kernel
theorem hroX7_get4_X7_get2 : rmX7_get2.frames + 1 ≤ rmX7_get4.frames ∧ 8 + (2 + 11) + rmX7_get2.locals ≤ rmX7_get4.locals := by decide
section SX7_get4
variable {p : Program} {l : Launch} {e : Env} {s : State} {m : MethodId} {args : Array Value} {below : List Frame} {meth : Method} {c : Code} {Q : State → Prop} {D : va_G} {cy : Nat → ClassId} {B : Nat → Nat → Nat} {ids : List (Nat × Nat)} {A : Nat → Prop}
def fX7_get4 (N : Nat)  (x0 : Nat) (x1 : Int32) (z : St) : Option (Int32 × St) := zc (fX7_get2 N x0 x1 z) fun r1 z2 => zc (fX7_get2 N x0 (x1 + (2 : Int32)) z2) fun r5 z6 => some (((r1 <<< ((16 : Int32) &&& 31)) ||| r5), z6)
set_option maxHeartbeats 4000000 in
set_option maxRecDepth 100000 in
theorem bX7_get4_0 (hst : zSt B ids) (F : zFx p m c cX7_get4 2 s args RX7 D cy B ids A) (hA : ∀ q : Nat, s.heap.size ≤ q → A q) {r : Int32} {z' : St} (E : zEnd p l e rmX7_get4 s m args below meth c cX7_get4 D cy B ids A Q (some (.int r)) z' .ireturn True) {N : Nat}  (x0 : Nat) (x1 : Int32) (hx0 : (7, x0) ∈ ids) {z : St} {H : Heap} {locs : List Loc} {ls : Array Slot} (hr : zRep D cy B ids A s.heap z H locs) (hl : lv_has ls 2 [(0, .ref (B 7 x0)), (1, .int x1)]) (h : fX7_get4 N x0 x1 z = some (r, z')) : W p l e rmX7_get4 s m args below meth c H locs 0 0 Q (F0 m 0 ls []) := by
  unfold fX7_get4 at h
  refine lv_aload_n F.1 F.2.1 dX7_get4_0 rfl (lv_at hl 0 rfl) ?_
  refine lv_iload_n F.1 F.2.1 dX7_get4_1 rfl (lv_at hl 1 rfl) ?_
  replace h := zc_some h
  obtain ⟨r1, z2, hc3, h⟩ := h
  refine zr_calli (zrun_V (As := [.int x1]) (rest := []) zq_1136 zq_1138 zs_X7_get2 zq_1139 zq_2 hdX7_get2 (by decide) (T := TX7) (N := 20) rfl (okX7_get2 l D cy B ids hst N x0 hx0 x1  hr.2.2 hc3) F hr hx0 hl.1 rfl (by decide) dX7_get4_2 rfl rfl hroX7_get4_X7_get2 ⟨Nat.zero_le _, Nat.zero_le _⟩) F hA hr (fun H locs hw4 hr => ?_)
  clear hc3
  refine lv_bipush (v := (16 : Int32)) F.1 F.2.1 dX7_get4_5 (by decide) ?_
  refine lv_ishl F.1 F.2.1 dX7_get4_7 ?_
  refine lv_aload_n F.1 F.2.1 dX7_get4_8 rfl (lv_at hl 0 rfl) ?_
  refine lv_iload_n F.1 F.2.1 dX7_get4_9 rfl (lv_at hl 1 rfl) ?_
  refine lv_iconst (v := (2 : Int32)) F.1 F.2.1 dX7_get4_10 (by decide) ?_
  refine lv_iadd F.1 F.2.1 dX7_get4_11 ?_
  replace h := zc_some h
  obtain ⟨r5, z6, hc7, h⟩ := h
  refine zr_calli (zrun_V (As := [.int (x1 + (2 : Int32))]) (rest := [.int (r1 <<< ((16 : Int32) &&& 31))]) zq_1136 zq_1138 zs_X7_get2 zq_1139 zq_2 hdX7_get2 (by decide) (T := TX7) (N := 20) rfl (okX7_get2 l D cy B ids hst N x0 hx0 (x1 + (2 : Int32))  hr.2.2 hc7) F hr hx0 hl.1 rfl (Nat.le_of_ble_eq_true rfl) dX7_get4_12 rfl rfl hroX7_get4_X7_get2 ⟨Nat.zero_le _, Nat.zero_le _⟩) F hA hr (fun H locs hw8 hr => ?_)
  clear hc7
  refine lv_ior F.1 F.2.1 dX7_get4_15 ?_
  obtain ⟨rfl, rfl⟩ := zret h
  exact E _ _ _ _ dX7_get4_16 trivial hr
end SX7_get4
set_option maxRecDepth 100000 in
theorem okX7_get4 (l : Launch) (D : va_G) (cy : Nat → ClassId) (B : Nat → Nat → Nat) (ids : List (Nat × Nat)) (hst : zSt B ids) (N : Nat) (x0 : Nat) (hx0 : (7, x0) ∈ ids) (x1 : Int32) {z : St} {r : Int32} {z' : St} (hW : zWf ids z) (h : fX7_get4 N x0 x1 z = some (r, z')) : zM l yX7_get4 (zws yX7_get4 cX7_get4 2 (some .int)) rmX7_get4 D cy B ids [.ref (B 7 x0), .int x1] (some (.int r)) True z z' :=
  zM_of hst hW (by decide +kernel) (Nat.le_of_ble_eq_true rfl) (fun p e s m args below meth c A ls F hA hret hlocks hr hl => bX7_get4_0 hst F hA (zEnd_i F hret hlocks) x0 x1 hx0 hr hl h)
abbrev rmX7_readHead : Room := { frames := 2, cells := 0, slots := 0, locals := 42 }
theorem hdX7_readHead : yX7_readHead.cls ≠ "java/lang/invoke/MethodHandle" ∧ yX7_readHead.cls ≠ "java/lang/invoke/VarHandle" ∧ (parseMethodDescriptor yX7_readHead.desc).map (fun d => d.parameters.length) = some 0 := by decide +kernel
theorem hroX7_readHead_X7_get2 : rmX7_get2.frames + 1 ≤ rmX7_readHead.frames ∧ 8 + (2 + 11) + rmX7_get2.locals ≤ rmX7_readHead.locals := by decide
theorem hroX7_readHead_X7_get4 : rmX7_get4.frames + 1 ≤ rmX7_readHead.frames ∧ 8 + (2 + 11) + rmX7_get4.locals ≤ rmX7_readHead.locals := by decide
section SX7_readHead
variable {p : Program} {l : Launch} {e : Env} {s : State} {m : MethodId} {args : Array Value} {below : List Frame} {meth : Method} {c : Code} {Q : State → Prop} {D : va_G} {cy : Nat → ClassId} {B : Nat → Nat → Nat} {ids : List (Nat × Nat)} {A : Nat → Prop}
def fX7_readHead (N : Nat)  (x0 : Nat) (z : St) : Option (Int32 × St) := zc (fX7_get4 N x0 (4 : Int32) z) fun r1 z2 => zl (zsI z2 7 16 x0 r1) fun z5 => zc (fX7_get4 N x0 (8 : Int32) z5) fun r6 z7 => zl (zsI z7 7 17 x0 r6) fun z10 => zc (fX7_get2 N x0 (12 : Int32) z10) fun r11 z12 => zl (zsI z12 7 15 x0 r11) fun z15 => zc (fX7_get2 N x0 (14 : Int32) z15) fun r16 z17 => zl (zsI z17 7 18 x0 r16) fun z20 => zc (fX7_get2 N x0 (16 : Int32) z20) fun r21 z22 => zl (zsI z22 7 19 x0 r21) fun z25 => some (0, z25)
set_option maxHeartbeats 4000000 in
set_option maxRecDepth 100000 in
theorem bX7_readHead_0 (hst : zSt B ids) (F : zFx p m c cX7_readHead 1 s args RX7 D cy B ids A) (hA : ∀ q : Nat, s.heap.size ≤ q → A q) {r : Int32} {z' : St} (E : zEnd p l e rmX7_readHead s m args below meth c cX7_readHead D cy B ids A Q none z' .return_ True) {N : Nat}  (x0 : Nat) (hx0 : (7, x0) ∈ ids) {z : St} {H : Heap} {locs : List Loc} {ls : Array Slot} (hr : zRep D cy B ids A s.heap z H locs) (hl : lv_has ls 1 [(0, .ref (B 7 x0))]) (h : fX7_readHead N x0 z = some (r, z')) : W p l e rmX7_readHead s m args below meth c H locs 0 0 Q (F0 m 0 ls []) := by
  unfold fX7_readHead at h
  refine lv_aload_n F.1 F.2.1 dX7_readHead_0 rfl (lv_at hl 0 rfl) ?_
  refine lv_aload_n F.1 F.2.1 dX7_readHead_1 rfl (lv_at hl 0 rfl) ?_
  refine lv_iconst (v := (4 : Int32)) F.1 F.2.1 dX7_readHead_2 (by decide) ?_
  replace h := zc_some h
  obtain ⟨r1, z2, hc3, h⟩ := h
  refine zr_calli (zrun_V (As := [.int (4 : Int32)]) (rest := [.ref (B 7 x0)]) zq_1219 zq_1134 zs_X7_get4 zq_1135 zq_2 hdX7_get4 (by decide) (T := TX7) (N := 20) rfl (okX7_get4 l D cy B ids hst N x0 hx0 (4 : Int32)  hr.2.2 hc3) F hr hx0 hl.1 rfl (Nat.le_of_ble_eq_true rfl) dX7_readHead_3 rfl rfl hroX7_readHead_X7_get4 ⟨Nat.zero_le _, Nat.zero_le _⟩) F hA hr (fun H locs hw4 hr => ?_)
  clear hc3
  refine pf7_69 F hx0 hr dX7_readHead_6 r1 (fun H locs z5 ez5 hr => ?_)
  replace h := zl_sub ez5 h
  clear ez5
  refine lv_aload_n F.1 F.2.1 dX7_readHead_9 rfl (lv_at hl 0 rfl) ?_
  refine lv_aload_n F.1 F.2.1 dX7_readHead_10 rfl (lv_at hl 0 rfl) ?_
  refine lv_bipush (v := (8 : Int32)) F.1 F.2.1 dX7_readHead_11 (by decide) ?_
  replace h := zc_some h
  obtain ⟨r6, z7, hc8, h⟩ := h
  refine zr_calli (zrun_V (As := [.int (8 : Int32)]) (rest := [.ref (B 7 x0)]) zq_1219 zq_1134 zs_X7_get4 zq_1135 zq_2 hdX7_get4 (by decide) (T := TX7) (N := 20) rfl (okX7_get4 l D cy B ids hst N x0 hx0 (8 : Int32)  hr.2.2 hc8) F hr hx0 hl.1 rfl (Nat.le_of_ble_eq_true rfl) dX7_readHead_13 rfl rfl hroX7_readHead_X7_get4 ⟨Nat.zero_le _, Nat.zero_le _⟩) F hA hr (fun H locs hw9 hr => ?_)
  clear hc8
  refine pf7_72 F hx0 hr dX7_readHead_16 r6 (fun H locs z10 ez10 hr => ?_)
  replace h := zl_sub ez10 h
  clear ez10
  refine lv_aload_n F.1 F.2.1 dX7_readHead_19 rfl (lv_at hl 0 rfl) ?_
  refine lv_aload_n F.1 F.2.1 dX7_readHead_20 rfl (lv_at hl 0 rfl) ?_
  refine lv_bipush (v := (12 : Int32)) F.1 F.2.1 dX7_readHead_21 (by decide) ?_
  replace h := zc_some h
  obtain ⟨r11, z12, hc13, h⟩ := h
  refine zr_calli (zrun_V (As := [.int (12 : Int32)]) (rest := [.ref (B 7 x0)]) zq_1136 zq_1138 zs_X7_get2 zq_1139 zq_2 hdX7_get2 (by decide) (T := TX7) (N := 20) rfl (okX7_get2 l D cy B ids hst N x0 hx0 (12 : Int32)  hr.2.2 hc13) F hr hx0 hl.1 rfl (Nat.le_of_ble_eq_true rfl) dX7_readHead_23 rfl rfl hroX7_readHead_X7_get2 ⟨Nat.zero_le _, Nat.zero_le _⟩) F hA hr (fun H locs hw14 hr => ?_)
  clear hc13
  refine pf7_75 F hx0 hr dX7_readHead_26 r11 (fun H locs z15 ez15 hr => ?_)
  replace h := zl_sub ez15 h
  clear ez15
  refine lv_aload_n F.1 F.2.1 dX7_readHead_29 rfl (lv_at hl 0 rfl) ?_
  refine lv_aload_n F.1 F.2.1 dX7_readHead_30 rfl (lv_at hl 0 rfl) ?_
  refine lv_bipush (v := (14 : Int32)) F.1 F.2.1 dX7_readHead_31 (by decide) ?_
  replace h := zc_some h
  obtain ⟨r16, z17, hc18, h⟩ := h
  refine zr_calli (zrun_V (As := [.int (14 : Int32)]) (rest := [.ref (B 7 x0)]) zq_1136 zq_1138 zs_X7_get2 zq_1139 zq_2 hdX7_get2 (by decide) (T := TX7) (N := 20) rfl (okX7_get2 l D cy B ids hst N x0 hx0 (14 : Int32)  hr.2.2 hc18) F hr hx0 hl.1 rfl (Nat.le_of_ble_eq_true rfl) dX7_readHead_33 rfl rfl hroX7_readHead_X7_get2 ⟨Nat.zero_le _, Nat.zero_le _⟩) F hA hr (fun H locs hw19 hr => ?_)
  clear hc18
  refine pf7_78 F hx0 hr dX7_readHead_36 r16 (fun H locs z20 ez20 hr => ?_)
  replace h := zl_sub ez20 h
  clear ez20
  refine lv_aload_n F.1 F.2.1 dX7_readHead_39 rfl (lv_at hl 0 rfl) ?_
  refine lv_aload_n F.1 F.2.1 dX7_readHead_40 rfl (lv_at hl 0 rfl) ?_
  refine lv_bipush (v := (16 : Int32)) F.1 F.2.1 dX7_readHead_41 (by decide) ?_
  replace h := zc_some h
  obtain ⟨r21, z22, hc23, h⟩ := h
  refine zr_calli (zrun_V (As := [.int (16 : Int32)]) (rest := [.ref (B 7 x0)]) zq_1136 zq_1138 zs_X7_get2 zq_1139 zq_2 hdX7_get2 (by decide) (T := TX7) (N := 20) rfl (okX7_get2 l D cy B ids hst N x0 hx0 (16 : Int32)  hr.2.2 hc23) F hr hx0 hl.1 rfl (Nat.le_of_ble_eq_true rfl) dX7_readHead_43 rfl rfl hroX7_readHead_X7_get2 ⟨Nat.zero_le _, Nat.zero_le _⟩) F hA hr (fun H locs hw24 hr => ?_)
  clear hc23
  refine pf7_81 F hx0 hr dX7_readHead_46 r21 (fun H locs z25 ez25 hr => ?_)
  replace h := zl_sub ez25 h
  clear ez25
  obtain ⟨rfl, rfl⟩ := zret h
  exact E _ _ _ _ dX7_readHead_49 trivial hr
end SX7_readHead
set_option maxRecDepth 100000 in
theorem okX7_readHead (l : Launch) (D : va_G) (cy : Nat → ClassId) (B : Nat → Nat → Nat) (ids : List (Nat × Nat)) (hst : zSt B ids) (N : Nat) (x0 : Nat) (hx0 : (7, x0) ∈ ids) {z : St} {r : Int32} {z' : St} (hW : zWf ids z) (h : fX7_readHead N x0 z = some (r, z')) : zM l yX7_readHead (zws yX7_readHead cX7_readHead 1 none) rmX7_readHead D cy B ids [.ref (B 7 x0)] none True z z' :=
  zM_of hst hW (by decide +kernel) (Nat.le_of_ble_eq_true rfl) (fun p e s m args below meth c A ls F hA hret hlocks hr hl => bX7_readHead_0 hst F hA (zEnd_v F hret hlocks) x0 hx0 hr hl h)
abbrev rmX8_knows : Room := { frames := 0, cells := 0, slots := 0, locals := 0 }
theorem hdX8_knows : yX8_knows.cls ≠ "java/lang/invoke/MethodHandle" ∧ yX8_knows.cls ≠ "java/lang/invoke/VarHandle" ∧ (parseMethodDescriptor yX8_knows.desc).map (fun d => d.parameters.length) = some 2 := by decide +kernel
section SX8_knows
variable {p : Program} {l : Launch} {e : Env} {s : State} {m : MethodId} {args : Array Value} {below : List Frame} {meth : Method} {c : Code} {Q : State → Prop} {D : va_G} {cy : Nat → ClassId} {B : Nat → Nat → Nat} {ids : List (Nat × Nat)} {A : Nat → Prop}
def fX8_knows (N : Nat)  (x0 : Nat) (x1 : Int32) (x2 : Int32) (z : St) : Option (Int32 × St) := zk x1 8 <| if (zgA z 126 x0 (Int32.toNatClampNeg x1)) ≤ 0 then (some ((0 : Int32), z)) else (zk x1 8 <| if (2500 : Int32) < (x2 - (zgA z 126 x0 (Int32.toNatClampNeg x1))) then (some ((0 : Int32), z)) else (some ((1 : Int32), z)))
set_option maxHeartbeats 4000000 in
set_option maxRecDepth 100000 in
theorem bX8_knows_0 (hst : zSt B ids) (F : zFx p m c cX8_knows 3 s args RX8 D cy B ids A) (hA : ∀ q : Nat, s.heap.size ≤ q → A q) {r : Int32} {z' : St} (E : zEnd p l e rmX8_knows s m args below meth c cX8_knows D cy B ids A Q (some (.int r)) z' .ireturn (r = 0 ∨ r = 1)) {N : Nat}  (x0 : Nat) (x1 : Int32) (x2 : Int32) (hx0 : (8, x0) ∈ ids) {z : St} {H : Heap} {locs : List Loc} {ls : Array Slot} (hr : zRep D cy B ids A s.heap z H locs) (hl : lv_has ls 3 [(0, .ref (B 8 x0)), (1, .int x1), (2, .int x2)]) (h : fX8_knows N x0 x1 x2 z = some (r, z')) : W p l e rmX8_knows s m args below meth c H locs 0 0 Q (F0 m 0 ls []) := by
  unfold fX8_knows at h
  refine lv_aload_n F.1 F.2.1 dX8_knows_0 rfl (lv_at hl 0 rfl) ?_
  refine gf8_15 F hx0 hr dX8_knows_1 ?_
  refine lv_iload_n F.1 F.2.1 dX8_knows_4 rfl (lv_at hl 1 rfl) ?_
  replace h := zk_some h
  obtain ⟨c1, h⟩ := h
  refine zr_iald (k := 126) (by decide) rfl (by decide) F (zal_a F hx0 (j := 6) rfl) hr dX8_knows_5 c1 ?_
  refine lv_if_le (tgt := 27) F.1 F.2.1 dX8_knows_6 (by decide) (fun c2 => ?_) (fun c2 => ?_)
  · replace h := zi_t c2 h
    refine lv_iconst (v := (0 : Int32)) F.1 F.2.1 dX8_knows_27 (by decide) ?_
    obtain ⟨rfl, rfl⟩ := zret h
    exact E _ _ _ _ dX8_knows_28 (by decide) hr
  · replace h := zi_f c2 h
    refine lv_iload_n F.1 F.2.1 dX8_knows_9 rfl (lv_at hl 2 rfl) ?_
    refine lv_aload_n F.1 F.2.1 dX8_knows_10 rfl (lv_at hl 0 rfl) ?_
    refine gf8_15 F hx0 hr dX8_knows_11 ?_
    refine lv_iload_n F.1 F.2.1 dX8_knows_14 rfl (lv_at hl 1 rfl) ?_
    replace h := zk_some h
    obtain ⟨c3, h⟩ := h
    refine zr_iald (k := 126) (by decide) rfl (by decide) F (zal_a F hx0 (j := 6) rfl) hr dX8_knows_15 c3 ?_
    refine lv_isub F.1 F.2.1 dX8_knows_16 ?_
    refine lv_sipush (v := (2500 : Int32)) F.1 F.2.1 dX8_knows_17 (by decide) ?_
    refine lv_icmp_gt (tgt := 27) F.1 F.2.1 dX8_knows_20 (by decide) (fun c4 => ?_) (fun c4 => ?_)
    · replace h := zi_t c4 h
      refine lv_iconst (v := (0 : Int32)) F.1 F.2.1 dX8_knows_27 (by decide) ?_
      obtain ⟨rfl, rfl⟩ := zret h
      exact E _ _ _ _ dX8_knows_28 (by decide) hr
    · replace h := zi_f c4 h
      refine lv_iconst (v := (1 : Int32)) F.1 F.2.1 dX8_knows_23 (by decide) ?_
      refine lv_goto (tgt := 28) F.1 F.2.1 dX8_knows_24 (by decide) ?_
      obtain ⟨rfl, rfl⟩ := zret h
      exact E _ _ _ _ dX8_knows_28 (by decide) hr
end SX8_knows
set_option maxRecDepth 100000 in
theorem okX8_knows (l : Launch) (D : va_G) (cy : Nat → ClassId) (B : Nat → Nat → Nat) (ids : List (Nat × Nat)) (hst : zSt B ids) (N : Nat) (x0 : Nat) (hx0 : (8, x0) ∈ ids) (x1 : Int32) (x2 : Int32) {z : St} {r : Int32} {z' : St} (hW : zWf ids z) (h : fX8_knows N x0 x1 x2 z = some (r, z')) : zM l yX8_knows (zws yX8_knows cX8_knows 3 (some .boolean)) rmX8_knows D cy B ids [.ref (B 8 x0), .int x1, .int x2] (some (.int r)) (r = 0 ∨ r = 1) z z' :=
  zM_of hst hW (by decide +kernel) (Nat.le_of_ble_eq_true rfl) (fun p e s m args below meth c A ls F hA hret hlocks hr hl => bX8_knows_0 hst F hA (zEnd_z F hret hlocks) x0 x1 x2 hx0 hr hl h)
abbrev rmX8_isAsked : Room := { frames := 0, cells := 0, slots := 0, locals := 0 }
theorem hdX8_isAsked : yX8_isAsked.cls ≠ "java/lang/invoke/MethodHandle" ∧ yX8_isAsked.cls ≠ "java/lang/invoke/VarHandle" ∧ (parseMethodDescriptor yX8_isAsked.desc).map (fun d => d.parameters.length) = some 1 := by decide +kernel
section SX8_isAsked
variable {p : Program} {l : Launch} {e : Env} {s : State} {m : MethodId} {args : Array Value} {below : List Frame} {meth : Method} {c : Code} {Q : State → Prop} {D : va_G} {cy : Nat → ClassId} {B : Nat → Nat → Nat} {ids : List (Nat × Nat)} {A : Nat → Prop}
def fX8_isAsked (N : Nat)  (x0 : Nat) (x1 : Int32) (z : St) : Option (Int32 × St) := zk x1 8 <| if (zgA z 127 x0 (Int32.toNatClampNeg x1)) ≤ 0 then (some ((0 : Int32), z)) else (some ((1 : Int32), z))
set_option maxHeartbeats 4000000 in
set_option maxRecDepth 100000 in
theorem bX8_isAsked_0 (hst : zSt B ids) (F : zFx p m c cX8_isAsked 2 s args RX8 D cy B ids A) (hA : ∀ q : Nat, s.heap.size ≤ q → A q) {r : Int32} {z' : St} (E : zEnd p l e rmX8_isAsked s m args below meth c cX8_isAsked D cy B ids A Q (some (.int r)) z' .ireturn (r = 0 ∨ r = 1)) {N : Nat}  (x0 : Nat) (x1 : Int32) (hx0 : (8, x0) ∈ ids) {z : St} {H : Heap} {locs : List Loc} {ls : Array Slot} (hr : zRep D cy B ids A s.heap z H locs) (hl : lv_has ls 2 [(0, .ref (B 8 x0)), (1, .int x1)]) (h : fX8_isAsked N x0 x1 z = some (r, z')) : W p l e rmX8_isAsked s m args below meth c H locs 0 0 Q (F0 m 0 ls []) := by
  unfold fX8_isAsked at h
  refine lv_aload_n F.1 F.2.1 dX8_isAsked_0 rfl (lv_at hl 0 rfl) ?_
  refine gf8_19 F hx0 hr dX8_isAsked_1 ?_
  refine lv_iload_n F.1 F.2.1 dX8_isAsked_4 rfl (lv_at hl 1 rfl) ?_
  replace h := zk_some h
  obtain ⟨c1, h⟩ := h
  refine zr_iald (k := 127) (by decide) rfl (by decide) F (zal_a F hx0 (j := 7) rfl) hr dX8_isAsked_5 c1 ?_
  refine lv_if_le (tgt := 13) F.1 F.2.1 dX8_isAsked_6 (by decide) (fun c2 => ?_) (fun c2 => ?_)
  · replace h := zi_t c2 h
    refine lv_iconst (v := (0 : Int32)) F.1 F.2.1 dX8_isAsked_13 (by decide) ?_
    obtain ⟨rfl, rfl⟩ := zret h
    exact E _ _ _ _ dX8_isAsked_14 (by decide) hr
  · replace h := zi_f c2 h
    refine lv_iconst (v := (1 : Int32)) F.1 F.2.1 dX8_isAsked_9 (by decide) ?_
    refine lv_goto (tgt := 14) F.1 F.2.1 dX8_isAsked_10 (by decide) ?_
    obtain ⟨rfl, rfl⟩ := zret h
    exact E _ _ _ _ dX8_isAsked_14 (by decide) hr
end SX8_isAsked
set_option maxRecDepth 100000 in
theorem okX8_isAsked (l : Launch) (D : va_G) (cy : Nat → ClassId) (B : Nat → Nat → Nat) (ids : List (Nat × Nat)) (hst : zSt B ids) (N : Nat) (x0 : Nat) (hx0 : (8, x0) ∈ ids) (x1 : Int32) {z : St} {r : Int32} {z' : St} (hW : zWf ids z) (h : fX8_isAsked N x0 x1 z = some (r, z')) : zM l yX8_isAsked (zws yX8_isAsked cX8_isAsked 2 (some .boolean)) rmX8_isAsked D cy B ids [.ref (B 8 x0), .int x1] (some (.int r)) (r = 0 ∨ r = 1) z z' :=
  zM_of hst hW (by decide +kernel) (Nat.le_of_ble_eq_true rfl) (fun p e s m args below meth c A ls F hA hret hlocks hr hl => bX8_isAsked_0 hst F hA (zEnd_z F hret hlocks) x0 x1 hx0 hr hl h)
abbrev rmX8_beginAsking : Room := { frames := 0, cells := 0, slots := 0, locals := 0 }
theorem hdX8_beginAsking : yX8_beginAsking.cls ≠ "java/lang/invoke/MethodHandle" ∧ yX8_beginAsking.cls ≠ "java/lang/invoke/VarHandle" ∧ (parseMethodDescriptor yX8_beginAsking.desc).map (fun d => d.parameters.length) = some 2 := by decide +kernel
section SX8_beginAsking
variable {p : Program} {l : Launch} {e : Env} {s : State} {m : MethodId} {args : Array Value} {below : List Frame} {meth : Method} {c : Code} {Q : State → Prop} {D : va_G} {cy : Nat → ClassId} {B : Nat → Nat → Nat} {ids : List (Nat × Nat)} {A : Nat → Prop}
def fX8_beginAsking (N : Nat)  (x0 : Nat) (x1 : Int32) (x2 : Int32) (z : St) : Option (Int32 × St) := if (zgI z 8 9 x0) < (8 : Int32) then (zk x1 8 <| zl (zsA z 127 x0 (Int32.toNatClampNeg x1) x2) fun z3 => zk (zgI z3 8 9 x0) 8 <| zl (zsA z3 128 x0 (Int32.toNatClampNeg (zgI z3 8 9 x0)) x1) fun z5 => zl (zsI z5 8 9 x0 ((zgI z5 8 9 x0) + (1 : Int32))) fun z6 => some (0, z6)) else (some (0, z))
set_option maxHeartbeats 4000000 in
set_option maxRecDepth 100000 in
theorem bX8_beginAsking_0 (hst : zSt B ids) (F : zFx p m c cX8_beginAsking 3 s args RX8 D cy B ids A) (hA : ∀ q : Nat, s.heap.size ≤ q → A q) {r : Int32} {z' : St} (E : zEnd p l e rmX8_beginAsking s m args below meth c cX8_beginAsking D cy B ids A Q none z' .return_ True) {N : Nat}  (x0 : Nat) (x1 : Int32) (x2 : Int32) (hx0 : (8, x0) ∈ ids) {z : St} {H : Heap} {locs : List Loc} {ls : Array Slot} (hr : zRep D cy B ids A s.heap z H locs) (hl : lv_has ls 3 [(0, .ref (B 8 x0)), (1, .int x1), (2, .int x2)]) (h : fX8_beginAsking N x0 x1 x2 z = some (r, z')) : W p l e rmX8_beginAsking s m args below meth c H locs 0 0 Q (F0 m 0 ls []) := by
  unfold fX8_beginAsking at h
  refine lv_aload_n F.1 F.2.1 dX8_beginAsking_0 rfl (lv_at hl 0 rfl) ?_
  refine gf8_58 F hx0 hr dX8_beginAsking_1 ?_
  refine lv_bipush (v := (8 : Int32)) F.1 F.2.1 dX8_beginAsking_4 (by decide) ?_
  refine lv_icmp_lt (tgt := 10) F.1 F.2.1 dX8_beginAsking_6 (by decide) (fun c1 => ?_) (fun c1 => ?_)
  · replace h := zi_t c1 h
    refine lv_aload_n F.1 F.2.1 dX8_beginAsking_10 rfl (lv_at hl 0 rfl) ?_
    refine gf8_19 F hx0 hr dX8_beginAsking_11 ?_
    refine lv_iload_n F.1 F.2.1 dX8_beginAsking_14 rfl (lv_at hl 1 rfl) ?_
    refine lv_iload_n F.1 F.2.1 dX8_beginAsking_15 rfl (lv_at hl 2 rfl) ?_
    replace h := zk_some h
    obtain ⟨c2, h⟩ := h
    refine zr_iast (k := 127) (by decide) rfl (by decide) F (zal_a F hx0 (j := 7) rfl) hr dX8_beginAsking_16 c2 (fun H locs z3 ez3 hr => ?_)
    replace h := zl_sub ez3 h
    clear ez3
    refine lv_aload_n F.1 F.2.1 dX8_beginAsking_17 rfl (lv_at hl 0 rfl) ?_
    refine gf8_22 F hx0 hr dX8_beginAsking_18 ?_
    refine lv_aload_n F.1 F.2.1 dX8_beginAsking_21 rfl (lv_at hl 0 rfl) ?_
    refine gf8_58 F hx0 hr dX8_beginAsking_22 ?_
    refine lv_iload_n F.1 F.2.1 dX8_beginAsking_25 rfl (lv_at hl 1 rfl) ?_
    replace h := zk_some h
    obtain ⟨c4, h⟩ := h
    refine zr_iast (k := 128) (by decide) rfl (by decide) F (zal_a F hx0 (j := 8) rfl) hr dX8_beginAsking_26 c4 (fun H locs z5 ez5 hr => ?_)
    replace h := zl_sub ez5 h
    clear ez5
    refine lv_aload_n F.1 F.2.1 dX8_beginAsking_27 rfl (lv_at hl 0 rfl) ?_
    refine lv_dup F.1 F.2.1 dX8_beginAsking_28 rfl ?_
    refine gf8_58 F hx0 hr dX8_beginAsking_29 ?_
    refine lv_iconst (v := (1 : Int32)) F.1 F.2.1 dX8_beginAsking_32 (by decide) ?_
    refine lv_iadd F.1 F.2.1 dX8_beginAsking_33 ?_
    refine pf8_58 F hx0 hr dX8_beginAsking_34 ((zgI z5 8 9 x0) + (1 : Int32)) (fun H locs z6 ez6 hr => ?_)
    replace h := zl_sub ez6 h
    clear ez6
    obtain ⟨rfl, rfl⟩ := zret h
    exact E _ _ _ _ dX8_beginAsking_37 trivial hr
  · replace h := zi_f c1 h
    obtain ⟨rfl, rfl⟩ := zret h
    exact E _ _ _ _ dX8_beginAsking_9 trivial hr
end SX8_beginAsking
set_option maxRecDepth 100000 in
theorem okX8_beginAsking (l : Launch) (D : va_G) (cy : Nat → ClassId) (B : Nat → Nat → Nat) (ids : List (Nat × Nat)) (hst : zSt B ids) (N : Nat) (x0 : Nat) (hx0 : (8, x0) ∈ ids) (x1 : Int32) (x2 : Int32) {z : St} {r : Int32} {z' : St} (hW : zWf ids z) (h : fX8_beginAsking N x0 x1 x2 z = some (r, z')) : zM l yX8_beginAsking (zws yX8_beginAsking cX8_beginAsking 3 none) rmX8_beginAsking D cy B ids [.ref (B 8 x0), .int x1, .int x2] none True z z' :=
  zM_of hst hW (by decide +kernel) (Nat.le_of_ble_eq_true rfl) (fun p e s m args below meth c A ls F hA hret hlocks hr hl => bX8_beginAsking_0 hst F hA (zEnd_v F hret hlocks) x0 x1 x2 hx0 hr hl h)
abbrev rmX8_endAsking : Room := { frames := 0, cells := 0, slots := 0, locals := 0 }
theorem hdX8_endAsking : yX8_endAsking.cls ≠ "java/lang/invoke/MethodHandle" ∧ yX8_endAsking.cls ≠ "java/lang/invoke/VarHandle" ∧ (parseMethodDescriptor yX8_endAsking.desc).map (fun d => d.parameters.length) = some 1 := by decide +kernel
section SX8_endAsking
variable {p : Program} {l : Launch} {e : Env} {s : State} {m : MethodId} {args : Array Value} {below : List Frame} {meth : Method} {c : Code} {Q : State → Prop} {D : va_G} {cy : Nat → ClassId} {B : Nat → Nat → Nat} {ids : List (Nat × Nat)} {A : Nat → Prop}
def fX8_endAsking_47 (N : Nat) (K11 : Nat → Int32 → Int32 → Int32 → St → Option (Int32 × St)) (x0 : Nat) (x1 : Int32) (x2 : Int32) (x3 : Int32) (z : St) : Option (Int32 × St) := zl (x3 + 1) fun v1 => K11 x0 x1 x2 v1 z
set_option maxHeartbeats 4000000 in
set_option maxRecDepth 100000 in
theorem bX8_endAsking_47 (hst : zSt B ids) (F : zFx p m c cX8_endAsking 4 s args RX8 D cy B ids A) (hA : ∀ q : Nat, s.heap.size ≤ q → A q) {r : Int32} {z' : St} (E : zEnd p l e rmX8_endAsking s m args below meth c cX8_endAsking D cy B ids A Q none z' .return_ True) {N : Nat} {K11 : Nat → Int32 → Int32 → Int32 → St → Option (Int32 × St)} (hK11 : ∀ (x0 : Nat) (x1 : Int32) (x2 : Int32) (x3 : Int32) (hx0 : (8, x0) ∈ ids) {z : St} {H : Heap} {locs : List Loc} {ls : Array Slot} (hr : zRep D cy B ids A s.heap z H locs) (hl : lv_has ls 4 [(0, .ref (B 8 x0)), (1, .int x1), (2, .int x2), (3, .int x3)]), K11 x0 x1 x2 x3 z = some (r, z') → W p l e rmX8_endAsking s m args below meth c H locs 0 0 Q (F0 m 11 ls [])) (x0 : Nat) (x1 : Int32) (x2 : Int32) (x3 : Int32) (hx0 : (8, x0) ∈ ids) {z : St} {H : Heap} {locs : List Loc} {ls : Array Slot} (hr : zRep D cy B ids A s.heap z H locs) (hl : lv_has ls 4 [(0, .ref (B 8 x0)), (1, .int x1), (2, .int x2), (3, .int x3)]) (h : fX8_endAsking_47 N K11 x0 x1 x2 x3 z = some (r, z')) : W p l e rmX8_endAsking s m args below meth c H locs 0 0 Q (F0 m 47 ls []) := by
  unfold fX8_endAsking_47 at h
  obtain ⟨v1, ev1⟩ : ∃ y : Int32, y = (x3 + 1) := ⟨_, rfl⟩
  replace h := zl_sub ev1 h
  refine lv_iinc (v := v1) (lv' := [(3, .int v1), (0, .ref (B 8 x0)), (1, .int x1), (2, .int x2)]) F.1 F.2.1 dX8_endAsking_47 hl (k := 3) rfl (by rw [ev1]; rfl) (by decide) rfl (fun ls hl => ?_)
  refine lv_goto (tgt := 11) F.1 F.2.1 dX8_endAsking_50 (by decide) ?_
  exact hK11 x0 x1 x2 v1 hx0 hr (lv_sub hl [1, 2, 3, 0] rfl) h
def fX8_endAsking_11b (N : Nat) (K11 : Nat → Int32 → Int32 → Int32 → St → Option (Int32 × St)) (x0 : Nat) (x1 : Int32) (x2 : Int32) (x3 : Int32) (z : St) : Option (Int32 × St) := if (zgI z 8 9 x0) ≤ x3 then (zl (zsI z 8 9 x0 x2) fun z2 => some (0, z2)) else (zk x3 8 <| if ¬ (zgA z 128 x0 (Int32.toNatClampNeg x3)) = x1 then (zk x3 8 <| zk x2 8 <| zl (zsA z 128 x0 (Int32.toNatClampNeg x2) (zgA z 128 x0 (Int32.toNatClampNeg x3))) fun z7 => zl (x2 + 1) fun v8 => fX8_endAsking_47 N K11 x0 x1 v8 x3 z7) else (fX8_endAsking_47 N K11 x0 x1 x2 x3 z))
def fX8_endAsking_11 (N : Nat)  : Nat → Nat → Int32 → Int32 → Int32 → St → Option (Int32 × St)
  | 0 => fun _ _ _ _ _ => none
  | n + 1 => fX8_endAsking_11b N (fX8_endAsking_11 N  n)
set_option maxHeartbeats 4000000 in
set_option maxRecDepth 100000 in
theorem bX8_endAsking_11 (hst : zSt B ids) (F : zFx p m c cX8_endAsking 4 s args RX8 D cy B ids A) (hA : ∀ q : Nat, s.heap.size ≤ q → A q) {r : Int32} {z' : St} (E : zEnd p l e rmX8_endAsking s m args below meth c cX8_endAsking D cy B ids A Q none z' .return_ True) {N : Nat} {K11 : Nat → Int32 → Int32 → Int32 → St → Option (Int32 × St)} (hK11 : ∀ (x0 : Nat) (x1 : Int32) (x2 : Int32) (x3 : Int32) (hx0 : (8, x0) ∈ ids) {z : St} {H : Heap} {locs : List Loc} {ls : Array Slot} (hr : zRep D cy B ids A s.heap z H locs) (hl : lv_has ls 4 [(0, .ref (B 8 x0)), (1, .int x1), (2, .int x2), (3, .int x3)]), K11 x0 x1 x2 x3 z = some (r, z') → W p l e rmX8_endAsking s m args below meth c H locs 0 0 Q (F0 m 11 ls [])) (x0 : Nat) (x1 : Int32) (x2 : Int32) (x3 : Int32) (hx0 : (8, x0) ∈ ids) {z : St} {H : Heap} {locs : List Loc} {ls : Array Slot} (hr : zRep D cy B ids A s.heap z H locs) (hl : lv_has ls 4 [(0, .ref (B 8 x0)), (1, .int x1), (2, .int x2), (3, .int x3)]) (h : fX8_endAsking_11b N K11 x0 x1 x2 x3 z = some (r, z')) : W p l e rmX8_endAsking s m args below meth c H locs 0 0 Q (F0 m 11 ls []) := by
  unfold fX8_endAsking_11b at h
  refine lv_iload_n F.1 F.2.1 dX8_endAsking_11 rfl (lv_at hl 3 rfl) ?_
  refine lv_aload_n F.1 F.2.1 dX8_endAsking_12 rfl (lv_at hl 0 rfl) ?_
  refine gf8_58 F hx0 hr dX8_endAsking_13 ?_
  refine lv_icmp_ge (tgt := 53) F.1 F.2.1 dX8_endAsking_16 (by decide) (fun c1 => ?_) (fun c1 => ?_)
  · replace h := zi_t c1 h
    refine lv_aload_n F.1 F.2.1 dX8_endAsking_53 rfl (lv_at hl 0 rfl) ?_
    refine lv_iload_n F.1 F.2.1 dX8_endAsking_54 rfl (lv_at hl 2 rfl) ?_
    refine pf8_58 F hx0 hr dX8_endAsking_55 x2 (fun H locs z2 ez2 hr => ?_)
    replace h := zl_sub ez2 h
    clear ez2
    obtain ⟨rfl, rfl⟩ := zret h
    exact E _ _ _ _ dX8_endAsking_58 trivial hr
  · replace h := zi_f c1 h
    refine lv_aload_n F.1 F.2.1 dX8_endAsking_19 rfl (lv_at hl 0 rfl) ?_
    refine gf8_22 F hx0 hr dX8_endAsking_20 ?_
    refine lv_iload_n F.1 F.2.1 dX8_endAsking_23 rfl (lv_at hl 3 rfl) ?_
    replace h := zk_some h
    obtain ⟨c3, h⟩ := h
    refine zr_iald (k := 128) (by decide) rfl (by decide) F (zal_a F hx0 (j := 8) rfl) hr dX8_endAsking_24 c3 ?_
    refine lv_iload_n F.1 F.2.1 dX8_endAsking_25 rfl (lv_at hl 1 rfl) ?_
    refine lv_icmp_ne (tgt := 32) F.1 F.2.1 dX8_endAsking_26 (by decide) (fun c4 => ?_) (fun c4 => ?_)
    · replace h := zi_t c4 h
      refine lv_aload_n F.1 F.2.1 dX8_endAsking_32 rfl (lv_at hl 0 rfl) ?_
      refine gf8_22 F hx0 hr dX8_endAsking_33 ?_
      refine lv_iload_n F.1 F.2.1 dX8_endAsking_36 rfl (lv_at hl 2 rfl) ?_
      refine lv_aload_n F.1 F.2.1 dX8_endAsking_37 rfl (lv_at hl 0 rfl) ?_
      refine gf8_22 F hx0 hr dX8_endAsking_38 ?_
      refine lv_iload_n F.1 F.2.1 dX8_endAsking_41 rfl (lv_at hl 3 rfl) ?_
      replace h := zk_some h
      obtain ⟨c5, h⟩ := h
      refine zr_iald (k := 128) (by decide) rfl (by decide) F (zal_a F hx0 (j := 8) rfl) hr dX8_endAsking_42 c5 ?_
      replace h := zk_some h
      obtain ⟨c6, h⟩ := h
      refine zr_iast (k := 128) (by decide) rfl (by decide) F (zal_a F hx0 (j := 8) rfl) hr dX8_endAsking_43 c6 (fun H locs z7 ez7 hr => ?_)
      replace h := zl_sub ez7 h
      clear ez7
      obtain ⟨v8, ev8⟩ : ∃ y : Int32, y = (x2 + 1) := ⟨_, rfl⟩
      replace h := zl_sub ev8 h
      refine lv_iinc (v := v8) (lv' := [(2, .int v8), (0, .ref (B 8 x0)), (1, .int x1), (3, .int x3)]) F.1 F.2.1 dX8_endAsking_44 hl (k := 2) rfl (by rw [ev8]; rfl) (by decide) rfl (fun ls hl => ?_)
      exact bX8_endAsking_47 hst F hA E hK11 x0 x1 v8 x3 hx0 hr (lv_sub hl [1, 2, 0, 3] rfl) h
    · replace h := zi_f (fun q => q c4) h
      refine lv_goto (tgt := 47) F.1 F.2.1 dX8_endAsking_29 (by decide) ?_
      exact bX8_endAsking_47 hst F hA E hK11 x0 x1 x2 x3 hx0 hr (lv_sub hl [0, 1, 2, 3] rfl) h
theorem lX8_endAsking_11 (hst : zSt B ids) (F : zFx p m c cX8_endAsking 4 s args RX8 D cy B ids A) (hA : ∀ q : Nat, s.heap.size ≤ q → A q) {r : Int32} {z' : St} (E : zEnd p l e rmX8_endAsking s m args below meth c cX8_endAsking D cy B ids A Q none z' .return_ True) {N : Nat}  : ∀ (n : Nat) (x0 : Nat) (x1 : Int32) (x2 : Int32) (x3 : Int32) (hx0 : (8, x0) ∈ ids) {z : St} {H : Heap} {locs : List Loc} {ls : Array Slot} (hr : zRep D cy B ids A s.heap z H locs) (hl : lv_has ls 4 [(0, .ref (B 8 x0)), (1, .int x1), (2, .int x2), (3, .int x3)]), fX8_endAsking_11 N  n x0 x1 x2 x3 z = some (r, z') → W p l e rmX8_endAsking s m args below meth c H locs 0 0 Q (F0 m 11 ls []) := by
  intro n
  induction n with
  | zero => intro x0 x1 x2 x3 hx0 z H locs ls hr hl h; cases h
  | succ n ih => intro x0 x1 x2 x3 hx0 z H locs ls hr hl h; exact bX8_endAsking_11 hst F hA E ih x0 x1 x2 x3 hx0 hr hl h
def fX8_endAsking (N : Nat)  (x0 : Nat) (x1 : Int32) (z : St) : Option (Int32 × St) := zk x1 8 <| zl (zsA z 127 x0 (Int32.toNatClampNeg x1) (0 : Int32)) fun z2 => fX8_endAsking_11 N N x0 x1 (0 : Int32) (0 : Int32) z2
set_option maxHeartbeats 4000000 in
set_option maxRecDepth 100000 in
theorem bX8_endAsking_0 (hst : zSt B ids) (F : zFx p m c cX8_endAsking 4 s args RX8 D cy B ids A) (hA : ∀ q : Nat, s.heap.size ≤ q → A q) {r : Int32} {z' : St} (E : zEnd p l e rmX8_endAsking s m args below meth c cX8_endAsking D cy B ids A Q none z' .return_ True) {N : Nat}  (x0 : Nat) (x1 : Int32) (hx0 : (8, x0) ∈ ids) {z : St} {H : Heap} {locs : List Loc} {ls : Array Slot} (hr : zRep D cy B ids A s.heap z H locs) (hl : lv_has ls 4 [(0, .ref (B 8 x0)), (1, .int x1)]) (h : fX8_endAsking N x0 x1 z = some (r, z')) : W p l e rmX8_endAsking s m args below meth c H locs 0 0 Q (F0 m 0 ls []) := by
  unfold fX8_endAsking at h
  refine lv_aload_n F.1 F.2.1 dX8_endAsking_0 rfl (lv_at hl 0 rfl) ?_
  refine gf8_19 F hx0 hr dX8_endAsking_1 ?_
  refine lv_iload_n F.1 F.2.1 dX8_endAsking_4 rfl (lv_at hl 1 rfl) ?_
  refine lv_iconst (v := (0 : Int32)) F.1 F.2.1 dX8_endAsking_5 (by decide) ?_
  replace h := zk_some h
  obtain ⟨c1, h⟩ := h
  refine zr_iast (k := 127) (by decide) rfl (by decide) F (zal_a F hx0 (j := 7) rfl) hr dX8_endAsking_6 c1 (fun H locs z2 ez2 hr => ?_)
  replace h := zl_sub ez2 h
  clear ez2
  refine lv_iconst (v := (0 : Int32)) F.1 F.2.1 dX8_endAsking_7 (by decide) ?_
  refine lv_istore_n (lv' := [(2, .int (0 : Int32)), (0, .ref (B 8 x0)), (1, .int x1)]) F.1 F.2.1 dX8_endAsking_8 rfl hl (by decide) rfl (fun ls hl => ?_)
  refine lv_iconst (v := (0 : Int32)) F.1 F.2.1 dX8_endAsking_9 (by decide) ?_
  refine lv_istore_n (lv' := [(3, .int (0 : Int32)), (2, .int (0 : Int32)), (0, .ref (B 8 x0)), (1, .int x1)]) F.1 F.2.1 dX8_endAsking_10 rfl hl (by decide) rfl (fun ls hl => ?_)
  exact lX8_endAsking_11 hst F hA E  _ x0 x1 (0 : Int32) (0 : Int32) hx0 hr (lv_sub hl [2, 3, 1, 0] rfl) h
end SX8_endAsking
set_option maxRecDepth 100000 in
theorem okX8_endAsking (l : Launch) (D : va_G) (cy : Nat → ClassId) (B : Nat → Nat → Nat) (ids : List (Nat × Nat)) (hst : zSt B ids) (N : Nat) (x0 : Nat) (hx0 : (8, x0) ∈ ids) (x1 : Int32) {z : St} {r : Int32} {z' : St} (hW : zWf ids z) (h : fX8_endAsking N x0 x1 z = some (r, z')) : zM l yX8_endAsking (zws yX8_endAsking cX8_endAsking 4 none) rmX8_endAsking D cy B ids [.ref (B 8 x0), .int x1] none True z z' :=
  zM_of hst hW (by decide +kernel) (Nat.le_of_ble_eq_true rfl) (fun p e s m args below meth c A ls F hA hret hlocks hr hl => bX8_endAsking_0 hst F hA (zEnd_v F hret hlocks) x0 x1 hx0 hr hl h)
abbrev rmX8_rememberAsked : Room := { frames := 0, cells := 0, slots := 0, locals := 0 }
theorem hdX8_rememberAsked : yX8_rememberAsked.cls ≠ "java/lang/invoke/MethodHandle" ∧ yX8_rememberAsked.cls ≠ "java/lang/invoke/VarHandle" ∧ (parseMethodDescriptor yX8_rememberAsked.desc).map (fun d => d.parameters.length) = some 0 := by decide +kernel
section SX8_rememberAsked
variable {p : Program} {l : Launch} {e : Env} {s : State} {m : MethodId} {args : Array Value} {below : List Frame} {meth : Method} {c : Code} {Q : State → Prop} {D : va_G} {cy : Nat → ClassId} {B : Nat → Nat → Nat} {ids : List (Nat × Nat)} {A : Nat → Prop}
def fX8_rememberAsked_2b (N : Nat) (K2 : Nat → Int32 → St → Option (Int32 × St)) (x0 : Nat) (x1 : Int32) (z : St) : Option (Int32 × St) := if (zgI z 8 9 x0) ≤ x1 then (some ((zgI z 8 9 x0), z)) else (zk x1 8 <| zk x1 8 <| zl (zsA z 129 x0 (Int32.toNatClampNeg x1) (zgA z 128 x0 (Int32.toNatClampNeg x1))) fun z4 => zl (x1 + 1) fun v5 => K2 x0 v5 z4)
def fX8_rememberAsked_2 (N : Nat)  : Nat → Nat → Int32 → St → Option (Int32 × St)
  | 0 => fun _ _ _ => none
  | n + 1 => fX8_rememberAsked_2b N (fX8_rememberAsked_2 N  n)
set_option maxHeartbeats 4000000 in
set_option maxRecDepth 100000 in
theorem bX8_rememberAsked_2 (hst : zSt B ids) (F : zFx p m c cX8_rememberAsked 2 s args RX8 D cy B ids A) (hA : ∀ q : Nat, s.heap.size ≤ q → A q) {r : Int32} {z' : St} (E : zEnd p l e rmX8_rememberAsked s m args below meth c cX8_rememberAsked D cy B ids A Q (some (.int r)) z' .ireturn True) {N : Nat} {K2 : Nat → Int32 → St → Option (Int32 × St)} (hK2 : ∀ (x0 : Nat) (x1 : Int32) (hx0 : (8, x0) ∈ ids) {z : St} {H : Heap} {locs : List Loc} {ls : Array Slot} (hr : zRep D cy B ids A s.heap z H locs) (hl : lv_has ls 2 [(0, .ref (B 8 x0)), (1, .int x1)]), K2 x0 x1 z = some (r, z') → W p l e rmX8_rememberAsked s m args below meth c H locs 0 0 Q (F0 m 2 ls [])) (x0 : Nat) (x1 : Int32) (hx0 : (8, x0) ∈ ids) {z : St} {H : Heap} {locs : List Loc} {ls : Array Slot} (hr : zRep D cy B ids A s.heap z H locs) (hl : lv_has ls 2 [(0, .ref (B 8 x0)), (1, .int x1)]) (h : fX8_rememberAsked_2b N K2 x0 x1 z = some (r, z')) : W p l e rmX8_rememberAsked s m args below meth c H locs 0 0 Q (F0 m 2 ls []) := by
  unfold fX8_rememberAsked_2b at h
  refine lv_iload_n F.1 F.2.1 dX8_rememberAsked_2 rfl (lv_at hl 1 rfl) ?_
  refine lv_aload_n F.1 F.2.1 dX8_rememberAsked_3 rfl (lv_at hl 0 rfl) ?_
  refine gf8_58 F hx0 hr dX8_rememberAsked_4 ?_
  refine lv_icmp_ge (tgt := 28) F.1 F.2.1 dX8_rememberAsked_7 (by decide) (fun c1 => ?_) (fun c1 => ?_)
  · replace h := zi_t c1 h
    refine lv_aload_n F.1 F.2.1 dX8_rememberAsked_28 rfl (lv_at hl 0 rfl) ?_
    refine gf8_58 F hx0 hr dX8_rememberAsked_29 ?_
    obtain ⟨rfl, rfl⟩ := zret h
    exact E _ _ _ _ dX8_rememberAsked_32 trivial hr
  · replace h := zi_f c1 h
    refine lv_aload_n F.1 F.2.1 dX8_rememberAsked_10 rfl (lv_at hl 0 rfl) ?_
    refine gf8_25 F hx0 hr dX8_rememberAsked_11 ?_
    refine lv_iload_n F.1 F.2.1 dX8_rememberAsked_14 rfl (lv_at hl 1 rfl) ?_
    refine lv_aload_n F.1 F.2.1 dX8_rememberAsked_15 rfl (lv_at hl 0 rfl) ?_
    refine gf8_22 F hx0 hr dX8_rememberAsked_16 ?_
    refine lv_iload_n F.1 F.2.1 dX8_rememberAsked_19 rfl (lv_at hl 1 rfl) ?_
    replace h := zk_some h
    obtain ⟨c2, h⟩ := h
    refine zr_iald (k := 128) (by decide) rfl (by decide) F (zal_a F hx0 (j := 8) rfl) hr dX8_rememberAsked_20 c2 ?_
    replace h := zk_some h
    obtain ⟨c3, h⟩ := h
    refine zr_iast (k := 129) (by decide) rfl (by decide) F (zal_a F hx0 (j := 10) rfl) hr dX8_rememberAsked_21 c3 (fun H locs z4 ez4 hr => ?_)
    replace h := zl_sub ez4 h
    clear ez4
    obtain ⟨v5, ev5⟩ : ∃ y : Int32, y = (x1 + 1) := ⟨_, rfl⟩
    replace h := zl_sub ev5 h
    refine lv_iinc (v := v5) (lv' := [(1, .int v5), (0, .ref (B 8 x0))]) F.1 F.2.1 dX8_rememberAsked_22 hl (k := 1) rfl (by rw [ev5]; rfl) (by decide) rfl (fun ls hl => ?_)
    refine lv_goto (tgt := 2) F.1 F.2.1 dX8_rememberAsked_25 (by decide) ?_
    exact hK2 x0 v5 hx0 hr (lv_sub hl [1, 0] rfl) h
theorem lX8_rememberAsked_2 (hst : zSt B ids) (F : zFx p m c cX8_rememberAsked 2 s args RX8 D cy B ids A) (hA : ∀ q : Nat, s.heap.size ≤ q → A q) {r : Int32} {z' : St} (E : zEnd p l e rmX8_rememberAsked s m args below meth c cX8_rememberAsked D cy B ids A Q (some (.int r)) z' .ireturn True) {N : Nat}  : ∀ (n : Nat) (x0 : Nat) (x1 : Int32) (hx0 : (8, x0) ∈ ids) {z : St} {H : Heap} {locs : List Loc} {ls : Array Slot} (hr : zRep D cy B ids A s.heap z H locs) (hl : lv_has ls 2 [(0, .ref (B 8 x0)), (1, .int x1)]), fX8_rememberAsked_2 N  n x0 x1 z = some (r, z') → W p l e rmX8_rememberAsked s m args below meth c H locs 0 0 Q (F0 m 2 ls []) := by
  intro n
  induction n with
  | zero => intro x0 x1 hx0 z H locs ls hr hl h; cases h
  | succ n ih => intro x0 x1 hx0 z H locs ls hr hl h; exact bX8_rememberAsked_2 hst F hA E ih x0 x1 hx0 hr hl h
def fX8_rememberAsked (N : Nat)  (x0 : Nat) (z : St) : Option (Int32 × St) := fX8_rememberAsked_2 N N x0 (0 : Int32) z
set_option maxHeartbeats 4000000 in
set_option maxRecDepth 100000 in
theorem bX8_rememberAsked_0 (hst : zSt B ids) (F : zFx p m c cX8_rememberAsked 2 s args RX8 D cy B ids A) (hA : ∀ q : Nat, s.heap.size ≤ q → A q) {r : Int32} {z' : St} (E : zEnd p l e rmX8_rememberAsked s m args below meth c cX8_rememberAsked D cy B ids A Q (some (.int r)) z' .ireturn True) {N : Nat}  (x0 : Nat) (hx0 : (8, x0) ∈ ids) {z : St} {H : Heap} {locs : List Loc} {ls : Array Slot} (hr : zRep D cy B ids A s.heap z H locs) (hl : lv_has ls 2 [(0, .ref (B 8 x0))]) (h : fX8_rememberAsked N x0 z = some (r, z')) : W p l e rmX8_rememberAsked s m args below meth c H locs 0 0 Q (F0 m 0 ls []) := by
  unfold fX8_rememberAsked at h
  refine lv_iconst (v := (0 : Int32)) F.1 F.2.1 dX8_rememberAsked_0 (by decide) ?_
  refine lv_istore_n (lv' := [(1, .int (0 : Int32)), (0, .ref (B 8 x0))]) F.1 F.2.1 dX8_rememberAsked_1 rfl hl (by decide) rfl (fun ls hl => ?_)
  exact lX8_rememberAsked_2 hst F hA E  _ x0 (0 : Int32) hx0 hr (lv_sub hl [1, 0] rfl) h
end SX8_rememberAsked
set_option maxRecDepth 100000 in
theorem okX8_rememberAsked (l : Launch) (D : va_G) (cy : Nat → ClassId) (B : Nat → Nat → Nat) (ids : List (Nat × Nat)) (hst : zSt B ids) (N : Nat) (x0 : Nat) (hx0 : (8, x0) ∈ ids) {z : St} {r : Int32} {z' : St} (hW : zWf ids z) (h : fX8_rememberAsked N x0 z = some (r, z')) : zM l yX8_rememberAsked (zws yX8_rememberAsked cX8_rememberAsked 2 (some .int)) rmX8_rememberAsked D cy B ids [.ref (B 8 x0)] (some (.int r)) True z z' :=
  zM_of hst hW (by decide +kernel) (Nat.le_of_ble_eq_true rfl) (fun p e s m args below meth c A ls F hA hret hlocks hr hl => bX8_rememberAsked_0 hst F hA (zEnd_i F hret hlocks) x0 hx0 hr hl h)
abbrev rmX8_letWait : Room := { frames := 2, cells := 0, slots := 0, locals := 83 }
theorem hdX8_letWait : yX8_letWait.cls ≠ "java/lang/invoke/MethodHandle" ∧ yX8_letWait.cls ≠ "java/lang/invoke/VarHandle" ∧ (parseMethodDescriptor yX8_letWait.desc).map (fun d => d.parameters.length) = some 2 := by decide +kernel
theorem hroX8_letWait_X7_copyPart : rmX7_copyPart.frames + 1 ≤ rmX8_letWait.frames ∧ 8 + (4 + 11) + rmX7_copyPart.locals ≤ rmX8_letWait.locals := by decide
section SX8_letWait
variable {p : Program} {l : Launch} {e : Env} {s : State} {m : MethodId} {args : Array Value} {below : List Frame} {meth : Method} {c : Code} {Q : State → Prop} {D : va_G} {cy : Nat → ClassId} {B : Nat → Nat → Nat} {ids : List (Nat × Nat)} {A : Nat → Prop}
def fX8_letWait (N : Nat)  (x0 : Nat) (x1 : Nat) (x2 : Int32) (z : St) : Option (Int32 × St) := if (zgI z 8 12 x0) < (17 : Int32) then (zk (zgI z 8 12 x0) 17 <| zl (zgQ z 130 x0 (Int32.toNatClampNeg (zgI z 8 12 x0))) fun y3 => zd y3 fun a4 => zc (fX7_copyPart N a4 x1 (0 : Int32) (zgI z 7 6 x1) z) fun _ z6 => zl (zsI z6 7 11 a4 x2) fun z9 => zl (zsI z9 8 12 x0 ((zgI z9 8 12 x0) + (1 : Int32))) fun z10 => some (0, z10)) else (some (0, z))
set_option maxHeartbeats 4000000 in
set_option maxRecDepth 100000 in
theorem bX8_letWait_0 (hst : zSt B ids) (F : zFx p m c cX8_letWait 4 s args RX8 D cy B ids A) (hA : ∀ q : Nat, s.heap.size ≤ q → A q) {r : Int32} {z' : St} (E : zEnd p l e rmX8_letWait s m args below meth c cX8_letWait D cy B ids A Q none z' .return_ True) {N : Nat}  (x0 : Nat) (x1 : Nat) (x2 : Int32) (hx0 : (8, x0) ∈ ids) (hx1 : (7, x1) ∈ ids) {z : St} {H : Heap} {locs : List Loc} {ls : Array Slot} (hr : zRep D cy B ids A s.heap z H locs) (hl : lv_has ls 4 [(0, .ref (B 8 x0)), (1, .ref (B 7 x1)), (2, .int x2)]) (h : fX8_letWait N x0 x1 x2 z = some (r, z')) : W p l e rmX8_letWait s m args below meth c H locs 0 0 Q (F0 m 0 ls []) := by
  unfold fX8_letWait at h
  refine lv_aload_n F.1 F.2.1 dX8_letWait_0 rfl (lv_at hl 0 rfl) ?_
  refine gf8_61 F hx0 hr dX8_letWait_1 ?_
  refine lv_aload_n F.1 F.2.1 dX8_letWait_4 rfl (lv_at hl 0 rfl) ?_
  refine gf8_30 F hx0 hr dX8_letWait_5 ?_
  refine zr_alen (k := 130) (n := 17) (v := (17 : Int32)) (by decide) (zlen_d (by decide)) rfl (ti := 6) rfl rfl F (zal_a F hx0 (j := 11) rfl) hr dX8_letWait_8 ?_
  refine lv_icmp_lt (tgt := 13) F.1 F.2.1 dX8_letWait_9 (by decide) (fun c1 => ?_) (fun c1 => ?_)
  · replace h := zi_t c1 h
    refine lv_aload_n F.1 F.2.1 dX8_letWait_13 rfl (lv_at hl 0 rfl) ?_
    refine gf8_30 F hx0 hr dX8_letWait_14 ?_
    refine lv_aload_n F.1 F.2.1 dX8_letWait_17 rfl (lv_at hl 0 rfl) ?_
    refine gf8_61 F hx0 hr dX8_letWait_18 ?_
    replace h := zk_some h
    obtain ⟨c2, h⟩ := h
    refine zr_aaldv (k := 130) (by decide) rfl rfl (zlen_d (by decide)) F (zal_a F hx0 (j := 11) rfl) hr dX8_letWait_21 c2 (fun y3 ey3 => ?_)
    replace h := zl_sub ey3 h
    have hy3 := zal_q hr (zal_a F hx0 (j := 11) rfl) rfl ey3
    clear ey3
    refine zr_astore_n (lv' := [(3, va_rf (Option.map (B 7) y3)), (0, .ref (B 8 x0)), (1, .ref (B 7 x1)), (2, .int x2)]) F.1 F.2.1 dX8_letWait_22 rfl hl (by decide) rfl (fun ls hl => ?_)
    refine zr_aload_n F.1 F.2.1 dX8_letWait_23 rfl (lv_at hl 0 rfl) ?_
    refine lv_aload_n F.1 F.2.1 dX8_letWait_24 rfl (lv_at hl 2 rfl) ?_
    refine lv_iconst (v := (0 : Int32)) F.1 F.2.1 dX8_letWait_25 (by decide) ?_
    refine lv_aload_n F.1 F.2.1 dX8_letWait_26 rfl (lv_at hl 2 rfl) ?_
    refine gf8_64 F hx1 hr dX8_letWait_27 ?_
    replace h := zd_some h
    obtain ⟨a4, rfl, h⟩ := h
    replace h := zc_some h
    obtain ⟨r5, z6, hc7, h⟩ := h
    refine zr_callv (zrun_VN (As := [.ref (B 7 x1), .int (0 : Int32), .int (zgI z 7 6 x1)]) (rest := []) zn_1452 zq_1073 zs_X7_copyPart zq_1074 zq_2 hdX7_copyPart (by decide) (T := TX7) (N := 20) rfl (okX7_copyPart l D cy B ids hst N a4 (hy3 _ rfl) x1 hx1 (0 : Int32)  (zgI z 7 6 x1)  hr.2.2 hc7) F hr (hy3 _ rfl) hl.1 rfl (by decide) dX8_letWait_30 rfl rfl hroX8_letWait_X7_copyPart ⟨Nat.zero_le _, Nat.zero_le _⟩) F hA hr (fun H locs hw8 hr => ?_)
    clear hc7
    refine lv_aload_n F.1 F.2.1 dX8_letWait_33 rfl (lv_at hl 0 rfl) ?_
    refine lv_iload_n F.1 F.2.1 dX8_letWait_34 rfl (lv_at hl 3 rfl) ?_
    refine pf8_71 F (hy3 _ rfl) hr dX8_letWait_35 x2 (fun H locs z9 ez9 hr => ?_)
    replace h := zl_sub ez9 h
    clear ez9
    refine lv_aload_n F.1 F.2.1 dX8_letWait_38 rfl (lv_at hl 1 rfl) ?_
    refine lv_dup F.1 F.2.1 dX8_letWait_39 rfl ?_
    refine gf8_61 F hx0 hr dX8_letWait_40 ?_
    refine lv_iconst (v := (1 : Int32)) F.1 F.2.1 dX8_letWait_43 (by decide) ?_
    refine lv_iadd F.1 F.2.1 dX8_letWait_44 ?_
    refine pf8_61 F hx0 hr dX8_letWait_45 ((zgI z9 8 12 x0) + (1 : Int32)) (fun H locs z10 ez10 hr => ?_)
    replace h := zl_sub ez10 h
    clear ez10
    obtain ⟨rfl, rfl⟩ := zret h
    exact E _ _ _ _ dX8_letWait_48 trivial hr
  · replace h := zi_f c1 h
    obtain ⟨rfl, rfl⟩ := zret h
    exact E _ _ _ _ dX8_letWait_12 trivial hr
end SX8_letWait
set_option maxRecDepth 100000 in
theorem okX8_letWait (l : Launch) (D : va_G) (cy : Nat → ClassId) (B : Nat → Nat → Nat) (ids : List (Nat × Nat)) (hst : zSt B ids) (N : Nat) (x0 : Nat) (hx0 : (8, x0) ∈ ids) (x1 : Nat) (hx1 : (7, x1) ∈ ids) (x2 : Int32) {z : St} {r : Int32} {z' : St} (hW : zWf ids z) (h : fX8_letWait N x0 x1 x2 z = some (r, z')) : zM l yX8_letWait (zws yX8_letWait cX8_letWait 4 none) rmX8_letWait D cy B ids [.ref (B 8 x0), .ref (B 7 x1), .int x2] none True z z' :=
  zM_of hst hW (by decide +kernel) (Nat.le_of_ble_eq_true rfl) (fun p e s m args below meth c A ls F hA hret hlocks hr hl => bX8_letWait_0 hst F hA (zEnd_v F hret hlocks) x0 x1 x2 hx0 hx1 hr hl h)
