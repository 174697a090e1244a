abbrev rmX3_takeRest : Room := { frames := 3, cells := 0, slots := 0, locals := 106 }
theorem hdX3_takeRest : yX3_takeRest.cls ≠ "java/lang/invoke/MethodHandle" ∧ yX3_takeRest.cls ≠ "java/lang/invoke/VarHandle" ∧ (parseMethodDescriptor yX3_takeRest.desc).map (fun d => d.parameters.length) = some 2 := by decide +kernel
theorem hroX3_takeRest_X11_isBefore : rmX11_isBefore.frames + 1 ≤ rmX3_takeRest.frames ∧ 8 + (2 + 11) + rmX11_isBefore.locals ≤ rmX3_takeRest.locals := by decide
theorem hroX3_takeRest_X3_becomeQuiet : rmX3_becomeQuiet.frames + 1 ≤ rmX3_takeRest.frames ∧ 8 + (2 + 11) + rmX3_becomeQuiet.locals ≤ rmX3_takeRest.locals := by decide
theorem hroX3_takeRest_X3_finish : rmX3_finish.frames + 1 ≤ rmX3_takeRest.frames ∧ 8 + (2 + 11) + rmX3_finish.locals ≤ rmX3_takeRest.locals := by decide
theorem hroX3_takeRest_X3_peerLeft : rmX3_peerLeft.frames + 1 ≤ rmX3_takeRest.frames ∧ 8 + (2 + 11) + rmX3_peerLeft.locals ≤ rmX3_takeRest.locals := by decide
theorem hroX3_takeRest_X3_takeWindow : rmX3_takeWindow.frames + 1 ≤ rmX3_takeRest.frames ∧ 8 + (6 + 11) + rmX3_takeWindow.locals ≤ rmX3_takeRest.locals := by decide
theorem hroX3_takeRest_X3_takesIn : rmX3_takesIn.frames + 1 ≤ rmX3_takeRest.frames ∧ 8 + (1 + 11) + rmX3_takesIn.locals ≤ rmX3_takeRest.locals := by decide
theorem hroX3_takeRest_X3_thankedTo : rmX3_thankedTo.frames + 1 ≤ rmX3_takeRest.frames ∧ 8 + (3 + 11) + rmX3_thankedTo.locals ≤ rmX3_takeRest.locals := by decide
theorem hroX3_takeRest_X4_take : rmX4_take.frames + 1 ≤ rmX3_takeRest.frames ∧ 8 + (7 + 11) + rmX4_take.locals ≤ rmX3_takeRest.locals := by decide
theorem hroX3_takeRest_X7_bytes : rmX7_bytes.frames + 1 ≤ rmX3_takeRest.frames ∧ 8 + (1 + 11) + rmX7_bytes.locals ≤ rmX3_takeRest.locals := by decide
theorem hroX3_takeRest_X7_has : rmX7_has.frames + 1 ≤ rmX3_takeRest.frames ∧ 8 + (2 + 11) + rmX7_has.locals ≤ rmX3_takeRest.locals := by decide
section SX3_takeRest
variable {p : Program} {l : Launch} {e : Env} {s : State} {m : MethodId} {args : Array Value} {below : List Frame} {meth : Method} {c : Code} {Q : State → Prop} {D : va_G} {cy : Nat → ClassId} {B : Nat → Nat → Nat} {ids : List (Nat × Nat)} {A : Nat → Prop}
def fX3_takeRest_135 (N : Nat)  (x0 : Nat) (z : St) : Option (Int32 × St) := zl (zsI z 3 13 x0 (1 : Int32)) fun z1 => some (0, z1)
set_option maxHeartbeats 4000000 in
set_option maxRecDepth 100000 in
theorem bX3_takeRest_135 (hst : zSt B ids) (F : zFx p m c cX3_takeRest 4 s args RX3 D cy B ids A) (hA : ∀ q : Nat, s.heap.size ≤ q → A q) {r : Int32} {z' : St} (E : zEnd p l e rmX3_takeRest s m args below meth c cX3_takeRest D cy B ids A Q none z' .return_ True) {N : Nat}  (x0 : Nat) (hx0 : (3, x0) ∈ ids) {z : St} {H : Heap} {locs : List Loc} {ls : Array Slot} (hr : zRep D cy B ids A s.heap z H locs) (hl : lv_has ls 4 [(0, .ref (B 3 x0))]) (h : fX3_takeRest_135 N x0 z = some (r, z')) : W p l e rmX3_takeRest s m args below meth c H locs 0 0 Q (F0 m 135 ls []) := by
  unfold fX3_takeRest_135 at h
  refine lv_aload_n F.1 F.2.1 dX3_takeRest_135 rfl (lv_at hl 0 rfl) ?_
  refine lv_iconst (v := (1 : Int32)) F.1 F.2.1 dX3_takeRest_136 (by decide) ?_
  refine pf3_71 F hx0 hr dX3_takeRest_137 (1 : Int32) (by decide) (fun H locs z1 ez1 hr => ?_)
  replace h := zl_sub ez1 h
  clear ez1
  obtain ⟨rfl, rfl⟩ := zret h
  exact E _ _ _ _ dX3_takeRest_140 trivial hr
def fX3_takeRest_120 (N : Nat)  (x0 : Nat) (x1 : Nat) (z : St) : Option (Int32 × St) := zc (fX7_bytes N x1 z) fun r1 z2 => if 0 < r1 then (fX3_takeRest_135 N x0 z2) else (zc (fX7_has N x1 (2 : Int32) z2) fun r6 z7 => if r6 = 0 then (some (0, z7)) else (fX3_takeRest_135 N x0 z7))
set_option maxHeartbeats 4000000 in
set_option maxRecDepth 100000 in
theorem bX3_takeRest_120 (hst : zSt B ids) (F : zFx p m c cX3_takeRest 4 s args RX3 D cy B ids A) (hA : ∀ q : Nat, s.heap.size ≤ q → A q) {r : Int32} {z' : St} (E : zEnd p l e rmX3_takeRest s m args below meth c cX3_takeRest D cy B ids A Q none z' .return_ True) {N : Nat}  (x0 : Nat) (x1 : Nat) (hx0 : (3, x0) ∈ ids) (hx1 : (7, x1) ∈ ids) {z : St} {H : Heap} {locs : List Loc} {ls : Array Slot} (hr : zRep D cy B ids A s.heap z H locs) (hl : lv_has ls 4 [(0, .ref (B 3 x0)), (1, .ref (B 7 x1))]) (h : fX3_takeRest_120 N x0 x1 z = some (r, z')) : W p l e rmX3_takeRest s m args below meth c H locs 0 0 Q (F0 m 120 ls []) := by
  unfold fX3_takeRest_120 at h
  refine lv_aload_n F.1 F.2.1 dX3_takeRest_120 rfl (lv_at hl 1 rfl) ?_
  replace h := zc_some h
  obtain ⟨r1, z2, hc3, h⟩ := h
  refine zr_calli (zrun_VN (As := []) (rest := []) zn_1417 zq_1405 zs_X7_bytes zq_1406 zq_2 hdX7_bytes (by decide) (T := TX7) (N := 20) rfl (okX7_bytes l D cy B ids hst N x1 hx1 hr.2.2 hc3) F hr hx1 hl.1 rfl (by decide) dX3_takeRest_121 rfl rfl hroX3_takeRest_X7_bytes ⟨Nat.zero_le _, Nat.zero_le _⟩) F hA hr (fun H locs hw4 hr => ?_)
  clear hc3
  refine lv_if_gt (tgt := 135) F.1 F.2.1 dX3_takeRest_124 (by decide) (fun c5 => ?_) (fun c5 => ?_)
  · replace h := zi_t c5 h
    exact bX3_takeRest_135 hst F hA E  x0 hx0 hr (lv_sub hl [0] rfl) h
  · replace h := zi_f c5 h
    refine lv_aload_n F.1 F.2.1 dX3_takeRest_127 rfl (lv_at hl 1 rfl) ?_
    refine lv_iconst (v := (2 : Int32)) F.1 F.2.1 dX3_takeRest_128 (by decide) ?_
    replace h := zc_some h
    obtain ⟨r6, z7, hc8, h⟩ := h
    refine zr_calli (zrun_VN (As := [.int (2 : Int32)]) (rest := []) zn_1317 zq_1276 zs_X7_has zq_1277 zq_2 hdX7_has (by decide) (T := TX7) (N := 20) rfl (okX7_has l D cy B ids hst N x1 hx1 (2 : Int32)  hr.2.2 hc8) F hr hx1 hl.1 rfl (by decide) dX3_takeRest_129 rfl rfl hroX3_takeRest_X7_has ⟨Nat.zero_le _, Nat.zero_le _⟩) F hA hr (fun H locs hw9 hr => ?_)
    clear hc8
    refine lv_if_eq (tgt := 140) F.1 F.2.1 dX3_takeRest_132 (by decide) (fun c10 => ?_) (fun c10 => ?_)
    · replace h := zi_t c10 h
      obtain ⟨rfl, rfl⟩ := zret h
      exact E _ _ _ _ dX3_takeRest_140 trivial hr
    · replace h := zi_f c10 h
      exact bX3_takeRest_135 hst F hA E  x0 hx0 hr (lv_sub hl [0] rfl) h
def fX3_takeRest_90 (N : Nat)  (x0 : Nat) (x1 : Nat) (x2 : Int32) (z : St) : Option (Int32 × St) := zc (fX3_takesIn N x0 z) fun r1 z2 => if r1 = 0 then (fX3_takeRest_120 N x0 x1 z2) else (zl (zgR z2 3 17 x0) fun y6 => zd y6 fun a7 => zc (fX4_take N a7 x1 z2) fun _ z9 => zl (zgR z9 3 17 x0) fun y12 => zd y12 fun a13 => if (zgI z9 4 7 a13) = 0 then (fX3_takeRest_120 N x0 x1 z9) else (zc (fX3_peerLeft N x0 x2 z9) fun _ z16 => fX3_takeRest_120 N x0 x1 z16))
set_option maxHeartbeats 4000000 in
set_option maxRecDepth 100000 in
theorem bX3_takeRest_90 (hst : zSt B ids) (F : zFx p m c cX3_takeRest 4 s args RX3 D cy B ids A) (hA : ∀ q : Nat, s.heap.size ≤ q → A q) {r : Int32} {z' : St} (E : zEnd p l e rmX3_takeRest s m args below meth c cX3_takeRest D cy B ids A Q none z' .return_ True) {N : Nat}  (x0 : Nat) (x1 : Nat) (x2 : Int32) (hx0 : (3, x0) ∈ ids) (hx1 : (7, x1) ∈ ids) {z : St} {H : Heap} {locs : List Loc} {ls : Array Slot} (hr : zRep D cy B ids A s.heap z H locs) (hl : lv_has ls 4 [(0, .ref (B 3 x0)), (1, .ref (B 7 x1)), (2, .int x2)]) (h : fX3_takeRest_90 N x0 x1 x2 z = some (r, z')) : W p l e rmX3_takeRest s m args below meth c H locs 0 0 Q (F0 m 90 ls []) := by
  unfold fX3_takeRest_90 at h
  refine lv_aload_n F.1 F.2.1 dX3_takeRest_90 rfl (lv_at hl 0 rfl) ?_
  replace h := zc_some h
  obtain ⟨r1, z2, hc3, h⟩ := h
  refine zr_calli (zrun_V (As := []) (rest := []) zq_1395 zq_1397 zs_X3_takesIn zq_1398 zq_13 hdX3_takesIn (by decide) (T := TX3) (N := 19) rfl (okX3_takesIn l D cy B ids hst N x0 hx0 hr.2.2 hc3) F hr hx0 hl.1 rfl (by decide) dX3_takeRest_91 rfl rfl hroX3_takeRest_X3_takesIn ⟨Nat.zero_le _, Nat.zero_le _⟩) F hA hr (fun H locs hw4 hr => ?_)
  clear hc3
  refine lv_if_eq (tgt := 120) F.1 F.2.1 dX3_takeRest_94 (by decide) (fun c5 => ?_) (fun c5 => ?_)
  · replace h := zi_t c5 h
    exact bX3_takeRest_120 hst F hA E  x0 x1 hx0 hx1 hr (lv_sub hl [0, 1] rfl) h
  · replace h := zi_f c5 h
    refine lv_aload_n F.1 F.2.1 dX3_takeRest_97 rfl (lv_at hl 0 rfl) ?_
    refine gf3_21 F hx0 hr dX3_takeRest_98 (fun y6 ey6 => ?_)
    replace h := zl_sub ey6 h
    have hy6 := zal_g hr hx0 (j := 17) rfl ey6
    clear ey6
    refine lv_aload_n F.1 F.2.1 dX3_takeRest_101 rfl (lv_at hl 1 rfl) ?_
    replace h := zd_some h
    obtain ⟨a7, rfl, h⟩ := h
    replace h := zc_some h
    obtain ⟨r8, z9, hc10, h⟩ := h
    refine zr_callv (zrun_VN (As := [.ref (B 7 x1)]) (rest := []) zn_1399 zq_1401 zs_X4_take zq_1402 zq_15 hdX4_take (by decide) (T := TX4) (N := 8) rfl (okX4_take l D cy B ids hst N a7 (hy6 _ rfl) x1 hx1 hr.2.2 hc10) F hr (hy6 _ rfl) hl.1 rfl (by decide) dX3_takeRest_102 rfl rfl hroX3_takeRest_X4_take ⟨Nat.zero_le _, Nat.zero_le _⟩) F hA hr (fun H locs hw11 hr => ?_)
    clear hc10
    refine lv_aload_n F.1 F.2.1 dX3_takeRest_105 rfl (lv_at hl 0 rfl) ?_
    refine gf3_21 F hx0 hr dX3_takeRest_106 (fun y12 ey12 => ?_)
    replace h := zl_sub ey12 h
    have hy12 := zal_g hr hx0 (j := 17) rfl ey12
    clear ey12
    replace h := zd_some h
    obtain ⟨a13, rfl, h⟩ := h
    refine gf3_208 F (hy12 _ rfl) hr dX3_takeRest_109 ?_
    refine lv_if_eq (tgt := 120) F.1 F.2.1 dX3_takeRest_112 (by decide) (fun c14 => ?_) (fun c14 => ?_)
    · replace h := zi_t c14 h
      exact bX3_takeRest_120 hst F hA E  x0 x1 hx0 hx1 hr (lv_sub hl [0, 1] rfl) h
    · replace h := zi_f c14 h
      refine lv_aload_n F.1 F.2.1 dX3_takeRest_115 rfl (lv_at hl 0 rfl) ?_
      refine lv_iload_n F.1 F.2.1 dX3_takeRest_116 rfl (lv_at hl 2 rfl) ?_
      replace h := zc_some h
      obtain ⟨r15, z16, hc17, h⟩ := h
      refine zr_callv (zrun_V (As := [.int x2]) (rest := []) zq_1413 zq_1415 zs_X3_peerLeft zq_1416 zq_13 hdX3_peerLeft (by decide) (T := TX3) (N := 19) rfl (okX3_peerLeft l D cy B ids hst N x0 hx0 x2  hr.2.2 hc17) F hr hx0 hl.1 rfl (by decide) dX3_takeRest_117 rfl rfl hroX3_takeRest_X3_peerLeft ⟨Nat.zero_le _, Nat.zero_le _⟩) F hA hr (fun H locs hw18 hr => ?_)
      clear hc17
      exact bX3_takeRest_120 hst F hA E  x0 x1 hx0 hx1 hr (lv_sub hl [0, 1] rfl) h
def fX3_takeRest_25 (N : Nat)  (x0 : Nat) (x1 : Nat) (x2 : Int32) (x3 : Int32) (z : St) : Option (Int32 × St) := zc (fX3_takeWindow N x0 x1 x3 z) fun _ z2 => zl (zgR z2 3 16 x0) fun y5 => zd y5 fun a6 => if (zgI z2 6 10 a6) = 0 then (fX3_takeRest_90 N x0 x1 x2 z2) else (if ¬ (zgI z2 3 0 x0) = (5 : Int32) then (if ¬ (zgI z2 3 0 x0) = (8 : Int32) then (if ¬ (zgI z2 3 0 x0) = (9 : Int32) then (fX3_takeRest_90 N x0 x1 x2 z2) else (zc (fX3_finish N x0 (0 : Int32) z2) fun _ z12 => some (0, z12))) else (zc (fX3_becomeQuiet N x0 x2 z2) fun _ z16 => fX3_takeRest_90 N x0 x1 x2 z16)) else (zl (zsI z2 3 0 x0 (6 : Int32)) fun z19 => fX3_takeRest_90 N x0 x1 x2 z19))
set_option maxHeartbeats 4000000 in
set_option maxRecDepth 100000 in
theorem bX3_takeRest_25 (hst : zSt B ids) (F : zFx p m c cX3_takeRest 4 s args RX3 D cy B ids A) (hA : ∀ q : Nat, s.heap.size ≤ q → A q) {r : Int32} {z' : St} (E : zEnd p l e rmX3_takeRest s m args below meth c cX3_takeRest D cy B ids A Q none z' .return_ True) {N : Nat}  (x0 : Nat) (x1 : Nat) (x2 : Int32) (x3 : Int32) (hx0 : (3, x0) ∈ ids) (hx1 : (7, x1) ∈ ids) {z : St} {H : Heap} {locs : List Loc} {ls : Array Slot} (hr : zRep D cy B ids A s.heap z H locs) (hl : lv_has ls 4 [(0, .ref (B 3 x0)), (1, .ref (B 7 x1)), (2, .int x2), (3, .int x3)]) (h : fX3_takeRest_25 N x0 x1 x2 x3 z = some (r, z')) : W p l e rmX3_takeRest s m args below meth c H locs 0 0 Q (F0 m 25 ls []) := by
  unfold fX3_takeRest_25 at h
  refine lv_aload_n F.1 F.2.1 dX3_takeRest_25 rfl (lv_at hl 0 rfl) ?_
  refine lv_aload_n F.1 F.2.1 dX3_takeRest_26 rfl (lv_at hl 1 rfl) ?_
  refine lv_iload_n F.1 F.2.1 dX3_takeRest_27 rfl (lv_at hl 3 rfl) ?_
  replace h := zc_some h
  obtain ⟨r1, z2, hc3, h⟩ := h
  refine zr_callv (zrun_V (As := [.ref (B 7 x1), .int x3]) (rest := []) zq_1387 zq_1389 zs_X3_takeWindow zq_1390 zq_13 hdX3_takeWindow (by decide) (T := TX3) (N := 19) rfl (okX3_takeWindow l D cy B ids hst N x0 hx0 x1 hx1 x3  hr.2.2 hc3) F hr hx0 hl.1 rfl (by decide) dX3_takeRest_28 rfl rfl hroX3_takeRest_X3_takeWindow ⟨Nat.zero_le _, Nat.zero_le _⟩) F hA hr (fun H locs hw4 hr => ?_)
  clear hc3
  refine lv_aload_n F.1 F.2.1 dX3_takeRest_31 rfl (lv_at hl 0 rfl) ?_
  refine gf3_12 F hx0 hr dX3_takeRest_32 (fun y5 ey5 => ?_)
  replace h := zl_sub ey5 h
  have hy5 := zal_g hr hx0 (j := 16) rfl ey5
  clear ey5
  replace h := zd_some h
  obtain ⟨a6, rfl, h⟩ := h
  refine gf3_199 F (hy5 _ rfl) hr dX3_takeRest_35 ?_
  refine lv_if_eq (tgt := 90) F.1 F.2.1 dX3_takeRest_38 (by decide) (fun c7 => ?_) (fun c7 => ?_)
  · replace h := zi_t c7 h
    exact bX3_takeRest_90 hst F hA E  x0 x1 x2 hx0 hx1 hr (lv_sub hl [0, 1, 2] rfl) h
  · replace h := zi_f c7 h
    refine lv_aload_n F.1 F.2.1 dX3_takeRest_41 rfl (lv_at hl 0 rfl) ?_
    refine gf3_32 F hx0 hr dX3_takeRest_42 ?_
    refine lv_iconst (v := (5 : Int32)) F.1 F.2.1 dX3_takeRest_45 (by decide) ?_
    refine lv_icmp_ne (tgt := 58) F.1 F.2.1 dX3_takeRest_46 (by decide) (fun c8 => ?_) (fun c8 => ?_)
    · replace h := zi_t c8 h
      refine lv_aload_n F.1 F.2.1 dX3_takeRest_58 rfl (lv_at hl 0 rfl) ?_
      refine gf3_32 F hx0 hr dX3_takeRest_59 ?_
      refine lv_bipush (v := (8 : Int32)) F.1 F.2.1 dX3_takeRest_62 (by decide) ?_
      refine lv_icmp_ne (tgt := 75) F.1 F.2.1 dX3_takeRest_64 (by decide) (fun c9 => ?_) (fun c9 => ?_)
      · replace h := zi_t c9 h
        refine lv_aload_n F.1 F.2.1 dX3_takeRest_75 rfl (lv_at hl 0 rfl) ?_
        refine gf3_32 F hx0 hr dX3_takeRest_76 ?_
        refine lv_bipush (v := (9 : Int32)) F.1 F.2.1 dX3_takeRest_79 (by decide) ?_
        refine lv_icmp_ne (tgt := 90) F.1 F.2.1 dX3_takeRest_81 (by decide) (fun c10 => ?_) (fun c10 => ?_)
        · replace h := zi_t c10 h
          exact bX3_takeRest_90 hst F hA E  x0 x1 x2 hx0 hx1 hr (lv_sub hl [0, 1, 2] rfl) h
        · replace h := zi_f (fun q => q c10) h
          refine lv_aload_n F.1 F.2.1 dX3_takeRest_84 rfl (lv_at hl 0 rfl) ?_
          refine lv_iconst (v := (0 : Int32)) F.1 F.2.1 dX3_takeRest_85 (by decide) ?_
          replace h := zc_some h
          obtain ⟨r11, z12, hc13, h⟩ := h
          refine zr_callv (zrun_V (As := [.int (0 : Int32)]) (rest := []) zq_1338 zq_1151 zs_X3_finish zq_1152 zq_13 hdX3_finish (by decide) (T := TX3) (N := 19) rfl (okX3_finish l D cy B ids hst N x0 hx0 (0 : Int32)  hr.2.2 hc13) F hr hx0 hl.1 rfl (by decide) dX3_takeRest_86 rfl rfl hroX3_takeRest_X3_finish ⟨Nat.zero_le _, Nat.zero_le _⟩) F hA hr (fun H locs hw14 hr => ?_)
          clear hc13
          obtain ⟨rfl, rfl⟩ := zret h
          exact E _ _ _ _ dX3_takeRest_89 trivial hr
      · replace h := zi_f (fun q => q c9) h
        refine lv_aload_n F.1 F.2.1 dX3_takeRest_67 rfl (lv_at hl 0 rfl) ?_
        refine lv_iload_n F.1 F.2.1 dX3_takeRest_68 rfl (lv_at hl 2 rfl) ?_
        replace h := zc_some h
        obtain ⟨r15, z16, hc17, h⟩ := h
        refine zr_callv (zrun_V (As := [.int x2]) (rest := []) zq_1391 zq_1393 zs_X3_becomeQuiet zq_1394 zq_13 hdX3_becomeQuiet (by decide) (T := TX3) (N := 19) rfl (okX3_becomeQuiet l D cy B ids hst N x0 hx0 x2  hr.2.2 hc17) F hr hx0 hl.1 rfl (by decide) dX3_takeRest_69 rfl rfl hroX3_takeRest_X3_becomeQuiet ⟨Nat.zero_le _, Nat.zero_le _⟩) F hA hr (fun H locs hw18 hr => ?_)
        clear hc17
        refine lv_goto (tgt := 90) F.1 F.2.1 dX3_takeRest_72 (by decide) ?_
        exact bX3_takeRest_90 hst F hA E  x0 x1 x2 hx0 hx1 hr (lv_sub hl [0, 1, 2] rfl) h
    · replace h := zi_f (fun q => q c8) h
      refine lv_aload_n F.1 F.2.1 dX3_takeRest_49 rfl (lv_at hl 0 rfl) ?_
      refine lv_bipush (v := (6 : Int32)) F.1 F.2.1 dX3_takeRest_50 (by decide) ?_
      refine pf3_32 F hx0 hr dX3_takeRest_52 (6 : Int32) (fun H locs z19 ez19 hr => ?_)
      replace h := zl_sub ez19 h
      clear ez19
      refine lv_goto (tgt := 90) F.1 F.2.1 dX3_takeRest_55 (by decide) ?_
      exact bX3_takeRest_90 hst F hA E  x0 x1 x2 hx0 hx1 hr (lv_sub hl [0, 1, 2] rfl) h
def fX3_takeRest (N : Nat)  (x0 : Nat) (x1 : Nat) (x2 : Int32) (z : St) : Option (Int32 × St) := zl (zgI z 7 17 x1) fun v1 => zl (zgR z 3 16 x0) fun y2 => zd y2 fun a3 => zc (fX11_isBefore N (zgI z 6 5 a3) v1 z) fun r4 z5 => if r4 = 0 then (fX3_takeRest_25 N x0 x1 x2 v1 z5) else (zc (fX3_thankedTo N x0 v1 x2 z5) fun _ z10 => fX3_takeRest_25 N x0 x1 x2 v1 z10)
set_option maxHeartbeats 4000000 in
set_option maxRecDepth 100000 in
theorem bX3_takeRest_0 (hst : zSt B ids) (F : zFx p m c cX3_takeRest 4 s args RX3 D cy B ids A) (hA : ∀ q : Nat, s.heap.size ≤ q → A q) {r : Int32} {z' : St} (E : zEnd p l e rmX3_takeRest s m args below meth c cX3_takeRest D cy B ids A Q none z' .return_ True) {N : Nat}  (x0 : Nat) (x1 : Nat) (x2 : Int32) (hx0 : (3, x0) ∈ ids) (hx1 : (7, x1) ∈ ids) {z : St} {H : Heap} {locs : List Loc} {ls : Array Slot} (hr : zRep D cy B ids A s.heap z H locs) (hl : lv_has ls 4 [(0, .ref (B 3 x0)), (1, .ref (B 7 x1)), (2, .int x2)]) (h : fX3_takeRest N x0 x1 x2 z = some (r, z')) : W p l e rmX3_takeRest s m args below meth c H locs 0 0 Q (F0 m 0 ls []) := by
  unfold fX3_takeRest at h
  refine lv_aload_n F.1 F.2.1 dX3_takeRest_0 rfl (lv_at hl 1 rfl) ?_
  refine gf3_161 F hx1 hr dX3_takeRest_1 ?_
  refine lv_topi (fun v1 ev1 => ?_)
  replace h := zl_sub ev1 h
  refine lv_istore_n (lv' := [(3, .int v1), (0, .ref (B 3 x0)), (1, .ref (B 7 x1)), (2, .int x2)]) F.1 F.2.1 dX3_takeRest_4 rfl hl (by decide) rfl (fun ls hl => ?_)
  refine lv_aload_n F.1 F.2.1 dX3_takeRest_5 rfl (lv_at hl 1 rfl) ?_
  refine gf3_12 F hx0 hr dX3_takeRest_6 (fun y2 ey2 => ?_)
  replace h := zl_sub ey2 h
  have hy2 := zal_g hr hx0 (j := 16) rfl ey2
  clear ey2
  replace h := zd_some h
  obtain ⟨a3, rfl, h⟩ := h
  refine gf3_193 F (hy2 _ rfl) hr dX3_takeRest_9 ?_
  refine lv_iload_n F.1 F.2.1 dX3_takeRest_12 rfl (lv_at hl 0 rfl) ?_
  replace h := zc_some h
  obtain ⟨r4, z5, hc6, h⟩ := h
  refine zr_calli (zrun_SN (As := [.int (zgI z 6 5 a3), .int v1]) (rest := []) zn_1382 zq_1354 zq_1355 zq_1 hdX11_isBefore (okX11_isBefore l D cy B ids hst N (zgI z 6 5 a3)  v1  hr.2.2 hc6) F hr hl.1 rfl (by decide) dX3_takeRest_13 rfl rfl hroX3_takeRest_X11_isBefore ⟨Nat.zero_le _, Nat.zero_le _⟩) F hA hr (fun H locs hw7 hr => ?_)
  clear hc6
  refine lv_if_eq (tgt := 25) F.1 F.2.1 dX3_takeRest_16 (by decide) (fun c8 => ?_) (fun c8 => ?_)
  · replace h := zi_t c8 h
    exact bX3_takeRest_25 hst F hA E  x0 x1 x2 v1 hx0 hx1 hr (lv_sub hl [1, 2, 3, 0] rfl) h
  · replace h := zi_f c8 h
    refine lv_aload_n F.1 F.2.1 dX3_takeRest_19 rfl (lv_at hl 1 rfl) ?_
    refine lv_iload_n F.1 F.2.1 dX3_takeRest_20 rfl (lv_at hl 0 rfl) ?_
    refine lv_iload_n F.1 F.2.1 dX3_takeRest_21 rfl (lv_at hl 3 rfl) ?_
    replace h := zc_some h
    obtain ⟨r9, z10, hc11, h⟩ := h
    refine zr_callv (zrun_V (As := [.int v1, .int x2]) (rest := []) zq_1339 zq_1341 zs_X3_thankedTo zq_1342 zq_13 hdX3_thankedTo (by decide) (T := TX3) (N := 19) rfl (okX3_thankedTo l D cy B ids hst N x0 hx0 v1  x2  hr.2.2 hc11) F hr hx0 hl.1 rfl (by decide) dX3_takeRest_22 rfl rfl hroX3_takeRest_X3_thankedTo ⟨Nat.zero_le _, Nat.zero_le _⟩) F hA hr (fun H locs hw12 hr => ?_)
    clear hc11
    exact bX3_takeRest_25 hst F hA E  x0 x1 x2 v1 hx0 hx1 hr (lv_sub hl [1, 2, 3, 0] rfl) h
end SX3_takeRest
set_option maxRecDepth 100000 in
theorem okX3_takeRest (l : Launch) (D : va_G) (cy : Nat → ClassId) (B : Nat → Nat → Nat) (ids : List (Nat × Nat)) (hst : zSt B ids) (N : Nat) (x0 : Nat) (hx0 : (3, x0) ∈ ids) (x1 : Nat) (hx1 : (7, x1) ∈ ids) (x2 : Int32) {z : St} {r : Int32} {z' : St} (hW : zWf ids z) (h : fX3_takeRest N x0 x1 x2 z = some (r, z')) : zM l yX3_takeRest (zws yX3_takeRest cX3_takeRest 4 none) rmX3_takeRest D cy B ids [.ref (B 3 x0), .ref (B 7 x1), .int x2] none True z z' :=
  zM_of hst hW (by decide +kernel) (Nat.le_of_ble_eq_true rfl) (fun p e s m args below meth c A ls F hA hret hlocks hr hl => bX3_takeRest_0 hst F hA (zEnd_v F hret hlocks) x0 x1 x2 hx0 hx1 hr hl h)
abbrev rmX7_setLength : Room := { frames := 0, cells := 0, slots := 0, locals := 0 }
theorem hdX7_setLength : yX7_setLength.cls ≠ "java/lang/invoke/MethodHandle" ∧ yX7_setLength.cls ≠ "java/lang/invoke/VarHandle" ∧ (parseMethodDescriptor yX7_setLength.desc).map (fun d => d.parameters.length) = some 1 := by decide +kernel
section SX7_setLength
variable {p : Program} {l : Launch} {e : Env} {s : State} {m : MethodId} {args : Array Value} {below : List Frame} {meth : Method} {c : Code} {Q : State → Prop} {D : va_G} {cy : Nat → ClassId} {B : Nat → Nat → Nat} {ids : List (Nat × Nat)} {A : Nat → Prop}
def fX7_setLength (N : Nat)  (x0 : Nat) (x1 : Int32) (z : St) : Option (Int32 × St) := zl (zsI z 7 6 x0 x1) fun z1 => zl (zsI z1 7 7 x0 x1) fun z2 => some (0, z2)
set_option maxHeartbeats 4000000 in
set_option maxRecDepth 100000 in
theorem bX7_setLength_0 (hst : zSt B ids) (F : zFx p m c cX7_setLength 2 s args RX7 D cy B ids A) (hA : ∀ q : Nat, s.heap.size ≤ q → A q) {r : Int32} {z' : St} (E : zEnd p l e rmX7_setLength s m args below meth c cX7_setLength D cy B ids A Q none z' .return_ True) {N : Nat}  (x0 : Nat) (x1 : Int32) (hx0 : (7, x0) ∈ ids) {z : St} {H : Heap} {locs : List Loc} {ls : Array Slot} (hr : zRep D cy B ids A s.heap z H locs) (hl : lv_has ls 2 [(0, .ref (B 7 x0)), (1, .int x1)]) (h : fX7_setLength N x0 x1 z = some (r, z')) : W p l e rmX7_setLength s m args below meth c H locs 0 0 Q (F0 m 0 ls []) := by
  unfold fX7_setLength at h
  refine lv_aload_n F.1 F.2.1 dX7_setLength_0 rfl (lv_at hl 0 rfl) ?_
  refine lv_iload_n F.1 F.2.1 dX7_setLength_1 rfl (lv_at hl 1 rfl) ?_
  refine pf7_31 F hx0 hr dX7_setLength_2 x1 (fun H locs z1 ez1 hr => ?_)
  replace h := zl_sub ez1 h
  clear ez1
  refine lv_aload_n F.1 F.2.1 dX7_setLength_5 rfl (lv_at hl 0 rfl) ?_
  refine lv_iload_n F.1 F.2.1 dX7_setLength_6 rfl (lv_at hl 1 rfl) ?_
  refine pf7_34 F hx0 hr dX7_setLength_7 x1 (fun H locs z2 ez2 hr => ?_)
  replace h := zl_sub ez2 h
  clear ez2
  obtain ⟨rfl, rfl⟩ := zret h
  exact E _ _ _ _ dX7_setLength_10 trivial hr
end SX7_setLength
set_option maxRecDepth 100000 in
theorem okX7_setLength (l : Launch) (D : va_G) (cy : Nat → ClassId) (B : Nat → Nat → Nat) (ids : List (Nat × Nat)) (hst : zSt B ids) (N : Nat) (x0 : Nat) (hx0 : (7, x0) ∈ ids) (x1 : Int32) {z : St} {r : Int32} {z' : St} (hW : zWf ids z) (h : fX7_setLength N x0 x1 z = some (r, z')) : zM l yX7_setLength (zws yX7_setLength cX7_setLength 2 none) rmX7_setLength D cy B ids [.ref (B 7 x0), .int x1] none True z z' :=
  zM_of hst hW (by decide +kernel) (Nat.le_of_ble_eq_true rfl) (fun p e s m args below meth c A ls F hA hret hlocks hr hl => bX7_setLength_0 hst F hA (zEnd_v F hret hlocks) x0 x1 hx0 hr hl h)
abbrev rmX6_putBytes : Room := { frames := 1, cells := 0, slots := 0, locals := 60 }
theorem hdX6_putBytes : yX6_putBytes.cls ≠ "java/lang/invoke/MethodHandle" ∧ yX6_putBytes.cls ≠ "java/lang/invoke/VarHandle" ∧ (parseMethodDescriptor yX6_putBytes.desc).map (fun d => d.parameters.length) = some 3 := by decide +kernel
theorem hroX6_putBytes_X7_setLength : rmX7_setLength.frames + 1 ≤ rmX6_putBytes.frames ∧ 8 + (2 + 11) + rmX7_setLength.locals ≤ rmX6_putBytes.locals := by decide
section SX6_putBytes
variable {p : Program} {l : Launch} {e : Env} {s : State} {m : MethodId} {args : Array Value} {below : List Frame} {meth : Method} {c : Code} {Q : State → Prop} {D : va_G} {cy : Nat → ClassId} {B : Nat → Nat → Nat} {ids : List (Nat × Nat)} {A : Nat → Prop}
def fX6_putBytes_16b (N : Nat) (K16 : Nat → Nat → Int32 → Int32 → Int32 → St → Option (Int32 × St)) (x0 : Nat) (x1 : Nat) (x2 : Int32) (x4 : Int32) (x5 : Int32) (z : St) : Option (Int32 × St) := if x4 ≤ x5 then (zc (fX7_setLength N x1 ((20 : Int32) + x4) z) fun _ z3 => some (0, z3)) else (zk ((((zgI z 6 1 x0) + x2) + x5) &&& (2047 : Int32)) 2048 <| zk ((20 : Int32) + x5) 1480 <| zl (zsA z 125 x1 (Int32.toNatClampNeg ((20 : Int32) + x5)) (vp_nar .byte (zgA z 124 x0 (Int32.toNatClampNeg ((((zgI z 6 1 x0) + x2) + x5) &&& (2047 : Int32)))))) fun z8 => zl (x5 + 1) fun v9 => K16 x0 x1 x2 x4 v9 z8)
def fX6_putBytes_16 (N : Nat)  : Nat → Nat → Nat → Int32 → Int32 → Int32 → St → Option (Int32 × St)
  | 0 => fun _ _ _ _ _ _ => none
  | n + 1 => fX6_putBytes_16b N (fX6_putBytes_16 N  n)
set_option maxHeartbeats 4000000 in
set_option maxRecDepth 100000 in
theorem bX6_putBytes_16 (hst : zSt B ids) (F : zFx p m c cX6_putBytes 6 s args RX6 D cy B ids A) (hA : ∀ q : Nat, s.heap.size ≤ q → A q) {r : Int32} {z' : St} (E : zEnd p l e rmX6_putBytes s m args below meth c cX6_putBytes D cy B ids A Q none z' .return_ True) {N : Nat} {K16 : Nat → Nat → Int32 → Int32 → Int32 → St → Option (Int32 × St)} (hK16 : ∀ (x0 : Nat) (x1 : Nat) (x2 : Int32) (x4 : Int32) (x5 : Int32) (hx0 : (6, x0) ∈ ids) (hx1 : (7, x1) ∈ ids) {z : St} {H : Heap} {locs : List Loc} {ls : Array Slot} (hr : zRep D cy B ids A s.heap z H locs) (hl : lv_has ls 6 [(0, .ref (B 6 x0)), (1, .ref (B 7 x1)), (2, .int x2), (4, .int x4), (5, .int x5)]), K16 x0 x1 x2 x4 x5 z = some (r, z') → W p l e rmX6_putBytes s m args below meth c H locs 0 0 Q (F0 m 16 ls [])) (x0 : Nat) (x1 : Nat) (x2 : Int32) (x4 : Int32) (x5 : Int32) (hx0 : (6, x0) ∈ ids) (hx1 : (7, x1) ∈ ids) {z : St} {H : Heap} {locs : List Loc} {ls : Array Slot} (hr : zRep D cy B ids A s.heap z H locs) (hl : lv_has ls 6 [(0, .ref (B 6 x0)), (1, .ref (B 7 x1)), (2, .int x2), (4, .int x4), (5, .int x5)]) (h : fX6_putBytes_16b N K16 x0 x1 x2 x4 x5 z = some (r, z')) : W p l e rmX6_putBytes s m args below meth c H locs 0 0 Q (F0 m 16 ls []) := by
  unfold fX6_putBytes_16b at h
  refine lv_iload F.1 F.2.1 dX6_putBytes_16 (lv_at hl 4 rfl) ?_
  refine lv_iload F.1 F.2.1 dX6_putBytes_18 (lv_at hl 3 rfl) ?_
  refine lv_icmp_ge (tgt := 57) F.1 F.2.1 dX6_putBytes_20 (by decide) (fun c1 => ?_) (fun c1 => ?_)
  · replace h := zi_t c1 h
    refine lv_aload_n F.1 F.2.1 dX6_putBytes_57 rfl (lv_at hl 1 rfl) ?_
    refine lv_bipush (v := (20 : Int32)) F.1 F.2.1 dX6_putBytes_58 (by decide) ?_
    refine lv_iload F.1 F.2.1 dX6_putBytes_60 (lv_at hl 3 rfl) ?_
    refine lv_iadd F.1 F.2.1 dX6_putBytes_62 ?_
    replace h := zc_some h
    obtain ⟨r2, z3, hc4, h⟩ := h
    refine zr_callv (zrun_VN (As := [.int ((20 : Int32) + x4)]) (rest := []) zn_1622 zq_1527 zs_X7_setLength zq_1528 zq_2 hdX7_setLength (by decide) (T := TX7) (N := 20) rfl (okX7_setLength l D cy B ids hst N x1 hx1 ((20 : Int32) + x4)  hr.2.2 hc4) F hr hx1 hl.1 rfl (by decide) dX6_putBytes_63 rfl rfl hroX6_putBytes_X7_setLength ⟨Nat.zero_le _, Nat.zero_le _⟩) F hA hr (fun H locs hw5 hr => ?_)
    clear hc4
    obtain ⟨rfl, rfl⟩ := zret h
    exact E _ _ _ _ dX6_putBytes_66 trivial hr
  · replace h := zi_f c1 h
    refine lv_aload_n F.1 F.2.1 dX6_putBytes_23 rfl (lv_at hl 1 rfl) ?_
    refine gf6_69 F hx1 hr dX6_putBytes_24 ?_
    refine lv_bipush (v := (20 : Int32)) F.1 F.2.1 dX6_putBytes_27 (by decide) ?_
    refine lv_iload F.1 F.2.1 dX6_putBytes_29 (lv_at hl 4 rfl) ?_
    refine lv_iadd F.1 F.2.1 dX6_putBytes_31 ?_
    refine lv_aload_n F.1 F.2.1 dX6_putBytes_32 rfl (lv_at hl 0 rfl) ?_
    refine gf6_9 F hx0 hr dX6_putBytes_33 ?_
    refine lv_aload_n F.1 F.2.1 dX6_putBytes_36 rfl (lv_at hl 0 rfl) ?_
    refine gf6_15 F hx0 hr dX6_putBytes_37 ?_
    refine lv_iload_n F.1 F.2.1 dX6_putBytes_40 rfl (lv_at hl 2 rfl) ?_
    refine lv_iadd F.1 F.2.1 dX6_putBytes_41 ?_
    refine lv_iload F.1 F.2.1 dX6_putBytes_42 (lv_at hl 4 rfl) ?_
    refine lv_iadd F.1 F.2.1 dX6_putBytes_44 ?_
    refine lv_sipush (v := (2047 : Int32)) F.1 F.2.1 dX6_putBytes_45 (by decide) ?_
    refine lv_iand F.1 F.2.1 dX6_putBytes_48 ?_
    replace h := zk_some h
    obtain ⟨c6, h⟩ := h
    refine zr_bald (k := 124) (by decide) rfl (by decide) F (zal_a F hx0 (j := 0) rfl) hr dX6_putBytes_49 c6 ?_
    replace h := zk_some h
    obtain ⟨c7, h⟩ := h
    refine zr_bast (k := 125) (by decide) rfl (by decide) F (zal_a F hx1 (j := 8) rfl) hr dX6_putBytes_50 c7 (fun H locs z8 ez8 hr => ?_)
    replace h := zl_sub ez8 h
    clear ez8
    obtain ⟨v9, ev9⟩ : ∃ y : Int32, y = (x5 + 1) := ⟨_, rfl⟩
    replace h := zl_sub ev9 h
    refine lv_iinc (v := v9) (lv' := [(5, .int v9), (0, .ref (B 6 x0)), (1, .ref (B 7 x1)), (2, .int x2), (4, .int x4)]) F.1 F.2.1 dX6_putBytes_51 hl (k := 4) rfl (by rw [ev9]; rfl) (by decide) rfl (fun ls hl => ?_)
    refine lv_goto (tgt := 16) F.1 F.2.1 dX6_putBytes_54 (by decide) ?_
    exact hK16 x0 x1 x2 x4 v9 hx0 hx1 hr (lv_sub hl [1, 2, 3, 4, 0] rfl) h
theorem lX6_putBytes_16 (hst : zSt B ids) (F : zFx p m c cX6_putBytes 6 s args RX6 D cy B ids A) (hA : ∀ q : Nat, s.heap.size ≤ q → A q) {r : Int32} {z' : St} (E : zEnd p l e rmX6_putBytes s m args below meth c cX6_putBytes D cy B ids A Q none z' .return_ True) {N : Nat}  : ∀ (n : Nat) (x0 : Nat) (x1 : Nat) (x2 : Int32) (x4 : Int32) (x5 : Int32) (hx0 : (6, x0) ∈ ids) (hx1 : (7, x1) ∈ ids) {z : St} {H : Heap} {locs : List Loc} {ls : Array Slot} (hr : zRep D cy B ids A s.heap z H locs) (hl : lv_has ls 6 [(0, .ref (B 6 x0)), (1, .ref (B 7 x1)), (2, .int x2), (4, .int x4), (5, .int x5)]), fX6_putBytes_16 N  n x0 x1 x2 x4 x5 z = some (r, z') → W p l e rmX6_putBytes s m args below meth c H locs 0 0 Q (F0 m 16 ls []) := by
  intro n
  induction n with
  | zero => intro x0 x1 x2 x4 x5 hx0 hx1 z H locs ls hr hl h; cases h
  | succ n ih => intro x0 x1 x2 x4 x5 hx0 hx1 z H locs ls hr hl h; exact bX6_putBytes_16 hst F hA E ih x0 x1 x2 x4 x5 hx0 hx1 hr hl h
def fX6_putBytes (N : Nat)  (x0 : Nat) (x1 : Nat) (x2 : Int32) (x3 : Int32) (z : St) : Option (Int32 × St) := zl (if (0 : Int32) < (if (1460 : Int32) < x3 then (1460 : Int32) else x3) then (if (1460 : Int32) < x3 then (1460 : Int32) else x3) else (0 : Int32)) fun v1 => fX6_putBytes_16 N N x0 x1 x2 v1 (0 : Int32) z
set_option maxHeartbeats 4000000 in
set_option maxRecDepth 100000 in
theorem bX6_putBytes_0 (hst : zSt B ids) (F : zFx p m c cX6_putBytes 6 s args RX6 D cy B ids A) (hA : ∀ q : Nat, s.heap.size ≤ q → A q) {r : Int32} {z' : St} (E : zEnd p l e rmX6_putBytes s m args below meth c cX6_putBytes D cy B ids A Q none z' .return_ True) {N : Nat}  (x0 : Nat) (x1 : Nat) (x2 : Int32) (x3 : Int32) (hx0 : (6, x0) ∈ ids) (hx1 : (7, x1) ∈ ids) {z : St} {H : Heap} {locs : List Loc} {ls : Array Slot} (hr : zRep D cy B ids A s.heap z H locs) (hl : lv_has ls 6 [(0, .ref (B 6 x0)), (1, .ref (B 7 x1)), (2, .int x2), (3, .int x3)]) (h : fX6_putBytes N x0 x1 x2 x3 z = some (r, z')) : W p l e rmX6_putBytes s m args below meth c H locs 0 0 Q (F0 m 0 ls []) := by
  unfold fX6_putBytes at h
  refine lv_iconst (v := (0 : Int32)) F.1 F.2.1 dX6_putBytes_0 (by decide) ?_
  refine lv_iload_n F.1 F.2.1 dX6_putBytes_1 rfl (lv_at hl 3 rfl) ?_
  refine lv_sipush (v := (1460 : Int32)) F.1 F.2.1 dX6_putBytes_2 (by decide) ?_
  refine va_mmin F.1 F.2.1 (F.2.2.1.trans hl.1.symm) F.2.2.2.1 (F.2.2.2.2.1 _ zq_1347) (F.2.2.2.2.1 _ zq_304) (F.2.2.2.2.1 _ zq_27) (F.2.2.2.2.1 _ zq_305) (Nat.le_of_ble_eq_true rfl) (Nat.le_of_ble_eq_true rfl) (Nat.zero_le _) (Nat.zero_le _) dX6_putBytes_5 ?_
  refine va_mmax F.1 F.2.1 (F.2.2.1.trans hl.1.symm) F.2.2.2.1 (F.2.2.2.2.1 _ zq_1348) (F.2.2.2.2.1 _ zq_275) (F.2.2.2.2.1 _ zq_27) (F.2.2.2.2.1 _ zq_276) (Nat.le_of_ble_eq_true rfl) (Nat.le_of_ble_eq_true rfl) (Nat.zero_le _) (Nat.zero_le _) dX6_putBytes_8 ?_
  refine lv_topi (fun v1 ev1 => ?_)
  replace h := zl_sub ev1 h
  refine lv_istore (lv' := [(4, .int v1), (0, .ref (B 6 x0)), (1, .ref (B 7 x1)), (2, .int x2), (3, .int x3)]) F.1 F.2.1 dX6_putBytes_11 hl (by decide) rfl (fun ls hl => ?_)
  refine lv_iconst (v := (0 : Int32)) F.1 F.2.1 dX6_putBytes_13 (by decide) ?_
  refine lv_istore (lv' := [(5, .int (0 : Int32)), (4, .int v1), (0, .ref (B 6 x0)), (1, .ref (B 7 x1)), (2, .int x2), (3, .int x3)]) F.1 F.2.1 dX6_putBytes_14 hl (by decide) rfl (fun ls hl => ?_)
  exact lX6_putBytes_16 hst F hA E  _ x0 x1 x2 v1 (0 : Int32) hx0 hx1 hr (lv_sub hl [2, 3, 4, 1, 0] rfl) h
end SX6_putBytes
set_option maxRecDepth 100000 in
theorem okX6_putBytes (l : Launch) (D : va_G) (cy : Nat → ClassId) (B : Nat → Nat → Nat) (ids : List (Nat × Nat)) (hst : zSt B ids) (N : Nat) (x0 : Nat) (hx0 : (6, x0) ∈ ids) (x1 : Nat) (hx1 : (7, x1) ∈ ids) (x2 : Int32) (x3 : Int32) {z : St} {r : Int32} {z' : St} (hW : zWf ids z) (h : fX6_putBytes N x0 x1 x2 x3 z = some (r, z')) : zM l yX6_putBytes (zws yX6_putBytes cX6_putBytes 6 none) rmX6_putBytes D cy B ids [.ref (B 6 x0), .ref (B 7 x1), .int x2, .int x3] none True z z' :=
  zM_of hst hW (by decide +kernel) (Nat.le_of_ble_eq_true rfl) (fun p e s m args below meth c A ls F hA hret hlocks hr hl => bX6_putBytes_0 hst F hA (zEnd_v F hret hlocks) x0 x1 x2 x3 hx0 hx1 hr hl h)
abbrev rmX7_beginSegment : Room := { frames := 1, cells := 0, slots := 0, locals := 23 }
theorem hdX7_beginSegment : yX7_beginSegment.cls ≠ "java/lang/invoke/MethodHandle" ∧ yX7_beginSegment.cls ≠ "java/lang/invoke/VarHandle" ∧ (parseMethodDescriptor yX7_beginSegment.desc).map (fun d => d.parameters.length) = some 4 := by decide +kernel
theorem hroX7_beginSegment_X7_begin : rmX7_begin.frames + 1 ≤ rmX7_beginSegment.frames ∧ 8 + (3 + 11) + rmX7_begin.locals ≤ rmX7_beginSegment.locals := by decide
theorem hroX7_beginSegment_X7_put2 : rmX7_put2.frames + 1 ≤ rmX7_beginSegment.frames ∧ 8 + (3 + 11) + rmX7_put2.locals ≤ rmX7_beginSegment.locals := by decide
theorem hroX7_beginSegment_X7_put4 : rmX7_put4.frames + 1 ≤ rmX7_beginSegment.frames ∧ 8 + (4 + 11) + rmX7_put4.locals ≤ rmX7_beginSegment.locals := by decide
section SX7_beginSegment
variable {p : Program} {l : Launch} {e : Env} {s : State} {m : MethodId} {args : Array Value} {below : List Frame} {meth : Method} {c : Code} {Q : State → Prop} {D : va_G} {cy : Nat → ClassId} {B : Nat → Nat → Nat} {ids : List (Nat × Nat)} {A : Nat → Prop}
def fX7_beginSegment (N : Nat)  (x0 : Nat) (x1 : Int32) (x2 : Int32) (x3 : Int32) (x4 : Int32) (z : St) : Option (Int32 × St) := zc (fX7_begin N x0 (1 : Int32) (20 : Int32) z) fun _ z2 => zc (fX7_put4 N x0 (4 : Int32) x2 z2) fun _ z6 => zc (fX7_put4 N x0 (8 : Int32) x3 z6) fun _ z10 => zc (fX7_put2 N x0 (12 : Int32) x1 z10) fun _ z14 => zc (fX7_put2 N x0 (14 : Int32) x4 z14) fun _ z18 => zc (fX7_put2 N x0 (16 : Int32) (0 : Int32) z18) fun _ z22 => some (0, z22)
set_option maxHeartbeats 4000000 in
set_option maxRecDepth 100000 in
theorem bX7_beginSegment_0 (hst : zSt B ids) (F : zFx p m c cX7_beginSegment 5 s args RX7 D cy B ids A) (hA : ∀ q : Nat, s.heap.size ≤ q → A q) {r : Int32} {z' : St} (E : zEnd p l e rmX7_beginSegment s m args below meth c cX7_beginSegment D cy B ids A Q none z' .return_ True) {N : Nat}  (x0 : Nat) (x1 : Int32) (x2 : Int32) (x3 : Int32) (x4 : Int32) (hx0 : (7, x0) ∈ ids) {z : St} {H : Heap} {locs : List Loc} {ls : Array Slot} (hr : zRep D cy B ids A s.heap z H locs) (hl : lv_has ls 5 [(0, .ref (B 7 x0)), (1, .int x1), (2, .int x2), (3, .int x3), (4, .int x4)]) (h : fX7_beginSegment N x0 x1 x2 x3 x4 z = some (r, z')) : W p l e rmX7_beginSegment s m args below meth c H locs 0 0 Q (F0 m 0 ls []) := by
  unfold fX7_beginSegment at h
  refine lv_aload_n F.1 F.2.1 dX7_beginSegment_0 rfl (lv_at hl 0 rfl) ?_
  refine lv_iconst (v := (1 : Int32)) F.1 F.2.1 dX7_beginSegment_1 (by decide) ?_
  refine lv_bipush (v := (20 : Int32)) F.1 F.2.1 dX7_beginSegment_2 (by decide) ?_
  replace h := zc_some h
  obtain ⟨r1, z2, hc3, h⟩ := h
  refine zr_callv (zrun_V (As := [.int (1 : Int32), .int (20 : Int32)]) (rest := []) zq_1299 zq_1088 zs_X7_begin zq_1089 zq_2 hdX7_begin (by decide) (T := TX7) (N := 20) rfl (okX7_begin l D cy B ids hst N x0 hx0 (1 : Int32)  (20 : Int32)  hr.2.2 hc3) F hr hx0 hl.1 rfl (by decide) dX7_beginSegment_4 rfl rfl hroX7_beginSegment_X7_begin ⟨Nat.zero_le _, Nat.zero_le _⟩) F hA hr (fun H locs hw4 hr => ?_)
  clear hc3
  refine lv_aload_n F.1 F.2.1 dX7_beginSegment_7 rfl (lv_at hl 0 rfl) ?_
  refine lv_iconst (v := (4 : Int32)) F.1 F.2.1 dX7_beginSegment_8 (by decide) ?_
  refine lv_iload_n F.1 F.2.1 dX7_beginSegment_9 rfl (lv_at hl 2 rfl) ?_
  replace h := zc_some h
  obtain ⟨r5, z6, hc7, h⟩ := h
  refine zr_callv (zrun_V (As := [.int (4 : Int32), .int x2]) (rest := []) zq_1300 zq_1302 zs_X7_put4 zq_1303 zq_2 hdX7_put4 (by decide) (T := TX7) (N := 20) rfl (okX7_put4 l D cy B ids hst N x0 hx0 (4 : Int32)  x2  hr.2.2 hc7) F hr hx0 hl.1 rfl (by decide) dX7_beginSegment_10 rfl rfl hroX7_beginSegment_X7_put4 ⟨Nat.zero_le _, Nat.zero_le _⟩) F hA hr (fun H locs hw8 hr => ?_)
  clear hc7
  refine lv_aload_n F.1 F.2.1 dX7_beginSegment_13 rfl (lv_at hl 0 rfl) ?_
  refine lv_bipush (v := (8 : Int32)) F.1 F.2.1 dX7_beginSegment_14 (by decide) ?_
  refine lv_iload_n F.1 F.2.1 dX7_beginSegment_16 rfl (lv_at hl 3 rfl) ?_
  replace h := zc_some h
  obtain ⟨r9, z10, hc11, h⟩ := h
  refine zr_callv (zrun_V (As := [.int (8 : Int32), .int x3]) (rest := []) zq_1300 zq_1302 zs_X7_put4 zq_1303 zq_2 hdX7_put4 (by decide) (T := TX7) (N := 20) rfl (okX7_put4 l D cy B ids hst N x0 hx0 (8 : Int32)  x3  hr.2.2 hc11) F hr hx0 hl.1 rfl (by decide) dX7_beginSegment_17 rfl rfl hroX7_beginSegment_X7_put4 ⟨Nat.zero_le _, Nat.zero_le _⟩) F hA hr (fun H locs hw12 hr => ?_)
  clear hc11
  refine lv_aload_n F.1 F.2.1 dX7_beginSegment_20 rfl (lv_at hl 0 rfl) ?_
  refine lv_bipush (v := (12 : Int32)) F.1 F.2.1 dX7_beginSegment_21 (by decide) ?_
  refine lv_iload_n F.1 F.2.1 dX7_beginSegment_23 rfl (lv_at hl 1 rfl) ?_
  replace h := zc_some h
  obtain ⟨r13, z14, hc15, h⟩ := h
  refine zr_callv (zrun_V (As := [.int (12 : Int32), .int x1]) (rest := []) zq_1304 zq_1306 zs_X7_put2 zq_1307 zq_2 hdX7_put2 (by decide) (T := TX7) (N := 20) rfl (okX7_put2 l D cy B ids hst N x0 hx0 (12 : Int32)  x1  hr.2.2 hc15) F hr hx0 hl.1 rfl (by decide) dX7_beginSegment_24 rfl rfl hroX7_beginSegment_X7_put2 ⟨Nat.zero_le _, Nat.zero_le _⟩) F hA hr (fun H locs hw16 hr => ?_)
  clear hc15
  refine lv_aload_n F.1 F.2.1 dX7_beginSegment_27 rfl (lv_at hl 0 rfl) ?_
  refine lv_bipush (v := (14 : Int32)) F.1 F.2.1 dX7_beginSegment_28 (by decide) ?_
  refine lv_iload F.1 F.2.1 dX7_beginSegment_30 (lv_at hl 4 rfl) ?_
  replace h := zc_some h
  obtain ⟨r17, z18, hc19, h⟩ := h
  refine zr_callv (zrun_V (As := [.int (14 : Int32), .int x4]) (rest := []) zq_1304 zq_1306 zs_X7_put2 zq_1307 zq_2 hdX7_put2 (by decide) (T := TX7) (N := 20) rfl (okX7_put2 l D cy B ids hst N x0 hx0 (14 : Int32)  x4  hr.2.2 hc19) F hr hx0 hl.1 rfl (by decide) dX7_beginSegment_32 rfl rfl hroX7_beginSegment_X7_put2 ⟨Nat.zero_le _, Nat.zero_le _⟩) F hA hr (fun H locs hw20 hr => ?_)
  clear hc19
  refine lv_aload_n F.1 F.2.1 dX7_beginSegment_35 rfl (lv_at hl 0 rfl) ?_
  refine lv_bipush (v := (16 : Int32)) F.1 F.2.1 dX7_beginSegment_36 (by decide) ?_
  refine lv_iconst (v := (0 : Int32)) F.1 F.2.1 dX7_beginSegment_38 (by decide) ?_
  replace h := zc_some h
  obtain ⟨r21, z22, hc23, h⟩ := h
  refine zr_callv (zrun_V (As := [.int (16 : Int32), .int (0 : Int32)]) (rest := []) zq_1304 zq_1306 zs_X7_put2 zq_1307 zq_2 hdX7_put2 (by decide) (T := TX7) (N := 20) rfl (okX7_put2 l D cy B ids hst N x0 hx0 (16 : Int32)  (0 : Int32)  hr.2.2 hc23) F hr hx0 hl.1 rfl (by decide) dX7_beginSegment_39 rfl rfl hroX7_beginSegment_X7_put2 ⟨Nat.zero_le _, Nat.zero_le _⟩) F hA hr (fun H locs hw24 hr => ?_)
  clear hc23
  obtain ⟨rfl, rfl⟩ := zret h
  exact E _ _ _ _ dX7_beginSegment_42 trivial hr
end SX7_beginSegment
set_option maxRecDepth 100000 in
theorem okX7_beginSegment (l : Launch) (D : va_G) (cy : Nat → ClassId) (B : Nat → Nat → Nat) (ids : List (Nat × Nat)) (hst : zSt B ids) (N : Nat) (x0 : Nat) (hx0 : (7, x0) ∈ ids) (x1 : Int32) (x2 : Int32) (x3 : Int32) (x4 : Int32) {z : St} {r : Int32} {z' : St} (hW : zWf ids z) (h : fX7_beginSegment N x0 x1 x2 x3 x4 z = some (r, z')) : zM l yX7_beginSegment (zws yX7_beginSegment cX7_beginSegment 5 none) rmX7_beginSegment D cy B ids [.ref (B 7 x0), .int x1, .int x2, .int x3, .int x4] none True z z' :=
  zM_of hst hW (by decide +kernel) (Nat.le_of_ble_eq_true rfl) (fun p e s m args below meth c A ls F hA hret hlocks hr hl => bX7_beginSegment_0 hst F hA (zEnd_v F hret hlocks) x0 x1 x2 x3 x4 hx0 hr hl h)
abbrev rmX3_makeBytes : Room := { frames := 2, cells := 0, slots := 0, locals := 85 }
theorem hdX3_makeBytes : yX3_makeBytes.cls ≠ "java/lang/invoke/MethodHandle" ∧ yX3_makeBytes.cls ≠ "java/lang/invoke/VarHandle" ∧ (parseMethodDescriptor yX3_makeBytes.desc).map (fun d => d.parameters.length) = some 5 := by decide +kernel
theorem hroX3_makeBytes_X4_room : rmX4_room.frames + 1 ≤ rmX3_makeBytes.frames ∧ 8 + (1 + 11) + rmX4_room.locals ≤ rmX3_makeBytes.locals := by decide
theorem hroX3_makeBytes_X6_putBytes : rmX6_putBytes.frames + 1 ≤ rmX3_makeBytes.frames ∧ 8 + (6 + 11) + rmX6_putBytes.locals ≤ rmX3_makeBytes.locals := by decide
theorem hroX3_makeBytes_X7_beginSegment : rmX7_beginSegment.frames + 1 ≤ rmX3_makeBytes.frames ∧ 8 + (5 + 11) + rmX7_beginSegment.locals ≤ rmX3_makeBytes.locals := by decide
section SX3_makeBytes
variable {p : Program} {l : Launch} {e : Env} {s : State} {m : MethodId} {args : Array Value} {below : List Frame} {meth : Method} {c : Code} {Q : State → Prop} {D : va_G} {cy : Nat → ClassId} {B : Nat → Nat → Nat} {ids : List (Nat × Nat)} {A : Nat → Prop}
def fX3_makeBytes_13 (N : Nat)  (x0 : Nat) (x1 : Nat) (x2 : Int32) (x3 : Int32) (x4 : Int32) (s0 : Nat) (s1 : Int32) (z : St) : Option (Int32 × St) := zl (zgR z 3 17 x0) fun y1 => zd y1 fun a2 => zl (zgR z 3 17 x0) fun y3 => zd y3 fun a4 => zc (fX4_room N a4 z) fun r5 z6 => zc (fX7_beginSegment N s0 s1 x2 (zgI z 4 4 a2) r5 z6) fun _ z10 => zl (zgR z10 3 16 x0) fun y13 => zd y13 fun a14 => zc (fX6_putBytes N a14 x1 x3 x4 z10) fun _ z16 => zl (zsI z16 3 13 x0 (0 : Int32)) fun z19 => some (0, z19)
set_option maxHeartbeats 4000000 in
set_option maxRecDepth 100000 in
theorem bX3_makeBytes_13 (hst : zSt B ids) (F : zFx p m c cX3_makeBytes 6 s args RX3 D cy B ids A) (hA : ∀ q : Nat, s.heap.size ≤ q → A q) {r : Int32} {z' : St} (E : zEnd p l e rmX3_makeBytes s m args below meth c cX3_makeBytes D cy B ids A Q none z' .return_ True) {N : Nat}  (x0 : Nat) (x1 : Nat) (x2 : Int32) (x3 : Int32) (x4 : Int32) (s0 : Nat) (s1 : Int32) (hx0 : (3, x0) ∈ ids) (hx1 : (7, x1) ∈ ids) (hs0 : (7, s0) ∈ ids) {z : St} {H : Heap} {locs : List Loc} {ls : Array Slot} (hr : zRep D cy B ids A s.heap z H locs) (hl : lv_has ls 6 [(0, .ref (B 3 x0)), (1, .ref (B 7 x1)), (2, .int x2), (3, .int x3), (4, .int x4)]) (h : fX3_makeBytes_13 N x0 x1 x2 x3 x4 s0 s1 z = some (r, z')) : W p l e rmX3_makeBytes s m args below meth c H locs 0 0 Q (F0 m 13 ls [.int s1, .ref (B 7 s0)]) := by
  unfold fX3_makeBytes_13 at h
  refine lv_iload_n F.1 F.2.1 dX3_makeBytes_13 rfl (lv_at hl 2 rfl) ?_
  refine lv_aload_n F.1 F.2.1 dX3_makeBytes_14 rfl (lv_at hl 0 rfl) ?_
  refine gf3_21 F hx0 hr dX3_makeBytes_15 (fun y1 ey1 => ?_)
  replace h := zl_sub ey1 h
  have hy1 := zal_g hr hx0 (j := 17) rfl ey1
  clear ey1
  replace h := zd_some h
  obtain ⟨a2, rfl, h⟩ := h
  refine gf3_104 F (hy1 _ rfl) hr dX3_makeBytes_18 ?_
  refine lv_aload_n F.1 F.2.1 dX3_makeBytes_21 rfl (lv_at hl 0 rfl) ?_
  refine gf3_21 F hx0 hr dX3_makeBytes_22 (fun y3 ey3 => ?_)
  replace h := zl_sub ey3 h
  have hy3 := zal_g hr hx0 (j := 17) rfl ey3
  clear ey3
  replace h := zd_some h
  obtain ⟨a4, rfl, h⟩ := h
  replace h := zc_some h
  obtain ⟨r5, z6, hc7, h⟩ := h
  refine zr_calli (zrun_VN (As := []) (rest := [.int (zgI z 4 4 a2), .int x2, .int s1, .ref (B 7 s0)]) zn_1604 zq_1376 zs_X4_room zq_1377 zq_15 hdX4_room (by decide) (T := TX4) (N := 8) rfl (okX4_room l D cy B ids hst N a4 (hy3 _ rfl) hr.2.2 hc7) F hr (hy3 _ rfl) hl.1 rfl (Nat.le_of_ble_eq_true rfl) dX3_makeBytes_25 rfl rfl hroX3_makeBytes_X4_room ⟨Nat.zero_le _, Nat.zero_le _⟩) F hA hr (fun H locs hw8 hr => ?_)
  clear hc7
  replace h := zc_some h
  obtain ⟨r9, z10, hc11, h⟩ := h
  refine zr_callv (zrun_VN (As := [.int s1, .int x2, .int (zgI z 4 4 a2), .int r5]) (rest := []) zn_1599 zq_1297 zs_X7_beginSegment zq_1298 zq_2 hdX7_beginSegment (by decide) (T := TX7) (N := 20) rfl (okX7_beginSegment l D cy B ids hst N s0 hs0 s1  x2  (zgI z 4 4 a2)  r5  hr.2.2 hc11) F hr hs0 hl.1 rfl (by decide) dX3_makeBytes_28 rfl rfl hroX3_makeBytes_X7_beginSegment ⟨Nat.zero_le _, Nat.zero_le _⟩) F hA hr (fun H locs hw12 hr => ?_)
  clear hc11
  refine lv_aload_n F.1 F.2.1 dX3_makeBytes_31 rfl (lv_at hl 0 rfl) ?_
  refine gf3_12 F hx0 hr dX3_makeBytes_32 (fun y13 ey13 => ?_)
  replace h := zl_sub ey13 h
  have hy13 := zal_g hr hx0 (j := 16) rfl ey13
  clear ey13
  refine lv_aload_n F.1 F.2.1 dX3_makeBytes_35 rfl (lv_at hl 1 rfl) ?_
  refine lv_iload_n F.1 F.2.1 dX3_makeBytes_36 rfl (lv_at hl 3 rfl) ?_
  refine lv_iload F.1 F.2.1 dX3_makeBytes_37 (lv_at hl 4 rfl) ?_
  replace h := zd_some h
  obtain ⟨a14, rfl, h⟩ := h
  replace h := zc_some h
  obtain ⟨r15, z16, hc17, h⟩ := h
  refine zr_callv (zrun_VN (As := [.ref (B 7 x1), .int x3, .int x4]) (rest := []) zn_1618 zq_1620 zs_X6_putBytes zq_1621 zq_14 hdX6_putBytes (by decide) (T := TX6) (N := 14) rfl (okX6_putBytes l D cy B ids hst N a14 (hy13 _ rfl) x1 hx1 x3  x4  hr.2.2 hc17) F hr (hy13 _ rfl) hl.1 rfl (by decide) dX3_makeBytes_39 rfl rfl hroX3_makeBytes_X6_putBytes ⟨Nat.zero_le _, Nat.zero_le _⟩) F hA hr (fun H locs hw18 hr => ?_)
  clear hc17
  refine lv_aload_n F.1 F.2.1 dX3_makeBytes_42 rfl (lv_at hl 0 rfl) ?_
  refine lv_iconst (v := (0 : Int32)) F.1 F.2.1 dX3_makeBytes_43 (by decide) ?_
  refine pf3_71 F hx0 hr dX3_makeBytes_44 (0 : Int32) (by decide) (fun H locs z19 ez19 hr => ?_)
  replace h := zl_sub ez19 h
  clear ez19
  obtain ⟨rfl, rfl⟩ := zret h
  exact E _ _ _ _ dX3_makeBytes_47 trivial hr
def fX3_makeBytes (N : Nat)  (x0 : Nat) (x1 : Nat) (x2 : Int32) (x3 : Int32) (x4 : Int32) (x5 : Int32) (z : St) : Option (Int32 × St) := if x5 = 0 then (fX3_makeBytes_13 N x0 x1 x2 x3 x4 x1 (8 : Int32) z) else (fX3_makeBytes_13 N x0 x1 x2 x3 x4 x1 (10 : Int32) z)
set_option maxHeartbeats 4000000 in
set_option maxRecDepth 100000 in
theorem bX3_makeBytes_0 (hst : zSt B ids) (F : zFx p m c cX3_makeBytes 6 s args RX3 D cy B ids A) (hA : ∀ q : Nat, s.heap.size ≤ q → A q) {r : Int32} {z' : St} (E : zEnd p l e rmX3_makeBytes s m args below meth c cX3_makeBytes D cy B ids A Q none z' .return_ True) {N : Nat}  (x0 : Nat) (x1 : Nat) (x2 : Int32) (x3 : Int32) (x4 : Int32) (x5 : Int32) (hx0 : (3, x0) ∈ ids) (hx1 : (7, x1) ∈ ids) {z : St} {H : Heap} {locs : List Loc} {ls : Array Slot} (hr : zRep D cy B ids A s.heap z H locs) (hl : lv_has ls 6 [(0, .ref (B 3 x0)), (1, .ref (B 7 x1)), (2, .int x2), (3, .int x3), (4, .int x4), (5, .int x5)]) (h : fX3_makeBytes N x0 x1 x2 x3 x4 x5 z = some (r, z')) : W p l e rmX3_makeBytes s m args below meth c H locs 0 0 Q (F0 m 0 ls []) := by
  unfold fX3_makeBytes at h
  refine lv_aload_n F.1 F.2.1 dX3_makeBytes_0 rfl (lv_at hl 1 rfl) ?_
  refine lv_iload F.1 F.2.1 dX3_makeBytes_1 (lv_at hl 5 rfl) ?_
  refine lv_if_eq (tgt := 11) F.1 F.2.1 dX3_makeBytes_3 (by decide) (fun c1 => ?_) (fun c1 => ?_)
  · replace h := zi_t c1 h
    refine lv_bipush (v := (8 : Int32)) F.1 F.2.1 dX3_makeBytes_11 (by decide) ?_
    exact bX3_makeBytes_13 hst F hA E  x0 x1 x2 x3 x4 x1 (8 : Int32) hx0 hx1 hx1 hr (lv_sub hl [0, 1, 2, 3, 4] rfl) h
  · replace h := zi_f c1 h
    refine lv_bipush (v := (10 : Int32)) F.1 F.2.1 dX3_makeBytes_6 (by decide) ?_
    refine lv_goto (tgt := 13) F.1 F.2.1 dX3_makeBytes_8 (by decide) ?_
    exact bX3_makeBytes_13 hst F hA E  x0 x1 x2 x3 x4 x1 (10 : Int32) hx0 hx1 hx1 hr (lv_sub hl [0, 1, 2, 3, 4] rfl) h
end SX3_makeBytes
set_option maxRecDepth 100000 in
theorem okX3_makeBytes (l : Launch) (D : va_G) (cy : Nat → ClassId) (B : Nat → Nat → Nat) (ids : List (Nat × Nat)) (hst : zSt B ids) (N : Nat) (x0 : Nat) (hx0 : (3, x0) ∈ ids) (x1 : Nat) (hx1 : (7, x1) ∈ ids) (x2 : Int32) (x3 : Int32) (x4 : Int32) (x5 : Int32) {z : St} {r : Int32} {z' : St} (hW : zWf ids z) (h : fX3_makeBytes N x0 x1 x2 x3 x4 x5 z = some (r, z')) : zM l yX3_makeBytes (zws yX3_makeBytes cX3_makeBytes 6 none) rmX3_makeBytes D cy B ids [.ref (B 3 x0), .ref (B 7 x1), .int x2, .int x3, .int x4, .int x5] none True z z' :=
  zM_of hst hW (by decide +kernel) (Nat.le_of_ble_eq_true rfl) (fun p e s m args below meth c A ls F hA hret hlocks hr hl => bX3_makeBytes_0 hst F hA (zEnd_v F hret hlocks) x0 x1 x2 x3 x4 x5 hx0 hx1 hr hl h)
abbrev rmX3_makeAgain : Room := { frames := 3, cells := 0, slots := 0, locals := 110 }
theorem hdX3_makeAgain : yX3_makeAgain.cls ≠ "java/lang/invoke/MethodHandle" ∧ yX3_makeAgain.cls ≠ "java/lang/invoke/VarHandle" ∧ (parseMethodDescriptor yX3_makeAgain.desc).map (fun d => d.parameters.length) = some 1 := by decide +kernel
theorem hroX3_makeAgain_X3_makeBytes : rmX3_makeBytes.frames + 1 ≤ rmX3_makeAgain.frames ∧ 8 + (6 + 11) + rmX3_makeBytes.locals ≤ rmX3_makeAgain.locals := by decide
section SX3_makeAgain
variable {p : Program} {l : Launch} {e : Env} {s : State} {m : MethodId} {args : Array Value} {below : List Frame} {meth : Method} {c : Code} {Q : State → Prop} {D : va_G} {cy : Nat → ClassId} {B : Nat → Nat → Nat} {ids : List (Nat × Nat)} {A : Nat → Prop}
def fX3_makeAgain_64 (N : Nat)  (x0 : Nat) (x1 : Nat) (x2 : Int32) (s0 : Int32) (z : St) : Option (Int32 × St) := zl (zgR z 3 16 x0) fun y1 => zd y1 fun a2 => zc (fX3_makeBytes N x0 x1 (zgI z 6 5 a2) (0 : Int32) x2 s0 z) fun _ z4 => some (0, z4)
set_option maxHeartbeats 4000000 in
set_option maxRecDepth 100000 in
theorem bX3_makeAgain_64 (hst : zSt B ids) (F : zFx p m c cX3_makeAgain 4 s args RX3 D cy B ids A) (hA : ∀ q : Nat, s.heap.size ≤ q → A q) {r : Int32} {z' : St} (E : zEnd p l e rmX3_makeAgain s m args below meth c cX3_makeAgain D cy B ids A Q none z' .return_ True) {N : Nat}  (x0 : Nat) (x1 : Nat) (x2 : Int32) (s0 : Int32) (hx0 : (3, x0) ∈ ids) (hx1 : (7, x1) ∈ ids) {z : St} {H : Heap} {locs : List Loc} {ls : Array Slot} (hr : zRep D cy B ids A s.heap z H locs) (hl : lv_has ls 4 [(0, .ref (B 3 x0)), (1, .ref (B 7 x1)), (2, .int x2)]) (h : fX3_makeAgain_64 N x0 x1 x2 s0 z = some (r, z')) : W p l e rmX3_makeAgain s m args below meth c H locs 0 0 Q (F0 m 64 ls [.int s0]) := by
  unfold fX3_makeAgain_64 at h
  refine lv_istore_n (lv' := [(3, .int s0), (0, .ref (B 3 x0)), (1, .ref (B 7 x1)), (2, .int x2)]) F.1 F.2.1 dX3_makeAgain_64 rfl hl (by decide) rfl (fun ls hl => ?_)
  refine lv_aload_n F.1 F.2.1 dX3_makeAgain_65 rfl (lv_at hl 1 rfl) ?_
  refine lv_aload_n F.1 F.2.1 dX3_makeAgain_66 rfl (lv_at hl 2 rfl) ?_
  refine lv_aload_n F.1 F.2.1 dX3_makeAgain_67 rfl (lv_at hl 1 rfl) ?_
  refine gf3_12 F hx0 hr dX3_makeAgain_68 (fun y1 ey1 => ?_)
  replace h := zl_sub ey1 h
  have hy1 := zal_g hr hx0 (j := 16) rfl ey1
  clear ey1
  replace h := zd_some h
  obtain ⟨a2, rfl, h⟩ := h
  refine gf3_193 F (hy1 _ rfl) hr dX3_makeAgain_71 ?_
  refine lv_iconst (v := (0 : Int32)) F.1 F.2.1 dX3_makeAgain_74 (by decide) ?_
  refine lv_iload_n F.1 F.2.1 dX3_makeAgain_75 rfl (lv_at hl 3 rfl) ?_
  refine lv_iload_n F.1 F.2.1 dX3_makeAgain_76 rfl (lv_at hl 0 rfl) ?_
  replace h := zc_some h
  obtain ⟨r3, z4, hc5, h⟩ := h
  refine zr_callv (zrun_V (As := [.ref (B 7 x1), .int (zgI z 6 5 a2), .int (0 : Int32), .int x2, .int s0]) (rest := []) zq_1614 zq_1616 zs_X3_makeBytes zq_1617 zq_13 hdX3_makeBytes (by decide) (T := TX3) (N := 19) rfl (okX3_makeBytes l D cy B ids hst N x0 hx0 x1 hx1 (zgI z 6 5 a2)  (0 : Int32)  x2  s0  hr.2.2 hc5) F hr hx0 hl.1 rfl (by decide) dX3_makeAgain_77 rfl rfl hroX3_makeAgain_X3_makeBytes ⟨Nat.zero_le _, Nat.zero_le _⟩) F hA hr (fun H locs hw6 hr => ?_)
  clear hc5
  obtain ⟨rfl, rfl⟩ := zret h
  exact E _ _ _ _ dX3_makeAgain_80 trivial hr
def fX3_makeAgain_63 (N : Nat)  (x0 : Nat) (x1 : Nat) (x2 : Int32) (z : St) : Option (Int32 × St) := fX3_makeAgain_64 N x0 x1 x2 (0 : Int32) z
set_option maxHeartbeats 4000000 in
set_option maxRecDepth 100000 in
theorem bX3_makeAgain_63 (hst : zSt B ids) (F : zFx p m c cX3_makeAgain 4 s args RX3 D cy B ids A) (hA : ∀ q : Nat, s.heap.size ≤ q → A q) {r : Int32} {z' : St} (E : zEnd p l e rmX3_makeAgain s m args below meth c cX3_makeAgain D cy B ids A Q none z' .return_ True) {N : Nat}  (x0 : Nat) (x1 : Nat) (x2 : Int32) (hx0 : (3, x0) ∈ ids) (hx1 : (7, x1) ∈ ids) {z : St} {H : Heap} {locs : List Loc} {ls : Array Slot} (hr : zRep D cy B ids A s.heap z H locs) (hl : lv_has ls 4 [(0, .ref (B 3 x0)), (1, .ref (B 7 x1)), (2, .int x2)]) (h : fX3_makeAgain_63 N x0 x1 x2 z = some (r, z')) : W p l e rmX3_makeAgain s m args below meth c H locs 0 0 Q (F0 m 63 ls []) := by
  unfold fX3_makeAgain_63 at h
  refine lv_iconst (v := (0 : Int32)) F.1 F.2.1 dX3_makeAgain_63 (by decide) ?_
  exact bX3_makeAgain_64 hst F hA E  x0 x1 x2 (0 : Int32) hx0 hx1 hr (lv_sub hl [0, 1, 2] rfl) h
def fX3_makeAgain (N : Nat)  (x0 : Nat) (x1 : Nat) (z : St) : Option (Int32 × St) := zl (zsI z 3 11 x0 (0 : Int32)) fun z1 => zl (zgR z1 3 18 x0) fun y2 => zd y2 fun a3 => zl (zsI z1 10 6 a3 (0 : Int32)) fun z4 => zl (zgR z4 3 16 x0) fun y5 => zd y5 fun a6 => zl (if (zgI z4 3 2 x0) < (zgI z4 6 3 a6) then (zgI z4 3 2 x0) else (zgI z4 6 3 a6)) fun v7 => zl (zgR z4 3 16 x0) fun y8 => zd y8 fun a9 => if (zgI z4 6 9 a9) = 0 then (fX3_makeAgain_63 N x0 x1 v7 z4) else (zl (zgR z4 3 16 x0) fun y11 => zd y11 fun a12 => if ¬ (zgI z4 6 10 a12) = 0 then (fX3_makeAgain_63 N x0 x1 v7 z4) else (zl (zgR z4 3 16 x0) fun y14 => zd y14 fun a15 => if ¬ v7 = (zgI z4 6 3 a15) then (fX3_makeAgain_63 N x0 x1 v7 z4) else (fX3_makeAgain_64 N x0 x1 v7 (1 : Int32) z4)))
set_option maxHeartbeats 4000000 in
set_option maxRecDepth 100000 in
theorem bX3_makeAgain_0 (hst : zSt B ids) (F : zFx p m c cX3_makeAgain 4 s args RX3 D cy B ids A) (hA : ∀ q : Nat, s.heap.size ≤ q → A q) {r : Int32} {z' : St} (E : zEnd p l e rmX3_makeAgain s m args below meth c cX3_makeAgain D cy B ids A Q none z' .return_ True) {N : Nat}  (x0 : Nat) (x1 : Nat) (hx0 : (3, x0) ∈ ids) (hx1 : (7, x1) ∈ ids) {z : St} {H : Heap} {locs : List Loc} {ls : Array Slot} (hr : zRep D cy B ids A s.heap z H locs) (hl : lv_has ls 4 [(0, .ref (B 3 x0)), (1, .ref (B 7 x1))]) (h : fX3_makeAgain N x0 x1 z = some (r, z')) : W p l e rmX3_makeAgain s m args below meth c H locs 0 0 Q (F0 m 0 ls []) := by
  unfold fX3_makeAgain at h
  refine lv_aload_n F.1 F.2.1 dX3_makeAgain_0 rfl (lv_at hl 0 rfl) ?_
  refine lv_iconst (v := (0 : Int32)) F.1 F.2.1 dX3_makeAgain_1 (by decide) ?_
  refine pf3_65 F hx0 hr dX3_makeAgain_2 (0 : Int32) (by decide) (fun H locs z1 ez1 hr => ?_)
  replace h := zl_sub ez1 h
  clear ez1
  refine lv_aload_n F.1 F.2.1 dX3_makeAgain_5 rfl (lv_at hl 0 rfl) ?_
  refine gf3_28 F hx0 hr dX3_makeAgain_6 (fun y2 ey2 => ?_)
  replace h := zl_sub ey2 h
  have hy2 := zal_g hr hx0 (j := 18) rfl ey2
  clear ey2
  refine lv_iconst (v := (0 : Int32)) F.1 F.2.1 dX3_makeAgain_9 (by decide) ?_
  replace h := zd_some h
  obtain ⟨a3, rfl, h⟩ := h
  refine pf3_252 F (hy2 _ rfl) hr dX3_makeAgain_10 (0 : Int32) (by decide) (fun H locs z4 ez4 hr => ?_)
  replace h := zl_sub ez4 h
  clear ez4
  refine lv_aload_n F.1 F.2.1 dX3_makeAgain_13 rfl (lv_at hl 0 rfl) ?_
  refine gf3_12 F hx0 hr dX3_makeAgain_14 (fun y5 ey5 => ?_)
  replace h := zl_sub ey5 h
  have hy5 := zal_g hr hx0 (j := 16) rfl ey5
  clear ey5
  replace h := zd_some h
  obtain ⟨a6, rfl, h⟩ := h
  refine gf3_258 F (hy5 _ rfl) hr dX3_makeAgain_17 ?_
  refine lv_aload_n F.1 F.2.1 dX3_makeAgain_20 rfl (lv_at hl 0 rfl) ?_
  refine gf3_53 F hx0 hr dX3_makeAgain_21 ?_
  refine va_mmin F.1 F.2.1 (F.2.2.1.trans hl.1.symm) F.2.2.2.1 (F.2.2.2.2.1 _ zq_1329) (F.2.2.2.2.1 _ zq_304) (F.2.2.2.2.1 _ zq_27) (F.2.2.2.2.1 _ zq_305) (Nat.le_of_ble_eq_true rfl) (Nat.le_of_ble_eq_true rfl) (Nat.zero_le _) (Nat.zero_le _) dX3_makeAgain_24 ?_
  refine lv_topi (fun v7 ev7 => ?_)
  replace h := zl_sub ev7 h
  refine lv_istore_n (lv' := [(2, .int v7), (0, .ref (B 3 x0)), (1, .ref (B 7 x1))]) F.1 F.2.1 dX3_makeAgain_27 rfl hl (by decide) rfl (fun ls hl => ?_)
  refine lv_aload_n F.1 F.2.1 dX3_makeAgain_28 rfl (lv_at hl 1 rfl) ?_
  refine gf3_12 F hx0 hr dX3_makeAgain_29 (fun y8 ey8 => ?_)
  replace h := zl_sub ey8 h
  have hy8 := zal_g hr hx0 (j := 16) rfl ey8
  clear ey8
  replace h := zd_some h
  obtain ⟨a9, rfl, h⟩ := h
  refine gf3_261 F (hy8 _ rfl) hr dX3_makeAgain_32 ?_
  refine lv_if_eq (tgt := 63) F.1 F.2.1 dX3_makeAgain_35 (by decide) (fun c10 => ?_) (fun c10 => ?_)
  · replace h := zi_t c10 h
    exact bX3_makeAgain_63 hst F hA E  x0 x1 v7 hx0 hx1 hr (lv_sub hl [1, 2, 0] rfl) h
  · replace h := zi_f c10 h
    refine lv_aload_n F.1 F.2.1 dX3_makeAgain_38 rfl (lv_at hl 1 rfl) ?_
    refine gf3_12 F hx0 hr dX3_makeAgain_39 (fun y11 ey11 => ?_)
    replace h := zl_sub ey11 h
    have hy11 := zal_g hr hx0 (j := 16) rfl ey11
    clear ey11
    replace h := zd_some h
    obtain ⟨a12, rfl, h⟩ := h
    refine gf3_199 F (hy11 _ rfl) hr dX3_makeAgain_42 ?_
    refine lv_if_ne (tgt := 63) F.1 F.2.1 dX3_makeAgain_45 (by decide) (fun c13 => ?_) (fun c13 => ?_)
    · replace h := zi_t c13 h
      exact bX3_makeAgain_63 hst F hA E  x0 x1 v7 hx0 hx1 hr (lv_sub hl [1, 2, 0] rfl) h
    · replace h := zi_f (fun q => q c13) h
      refine lv_iload_n F.1 F.2.1 dX3_makeAgain_48 rfl (lv_at hl 0 rfl) ?_
      refine lv_aload_n F.1 F.2.1 dX3_makeAgain_49 rfl (lv_at hl 1 rfl) ?_
      refine gf3_12 F hx0 hr dX3_makeAgain_50 (fun y14 ey14 => ?_)
      replace h := zl_sub ey14 h
      have hy14 := zal_g hr hx0 (j := 16) rfl ey14
      clear ey14
      replace h := zd_some h
      obtain ⟨a15, rfl, h⟩ := h
      refine gf3_258 F (hy14 _ rfl) hr dX3_makeAgain_53 ?_
      refine lv_icmp_ne (tgt := 63) F.1 F.2.1 dX3_makeAgain_56 (by decide) (fun c16 => ?_) (fun c16 => ?_)
      · replace h := zi_t c16 h
        exact bX3_makeAgain_63 hst F hA E  x0 x1 v7 hx0 hx1 hr (lv_sub hl [1, 2, 0] rfl) h
      · replace h := zi_f (fun q => q c16) h
        refine lv_iconst (v := (1 : Int32)) F.1 F.2.1 dX3_makeAgain_59 (by decide) ?_
        refine lv_goto (tgt := 64) F.1 F.2.1 dX3_makeAgain_60 (by decide) ?_
        exact bX3_makeAgain_64 hst F hA E  x0 x1 v7 (1 : Int32) hx0 hx1 hr (lv_sub hl [1, 2, 0] rfl) h
end SX3_makeAgain
set_option maxRecDepth 100000 in
theorem okX3_makeAgain (l : Launch) (D : va_G) (cy : Nat → ClassId) (B : Nat → Nat → Nat) (ids : List (Nat × Nat)) (hst : zSt B ids) (N : Nat) (x0 : Nat) (hx0 : (3, x0) ∈ ids) (x1 : Nat) (hx1 : (7, x1) ∈ ids) {z : St} {r : Int32} {z' : St} (hW : zWf ids z) (h : fX3_makeAgain N x0 x1 z = some (r, z')) : zM l yX3_makeAgain (zws yX3_makeAgain cX3_makeAgain 4 none) rmX3_makeAgain D cy B ids [.ref (B 3 x0), .ref (B 7 x1)] none True z z' :=
  zM_of hst hW (by decide +kernel) (Nat.le_of_ble_eq_true rfl) (fun p e s m args below meth c A ls F hA hret hlocks hr hl => bX3_makeAgain_0 hst F hA (zEnd_v F hret hlocks) x0 x1 hx0 hx1 hr hl h)
abbrev rmX10_sentNew : Room := { frames := 0, cells := 0, slots := 0, locals := 0 }
theorem hdX10_sentNew : yX10_sentNew.cls ≠ "java/lang/invoke/MethodHandle" ∧ yX10_sentNew.cls ≠ "java/lang/invoke/VarHandle" ∧ (parseMethodDescriptor yX10_sentNew.desc).map (fun d => d.parameters.length) = some 2 := by decide +kernel
section SX10_sentNew
variable {p : Program} {l : Launch} {e : Env} {s : State} {m : MethodId} {args : Array Value} {below : List Frame} {meth : Method} {c : Code} {Q : State → Prop} {D : va_G} {cy : Nat → ClassId} {B : Nat → Nat → Nat} {ids : List (Nat × Nat)} {A : Nat → Prop}
def fX10_sentNew_17 (N : Nat)  (x0 : Nat) (x1 : Int32) (x2 : Int32) (z : St) : Option (Int32 × St) := if (zgI z 10 6 x0) = 0 then (zl (zsI z 10 6 x0 (1 : Int32)) fun z2 => zl (zsI z2 10 7 x0 x1) fun z3 => zl (zsI z3 10 8 x0 x2) fun z4 => some (0, z4)) else (some (0, z))
set_option maxHeartbeats 4000000 in
set_option maxRecDepth 100000 in
theorem bX10_sentNew_17 (hst : zSt B ids) (F : zFx p m c cX10_sentNew 3 s args RX10 D cy B ids A) (hA : ∀ q : Nat, s.heap.size ≤ q → A q) {r : Int32} {z' : St} (E : zEnd p l e rmX10_sentNew s m args below meth c cX10_sentNew D cy B ids A Q none z' .return_ True) {N : Nat}  (x0 : Nat) (x1 : Int32) (x2 : Int32) (hx0 : (10, x0) ∈ ids) {z : St} {H : Heap} {locs : List Loc} {ls : Array Slot} (hr : zRep D cy B ids A s.heap z H locs) (hl : lv_has ls 3 [(0, .ref (B 10 x0)), (1, .int x1), (2, .int x2)]) (h : fX10_sentNew_17 N x0 x1 x2 z = some (r, z')) : W p l e rmX10_sentNew s m args below meth c H locs 0 0 Q (F0 m 17 ls []) := by
  unfold fX10_sentNew_17 at h
  refine lv_aload_n F.1 F.2.1 dX10_sentNew_17 rfl (lv_at hl 0 rfl) ?_
  refine gf10_29 F hx0 hr dX10_sentNew_18 ?_
  refine lv_if_eq (tgt := 25) F.1 F.2.1 dX10_sentNew_21 (by decide) (fun c1 => ?_) (fun c1 => ?_)
  · replace h := zi_t c1 h
    refine lv_aload_n F.1 F.2.1 dX10_sentNew_25 rfl (lv_at hl 0 rfl) ?_
    refine lv_iconst (v := (1 : Int32)) F.1 F.2.1 dX10_sentNew_26 (by decide) ?_
    refine pf10_29 F hx0 hr dX10_sentNew_27 (1 : Int32) (by decide) (fun H locs z2 ez2 hr => ?_)
    replace h := zl_sub ez2 h
    clear ez2
    refine lv_aload_n F.1 F.2.1 dX10_sentNew_30 rfl (lv_at hl 0 rfl) ?_
    refine lv_iload_n F.1 F.2.1 dX10_sentNew_31 rfl (lv_at hl 1 rfl) ?_
    refine pf10_32 F hx0 hr dX10_sentNew_32 x1 (fun H locs z3 ez3 hr => ?_)
    replace h := zl_sub ez3 h
    clear ez3
    refine lv_aload_n F.1 F.2.1 dX10_sentNew_35 rfl (lv_at hl 0 rfl) ?_
    refine lv_iload_n F.1 F.2.1 dX10_sentNew_36 rfl (lv_at hl 2 rfl) ?_
    refine pf10_35 F hx0 hr dX10_sentNew_37 x2 (fun H locs z4 ez4 hr => ?_)
    replace h := zl_sub ez4 h
    clear ez4
    obtain ⟨rfl, rfl⟩ := zret h
    exact E _ _ _ _ dX10_sentNew_40 trivial hr
  · replace h := zi_f c1 h
    obtain ⟨rfl, rfl⟩ := zret h
    exact E _ _ _ _ dX10_sentNew_24 trivial hr
def fX10_sentNew (N : Nat)  (x0 : Nat) (x1 : Int32) (x2 : Int32) (z : St) : Option (Int32 × St) := if ¬ (zgI z 10 0 x0) = 0 then (fX10_sentNew_17 N x0 x1 x2 z) else (zl (zsI z 10 0 x0 (x2 + (zgI z 10 2 x0))) fun z2 => fX10_sentNew_17 N x0 x1 x2 z2)
set_option maxHeartbeats 4000000 in
set_option maxRecDepth 100000 in
theorem bX10_sentNew_0 (hst : zSt B ids) (F : zFx p m c cX10_sentNew 3 s args RX10 D cy B ids A) (hA : ∀ q : Nat, s.heap.size ≤ q → A q) {r : Int32} {z' : St} (E : zEnd p l e rmX10_sentNew s m args below meth c cX10_sentNew D cy B ids A Q none z' .return_ True) {N : Nat}  (x0 : Nat) (x1 : Int32) (x2 : Int32) (hx0 : (10, x0) ∈ ids) {z : St} {H : Heap} {locs : List Loc} {ls : Array Slot} (hr : zRep D cy B ids A s.heap z H locs) (hl : lv_has ls 3 [(0, .ref (B 10 x0)), (1, .int x1), (2, .int x2)]) (h : fX10_sentNew N x0 x1 x2 z = some (r, z')) : W p l e rmX10_sentNew s m args below meth c H locs 0 0 Q (F0 m 0 ls []) := by
  unfold fX10_sentNew at h
  refine lv_aload_n F.1 F.2.1 dX10_sentNew_0 rfl (lv_at hl 0 rfl) ?_
  refine gf10_7 F hx0 hr dX10_sentNew_1 ?_
  refine lv_if_ne (tgt := 17) F.1 F.2.1 dX10_sentNew_4 (by decide) (fun c1 => ?_) (fun c1 => ?_)
  · replace h := zi_t c1 h
    exact bX10_sentNew_17 hst F hA E  x0 x1 x2 hx0 hr (lv_sub hl [0, 1, 2] rfl) h
  · replace h := zi_f (fun q => q c1) h
    refine lv_aload_n F.1 F.2.1 dX10_sentNew_7 rfl (lv_at hl 0 rfl) ?_
    refine lv_iload_n F.1 F.2.1 dX10_sentNew_8 rfl (lv_at hl 2 rfl) ?_
    refine lv_aload_n F.1 F.2.1 dX10_sentNew_9 rfl (lv_at hl 0 rfl) ?_
    refine gf10_16 F hx0 hr dX10_sentNew_10 ?_
    refine lv_iadd F.1 F.2.1 dX10_sentNew_13 ?_
    refine pf10_7 F hx0 hr dX10_sentNew_14 (x2 + (zgI z 10 2 x0)) (fun H locs z2 ez2 hr => ?_)
    replace h := zl_sub ez2 h
    clear ez2
    exact bX10_sentNew_17 hst F hA E  x0 x1 x2 hx0 hr (lv_sub hl [0, 1, 2] rfl) h
end SX10_sentNew
set_option maxRecDepth 100000 in
theorem okX10_sentNew (l : Launch) (D : va_G) (cy : Nat → ClassId) (B : Nat → Nat → Nat) (ids : List (Nat × Nat)) (hst : zSt B ids) (N : Nat) (x0 : Nat) (hx0 : (10, x0) ∈ ids) (x1 : Int32) (x2 : Int32) {z : St} {r : Int32} {z' : St} (hW : zWf ids z) (h : fX10_sentNew N x0 x1 x2 z = some (r, z')) : zM l yX10_sentNew (zws yX10_sentNew cX10_sentNew 3 none) rmX10_sentNew D cy B ids [.ref (B 10 x0), .int x1, .int x2] none True z z' :=
  zM_of hst hW (by decide +kernel) (Nat.le_of_ble_eq_true rfl) (fun p e s m args below meth c A ls F hA hret hlocks hr hl => bX10_sentNew_0 hst F hA (zEnd_v F hret hlocks) x0 x1 x2 hx0 hr hl h)
abbrev rmX3_goAhead : Room := { frames := 3, cells := 0, slots := 0, locals := 110 }
theorem hdX3_goAhead : yX3_goAhead.cls ≠ "java/lang/invoke/MethodHandle" ∧ yX3_goAhead.cls ≠ "java/lang/invoke/VarHandle" ∧ (parseMethodDescriptor yX3_goAhead.desc).map (fun d => d.parameters.length) = some 4 := by decide +kernel
theorem hroX3_goAhead_X10_sentNew : rmX10_sentNew.frames + 1 ≤ rmX3_goAhead.frames ∧ 8 + (3 + 11) + rmX10_sentNew.locals ≤ rmX3_goAhead.locals := by decide
theorem hroX3_goAhead_X3_makeBytes : rmX3_makeBytes.frames + 1 ≤ rmX3_goAhead.frames ∧ 8 + (6 + 11) + rmX3_makeBytes.locals ≤ rmX3_goAhead.locals := by decide
section SX3_goAhead
variable {p : Program} {l : Launch} {e : Env} {s : State} {m : MethodId} {args : Array Value} {below : List Frame} {meth : Method} {c : Code} {Q : State → Prop} {D : va_G} {cy : Nat → ClassId} {B : Nat → Nat → Nat} {ids : List (Nat × Nat)} {A : Nat → Prop}
def fX3_goAhead_69 (N : Nat)  (x0 : Nat) (x4 : Int32) (z : St) : Option (Int32 × St) := zl (zgR z 3 18 x0) fun y1 => zl (zgR z 3 16 x0) fun y2 => zd y2 fun a3 => zd y1 fun a4 => zc (fX10_sentNew N a4 (zgI z 6 6 a3) x4 z) fun _ z6 => some (0, z6)
set_option maxHeartbeats 4000000 in
set_option maxRecDepth 100000 in
theorem bX3_goAhead_69 (hst : zSt B ids) (F : zFx p m c cX3_goAhead 5 s args RX3 D cy B ids A) (hA : ∀ q : Nat, s.heap.size ≤ q → A q) {r : Int32} {z' : St} (E : zEnd p l e rmX3_goAhead s m args below meth c cX3_goAhead D cy B ids A Q none z' .return_ True) {N : Nat}  (x0 : Nat) (x4 : Int32) (hx0 : (3, x0) ∈ ids) {z : St} {H : Heap} {locs : List Loc} {ls : Array Slot} (hr : zRep D cy B ids A s.heap z H locs) (hl : lv_has ls 5 [(0, .ref (B 3 x0)), (4, .int x4)]) (h : fX3_goAhead_69 N x0 x4 z = some (r, z')) : W p l e rmX3_goAhead s m args below meth c H locs 0 0 Q (F0 m 69 ls []) := by
  unfold fX3_goAhead_69 at h
  refine lv_aload_n F.1 F.2.1 dX3_goAhead_69 rfl (lv_at hl 0 rfl) ?_
  refine gf3_28 F hx0 hr dX3_goAhead_70 (fun y1 ey1 => ?_)
  replace h := zl_sub ey1 h
  have hy1 := zal_g hr hx0 (j := 18) rfl ey1
  clear ey1
  refine lv_aload_n F.1 F.2.1 dX3_goAhead_73 rfl (lv_at hl 0 rfl) ?_
  refine gf3_12 F hx0 hr dX3_goAhead_74 (fun y2 ey2 => ?_)
  replace h := zl_sub ey2 h
  have hy2 := zal_g hr hx0 (j := 16) rfl ey2
  clear ey2
  replace h := zd_some h
  obtain ⟨a3, rfl, h⟩ := h
  refine gf3_86 F (hy2 _ rfl) hr dX3_goAhead_77 ?_
  refine lv_iload F.1 F.2.1 dX3_goAhead_80 (lv_at hl 1 rfl) ?_
  replace h := zd_some h
  obtain ⟨a4, rfl, h⟩ := h
  replace h := zc_some h
  obtain ⟨r5, z6, hc7, h⟩ := h
  refine zr_callv (zrun_VN (As := [.int (zgI z 6 6 a3), .int x4]) (rest := []) zn_1606 zq_1608 zs_X10_sentNew zq_1609 zq_16 hdX10_sentNew (by decide) (T := TX10) (N := 9) rfl (okX10_sentNew l D cy B ids hst N a4 (hy1 _ rfl) (zgI z 6 6 a3)  x4  hr.2.2 hc7) F hr (hy1 _ rfl) hl.1 rfl (by decide) dX3_goAhead_82 rfl rfl hroX3_goAhead_X10_sentNew ⟨Nat.zero_le _, Nat.zero_le _⟩) F hA hr (fun H locs hw8 hr => ?_)
  clear hc7
  obtain ⟨rfl, rfl⟩ := zret h
  exact E _ _ _ _ dX3_goAhead_85 trivial hr
def fX3_goAhead_53 (N : Nat)  (x0 : Nat) (x3 : Int32) (x4 : Int32) (s0 : Nat) (s1 : Int32) (s2 : Int32) (z : St) : Option (Int32 × St) := zl (zsI z 6 6 s0 (s1 + s2)) fun z1 => if x3 = 0 then (fX3_goAhead_69 N x0 x4 z1) else (zl (zgR z1 3 16 x0) fun y3 => zd y3 fun a4 => zl (zsI z1 6 9 a4 (1 : Int32)) fun z5 => fX3_goAhead_69 N x0 x4 z5)
set_option maxHeartbeats 4000000 in
set_option maxRecDepth 100000 in
theorem bX3_goAhead_53 (hst : zSt B ids) (F : zFx p m c cX3_goAhead 5 s args RX3 D cy B ids A) (hA : ∀ q : Nat, s.heap.size ≤ q → A q) {r : Int32} {z' : St} (E : zEnd p l e rmX3_goAhead s m args below meth c cX3_goAhead D cy B ids A Q none z' .return_ True) {N : Nat}  (x0 : Nat) (x3 : Int32) (x4 : Int32) (s0 : Nat) (s1 : Int32) (s2 : Int32) (hx0 : (3, x0) ∈ ids) (hs0 : (6, s0) ∈ ids) {z : St} {H : Heap} {locs : List Loc} {ls : Array Slot} (hr : zRep D cy B ids A s.heap z H locs) (hl : lv_has ls 5 [(0, .ref (B 3 x0)), (3, .int x3), (4, .int x4)]) (h : fX3_goAhead_53 N x0 x3 x4 s0 s1 s2 z = some (r, z')) : W p l e rmX3_goAhead s m args below meth c H locs 0 0 Q (F0 m 53 ls [.int s2, .int s1, .ref (B 6 s0)]) := by
  unfold fX3_goAhead_53 at h
  refine lv_iadd F.1 F.2.1 dX3_goAhead_53 ?_
  refine pf3_86 F hs0 hr dX3_goAhead_54 (s1 + s2) (fun H locs z1 ez1 hr => ?_)
  replace h := zl_sub ez1 h
  clear ez1
  refine lv_iload_n F.1 F.2.1 dX3_goAhead_57 rfl (lv_at hl 1 rfl) ?_
  refine lv_if_eq (tgt := 69) F.1 F.2.1 dX3_goAhead_58 (by decide) (fun c2 => ?_) (fun c2 => ?_)
  · replace h := zi_t c2 h
    exact bX3_goAhead_69 hst F hA E  x0 x4 hx0 hr (lv_sub hl [0, 2] rfl) h
  · replace h := zi_f c2 h
    refine lv_aload_n F.1 F.2.1 dX3_goAhead_61 rfl (lv_at hl 0 rfl) ?_
    refine gf3_12 F hx0 hr dX3_goAhead_62 (fun y3 ey3 => ?_)
    replace h := zl_sub ey3 h
    have hy3 := zal_g hr hx0 (j := 16) rfl ey3
    clear ey3
    refine lv_iconst (v := (1 : Int32)) F.1 F.2.1 dX3_goAhead_65 (by decide) ?_
    replace h := zd_some h
    obtain ⟨a4, rfl, h⟩ := h
    refine pf3_261 F (hy3 _ rfl) hr dX3_goAhead_66 (1 : Int32) (by decide) (fun H locs z5 ez5 hr => ?_)
    replace h := zl_sub ez5 h
    clear ez5
    exact bX3_goAhead_69 hst F hA E  x0 x4 hx0 hr (lv_sub hl [0, 2] rfl) h
def fX3_goAhead (N : Nat)  (x0 : Nat) (x1 : Nat) (x2 : Int32) (x3 : Int32) (x4 : Int32) (z : St) : Option (Int32 × St) := zl (zgR z 3 16 x0) fun y1 => zd y1 fun a2 => zl (zgR z 3 16 x0) fun y3 => zd y3 fun a4 => zc (fX3_makeBytes N x0 x1 (zgI z 6 6 a2) (zgI z 6 3 a4) x2 x3 z) fun _ z6 => zl (zgR z6 3 16 x0) fun y9 => zd y9 fun a10 => zl (zsI z6 6 3 a10 ((zgI z6 6 3 a10) + x2)) fun z11 => zl (zgR z11 3 16 x0) fun y12 => zd y12 fun a13 => if x3 = 0 then (fX3_goAhead_53 N x0 x3 x4 a13 (zgI z11 6 6 a13) x2 z11) else (fX3_goAhead_53 N x0 x3 x4 a13 (zgI z11 6 6 a13) (x2 + (1 : Int32)) z11)
set_option maxHeartbeats 4000000 in
set_option maxRecDepth 100000 in
theorem bX3_goAhead_0 (hst : zSt B ids) (F : zFx p m c cX3_goAhead 5 s args RX3 D cy B ids A) (hA : ∀ q : Nat, s.heap.size ≤ q → A q) {r : Int32} {z' : St} (E : zEnd p l e rmX3_goAhead s m args below meth c cX3_goAhead D cy B ids A Q none z' .return_ True) {N : Nat}  (x0 : Nat) (x1 : Nat) (x2 : Int32) (x3 : Int32) (x4 : Int32) (hx0 : (3, x0) ∈ ids) (hx1 : (7, x1) ∈ ids) {z : St} {H : Heap} {locs : List Loc} {ls : Array Slot} (hr : zRep D cy B ids A s.heap z H locs) (hl : lv_has ls 5 [(0, .ref (B 3 x0)), (1, .ref (B 7 x1)), (2, .int x2), (3, .int x3), (4, .int x4)]) (h : fX3_goAhead N x0 x1 x2 x3 x4 z = some (r, z')) : W p l e rmX3_goAhead s m args below meth c H locs 0 0 Q (F0 m 0 ls []) := by
  unfold fX3_goAhead at h
  refine lv_aload_n F.1 F.2.1 dX3_goAhead_0 rfl (lv_at hl 0 rfl) ?_
  refine lv_aload_n F.1 F.2.1 dX3_goAhead_1 rfl (lv_at hl 1 rfl) ?_
  refine lv_aload_n F.1 F.2.1 dX3_goAhead_2 rfl (lv_at hl 0 rfl) ?_
  refine gf3_12 F hx0 hr dX3_goAhead_3 (fun y1 ey1 => ?_)
  replace h := zl_sub ey1 h
  have hy1 := zal_g hr hx0 (j := 16) rfl ey1
  clear ey1
  replace h := zd_some h
  obtain ⟨a2, rfl, h⟩ := h
  refine gf3_86 F (hy1 _ rfl) hr dX3_goAhead_6 ?_
  refine lv_aload_n F.1 F.2.1 dX3_goAhead_9 rfl (lv_at hl 0 rfl) ?_
  refine gf3_12 F hx0 hr dX3_goAhead_10 (fun y3 ey3 => ?_)
  replace h := zl_sub ey3 h
  have hy3 := zal_g hr hx0 (j := 16) rfl ey3
  clear ey3
  replace h := zd_some h
  obtain ⟨a4, rfl, h⟩ := h
  refine gf3_258 F (hy3 _ rfl) hr dX3_goAhead_13 ?_
  refine lv_iload_n F.1 F.2.1 dX3_goAhead_16 rfl (lv_at hl 2 rfl) ?_
  refine lv_iload_n F.1 F.2.1 dX3_goAhead_17 rfl (lv_at hl 3 rfl) ?_
  replace h := zc_some h
  obtain ⟨r5, z6, hc7, h⟩ := h
  refine zr_callv (zrun_V (As := [.ref (B 7 x1), .int (zgI z 6 6 a2), .int (zgI z 6 3 a4), .int x2, .int x3]) (rest := []) zq_1614 zq_1616 zs_X3_makeBytes zq_1617 zq_13 hdX3_makeBytes (by decide) (T := TX3) (N := 19) rfl (okX3_makeBytes l D cy B ids hst N x0 hx0 x1 hx1 (zgI z 6 6 a2)  (zgI z 6 3 a4)  x2  x3  hr.2.2 hc7) F hr hx0 hl.1 rfl (by decide) dX3_goAhead_18 rfl rfl hroX3_goAhead_X3_makeBytes ⟨Nat.zero_le _, Nat.zero_le _⟩) F hA hr (fun H locs hw8 hr => ?_)
  clear hc7
  refine lv_aload_n F.1 F.2.1 dX3_goAhead_21 rfl (lv_at hl 0 rfl) ?_
  refine gf3_12 F hx0 hr dX3_goAhead_22 (fun y9 ey9 => ?_)
  replace h := zl_sub ey9 h
  have hy9 := zal_g hr hx0 (j := 16) rfl ey9
  clear ey9
  refine lv_dup F.1 F.2.1 dX3_goAhead_25 zrf_cat ?_
  replace h := zd_some h
  obtain ⟨a10, rfl, h⟩ := h
  refine gf3_258 F (hy9 _ rfl) hr dX3_goAhead_26 ?_
  refine lv_iload_n F.1 F.2.1 dX3_goAhead_29 rfl (lv_at hl 2 rfl) ?_
  refine lv_iadd F.1 F.2.1 dX3_goAhead_30 ?_
  refine pf3_258 F (hy9 _ rfl) hr dX3_goAhead_31 ((zgI z6 6 3 a10) + x2) (fun H locs z11 ez11 hr => ?_)
  replace h := zl_sub ez11 h
  clear ez11
  refine lv_aload_n F.1 F.2.1 dX3_goAhead_34 rfl (lv_at hl 0 rfl) ?_
  refine gf3_12 F hx0 hr dX3_goAhead_35 (fun y12 ey12 => ?_)
  replace h := zl_sub ey12 h
  have hy12 := zal_g hr hx0 (j := 16) rfl ey12
  clear ey12
  refine lv_dup F.1 F.2.1 dX3_goAhead_38 zrf_cat ?_
  replace h := zd_some h
  obtain ⟨a13, rfl, h⟩ := h
  refine gf3_86 F (hy12 _ rfl) hr dX3_goAhead_39 ?_
  refine lv_iload_n F.1 F.2.1 dX3_goAhead_42 rfl (lv_at hl 3 rfl) ?_
  refine lv_if_eq (tgt := 52) F.1 F.2.1 dX3_goAhead_43 (by decide) (fun c14 => ?_) (fun c14 => ?_)
  · replace h := zi_t c14 h
    refine lv_iload_n F.1 F.2.1 dX3_goAhead_52 rfl (lv_at hl 2 rfl) ?_
    exact bX3_goAhead_53 hst F hA E  x0 x3 x4 a13 (zgI z11 6 6 a13) x2 hx0 (hy12 _ rfl) hr (lv_sub hl [0, 3, 4] rfl) h
  · replace h := zi_f c14 h
    refine lv_iload_n F.1 F.2.1 dX3_goAhead_46 rfl (lv_at hl 2 rfl) ?_
    refine lv_iconst (v := (1 : Int32)) F.1 F.2.1 dX3_goAhead_47 (by decide) ?_
    refine lv_iadd F.1 F.2.1 dX3_goAhead_48 ?_
    refine lv_goto (tgt := 53) F.1 F.2.1 dX3_goAhead_49 (by decide) ?_
    exact bX3_goAhead_53 hst F hA E  x0 x3 x4 a13 (zgI z11 6 6 a13) (x2 + (1 : Int32)) hx0 (hy12 _ rfl) hr (lv_sub hl [0, 3, 4] rfl) h
end SX3_goAhead
set_option maxRecDepth 100000 in
theorem okX3_goAhead (l : Launch) (D : va_G) (cy : Nat → ClassId) (B : Nat → Nat → Nat) (ids : List (Nat × Nat)) (hst : zSt B ids) (N : Nat) (x0 : Nat) (hx0 : (3, x0) ∈ ids) (x1 : Nat) (hx1 : (7, x1) ∈ ids) (x2 : Int32) (x3 : Int32) (x4 : Int32) {z : St} {r : Int32} {z' : St} (hW : zWf ids z) (h : fX3_goAhead N x0 x1 x2 x3 x4 z = some (r, z')) : zM l yX3_goAhead (zws yX3_goAhead cX3_goAhead 5 none) rmX3_goAhead D cy B ids [.ref (B 3 x0), .ref (B 7 x1), .int x2, .int x3, .int x4] none True z z' :=
  zM_of hst hW (by decide +kernel) (Nat.le_of_ble_eq_true rfl) (fun p e s m args below meth c A ls F hA hret hlocks hr hl => bX3_goAhead_0 hst F hA (zEnd_v F hret hlocks) x0 x1 x2 x3 x4 hx0 hx1 hr hl h)
abbrev rmX3_makeNew : Room := { frames := 4, cells := 0, slots := 0, locals := 134 }
theorem hdX3_makeNew : yX3_makeNew.cls ≠ "java/lang/invoke/MethodHandle" ∧ yX3_makeNew.cls ≠ "java/lang/invoke/VarHandle" ∧ (parseMethodDescriptor yX3_makeNew.desc).map (fun d => d.parameters.length) = some 2 := by decide +kernel
theorem hroX3_makeNew_X3_goAhead : rmX3_goAhead.frames + 1 ≤ rmX3_makeNew.frames ∧ 8 + (5 + 11) + rmX3_goAhead.locals ≤ rmX3_makeNew.locals := by decide
section SX3_makeNew
variable {p : Program} {l : Launch} {e : Env} {s : State} {m : MethodId} {args : Array Value} {below : List Frame} {meth : Method} {c : Code} {Q : State → Prop} {D : va_G} {cy : Nat → ClassId} {B : Nat → Nat → Nat} {ids : List (Nat × Nat)} {A : Nat → Prop}
def fX3_makeNew_121 (N : Nat)  (x0 : Nat) (x1 : Nat) (x2 : Int32) (x4 : Int32) (x5 : Int32) (z : St) : Option (Int32 × St) := zc (fX3_goAhead N x0 x1 x4 x5 x2 z) fun _ z2 => some ((1 : Int32), z2)
set_option maxHeartbeats 4000000 in
set_option maxRecDepth 100000 in
theorem bX3_makeNew_121 (hst : zSt B ids) (F : zFx p m c cX3_makeNew 6 s args RX3 D cy B ids A) (hA : ∀ q : Nat, s.heap.size ≤ q → A q) {r : Int32} {z' : St} (E : zEnd p l e rmX3_makeNew s m args below meth c cX3_makeNew D cy B ids A Q (some (.int r)) z' .ireturn (r = 0 ∨ r = 1)) {N : Nat}  (x0 : Nat) (x1 : Nat) (x2 : Int32) (x4 : Int32) (x5 : Int32) (hx0 : (3, x0) ∈ ids) (hx1 : (7, x1) ∈ ids) {z : St} {H : Heap} {locs : List Loc} {ls : Array Slot} (hr : zRep D cy B ids A s.heap z H locs) (hl : lv_has ls 6 [(0, .ref (B 3 x0)), (1, .ref (B 7 x1)), (2, .int x2), (4, .int x4), (5, .int x5)]) (h : fX3_makeNew_121 N x0 x1 x2 x4 x5 z = some (r, z')) : W p l e rmX3_makeNew s m args below meth c H locs 0 0 Q (F0 m 121 ls []) := by
  unfold fX3_makeNew_121 at h
  refine lv_aload_n F.1 F.2.1 dX3_makeNew_121 rfl (lv_at hl 0 rfl) ?_
  refine lv_aload_n F.1 F.2.1 dX3_makeNew_122 rfl (lv_at hl 1 rfl) ?_
  refine lv_iload F.1 F.2.1 dX3_makeNew_123 (lv_at hl 3 rfl) ?_
  refine lv_iload F.1 F.2.1 dX3_makeNew_125 (lv_at hl 4 rfl) ?_
  refine lv_iload_n F.1 F.2.1 dX3_makeNew_127 rfl (lv_at hl 2 rfl) ?_
  replace h := zc_some h
  obtain ⟨r1, z2, hc3, h⟩ := h
  refine zr_callv (zrun_V (As := [.ref (B 7 x1), .int x4, .int x5, .int x2]) (rest := []) zq_1632 zq_1634 zs_X3_goAhead zq_1635 zq_13 hdX3_goAhead (by decide) (T := TX3) (N := 19) rfl (okX3_goAhead l D cy B ids hst N x0 hx0 x1 hx1 x4  x5  x2  hr.2.2 hc3) F hr hx0 hl.1 rfl (by decide) dX3_makeNew_128 rfl rfl hroX3_makeNew_X3_goAhead ⟨Nat.zero_le _, Nat.zero_le _⟩) F hA hr (fun H locs hw4 hr => ?_)
  clear hc3
  refine lv_iconst (v := (1 : Int32)) F.1 F.2.1 dX3_makeNew_131 (by decide) ?_
  obtain ⟨rfl, rfl⟩ := zret h
  exact E _ _ _ _ dX3_makeNew_132 (by decide) hr
def fX3_makeNew_107 (N : Nat)  (x0 : Nat) (x1 : Nat) (x2 : Int32) (x4 : Int32) (s0 : Int32) (z : St) : Option (Int32 × St) := if ¬ x4 = 0 then (fX3_makeNew_121 N x0 x1 x2 x4 s0 z) else (if ¬ s0 = 0 then (fX3_makeNew_121 N x0 x1 x2 x4 s0 z) else (some ((0 : Int32), z)))
set_option maxHeartbeats 4000000 in
set_option maxRecDepth 100000 in
theorem bX3_makeNew_107 (hst : zSt B ids) (F : zFx p m c cX3_makeNew 6 s args RX3 D cy B ids A) (hA : ∀ q : Nat, s.heap.size ≤ q → A q) {r : Int32} {z' : St} (E : zEnd p l e rmX3_makeNew s m args below meth c cX3_makeNew D cy B ids A Q (some (.int r)) z' .ireturn (r = 0 ∨ r = 1)) {N : Nat}  (x0 : Nat) (x1 : Nat) (x2 : Int32) (x4 : Int32) (s0 : Int32) (hx0 : (3, x0) ∈ ids) (hx1 : (7, x1) ∈ ids) {z : St} {H : Heap} {locs : List Loc} {ls : Array Slot} (hr : zRep D cy B ids A s.heap z H locs) (hl : lv_has ls 6 [(0, .ref (B 3 x0)), (1, .ref (B 7 x1)), (2, .int x2), (4, .int x4)]) (h : fX3_makeNew_107 N x0 x1 x2 x4 s0 z = some (r, z')) : W p l e rmX3_makeNew s m args below meth c H locs 0 0 Q (F0 m 107 ls [.int s0]) := by
  unfold fX3_makeNew_107 at h
  refine lv_istore (lv' := [(5, .int s0), (0, .ref (B 3 x0)), (1, .ref (B 7 x1)), (2, .int x2), (4, .int x4)]) F.1 F.2.1 dX3_makeNew_107 hl (by decide) rfl (fun ls hl => ?_)
  refine lv_iload F.1 F.2.1 dX3_makeNew_109 (lv_at hl 4 rfl) ?_
  refine lv_if_ne (tgt := 121) F.1 F.2.1 dX3_makeNew_111 (by decide) (fun c1 => ?_) (fun c1 => ?_)
  · replace h := zi_t c1 h
    exact bX3_makeNew_121 hst F hA E  x0 x1 x2 x4 s0 hx0 hx1 hr (lv_sub hl [1, 2, 3, 4, 0] rfl) h
  · replace h := zi_f (fun q => q c1) h
    refine lv_iload F.1 F.2.1 dX3_makeNew_114 (lv_at hl 0 rfl) ?_
    refine lv_if_ne (tgt := 121) F.1 F.2.1 dX3_makeNew_116 (by decide) (fun c2 => ?_) (fun c2 => ?_)
    · replace h := zi_t c2 h
      exact bX3_makeNew_121 hst F hA E  x0 x1 x2 x4 s0 hx0 hx1 hr (lv_sub hl [1, 2, 3, 4, 0] rfl) h
    · replace h := zi_f (fun q => q c2) h
      refine lv_iconst (v := (0 : Int32)) F.1 F.2.1 dX3_makeNew_119 (by decide) ?_
      obtain ⟨rfl, rfl⟩ := zret h
      exact E _ _ _ _ dX3_makeNew_120 (by decide) hr
def fX3_makeNew_106 (N : Nat)  (x0 : Nat) (x1 : Nat) (x2 : Int32) (x4 : Int32) (z : St) : Option (Int32 × St) := fX3_makeNew_107 N x0 x1 x2 x4 (0 : Int32) z
set_option maxHeartbeats 4000000 in
set_option maxRecDepth 100000 in
theorem bX3_makeNew_106 (hst : zSt B ids) (F : zFx p m c cX3_makeNew 6 s args RX3 D cy B ids A) (hA : ∀ q : Nat, s.heap.size ≤ q → A q) {r : Int32} {z' : St} (E : zEnd p l e rmX3_makeNew s m args below meth c cX3_makeNew D cy B ids A Q (some (.int r)) z' .ireturn (r = 0 ∨ r = 1)) {N : Nat}  (x0 : Nat) (x1 : Nat) (x2 : Int32) (x4 : Int32) (hx0 : (3, x0) ∈ ids) (hx1 : (7, x1) ∈ ids) {z : St} {H : Heap} {locs : List Loc} {ls : Array Slot} (hr : zRep D cy B ids A s.heap z H locs) (hl : lv_has ls 6 [(0, .ref (B 3 x0)), (1, .ref (B 7 x1)), (2, .int x2), (4, .int x4)]) (h : fX3_makeNew_106 N x0 x1 x2 x4 z = some (r, z')) : W p l e rmX3_makeNew s m args below meth c H locs 0 0 Q (F0 m 106 ls []) := by
  unfold fX3_makeNew_106 at h
  refine lv_iconst (v := (0 : Int32)) F.1 F.2.1 dX3_makeNew_106 (by decide) ?_
  exact bX3_makeNew_107 hst F hA E  x0 x1 x2 x4 (0 : Int32) hx0 hx1 hr (lv_sub hl [0, 1, 2, 3] rfl) h
def fX3_makeNew (N : Nat)  (x0 : Nat) (x1 : Nat) (x2 : Int32) (z : St) : Option (Int32 × St) := zl (zgR z 3 16 x0) fun y1 => zd y1 fun a2 => zl (zgR z 3 16 x0) fun y3 => zd y3 fun a4 => zl (zgR z 3 16 x0) fun y5 => zd y5 fun a6 => zl (if (0 : Int32) < ((zgI z 6 11 a2) - ((zgI z 6 6 a4) - (zgI z 6 5 a6))) then ((zgI z 6 11 a2) - ((zgI z 6 6 a4) - (zgI z 6 5 a6))) else (0 : Int32)) fun v7 => zl (zgR z 3 16 x0) fun y8 => zd y8 fun a9 => zl (zgR z 3 16 x0) fun y10 => zd y10 fun a11 => zl (if (if v7 < (zgI z 3 2 x0) then v7 else (zgI z 3 2 x0)) < ((zgI z 6 2 a9) - (zgI z 6 3 a11)) then (if v7 < (zgI z 3 2 x0) then v7 else (zgI z 3 2 x0)) else ((zgI z 6 2 a9) - (zgI z 6 3 a11))) fun v12 => zl (zgR z 3 16 x0) fun y13 => zd y13 fun a14 => if (zgI z 6 8 a14) = 0 then (fX3_makeNew_106 N x0 x1 x2 v12 z) else (zl (zgR z 3 16 x0) fun y16 => zd y16 fun a17 => if ¬ (zgI z 6 9 a17) = 0 then (fX3_makeNew_106 N x0 x1 x2 v12 z) else (zl (zgR z 3 16 x0) fun y19 => zd y19 fun a20 => zl (zgR z 3 16 x0) fun y21 => zd y21 fun a22 => if ¬ ((zgI z 6 3 a20) + v12) = (zgI z 6 2 a22) then (fX3_makeNew_106 N x0 x1 x2 v12 z) else (if v7 ≤ v12 then (fX3_makeNew_106 N x0 x1 x2 v12 z) else (fX3_makeNew_107 N x0 x1 x2 v12 (1 : Int32) z))))
set_option maxHeartbeats 4000000 in
set_option maxRecDepth 100000 in
theorem bX3_makeNew_0 (hst : zSt B ids) (F : zFx p m c cX3_makeNew 6 s args RX3 D cy B ids A) (hA : ∀ q : Nat, s.heap.size ≤ q → A q) {r : Int32} {z' : St} (E : zEnd p l e rmX3_makeNew s m args below meth c cX3_makeNew D cy B ids A Q (some (.int r)) z' .ireturn (r = 0 ∨ r = 1)) {N : Nat}  (x0 : Nat) (x1 : Nat) (x2 : Int32) (hx0 : (3, x0) ∈ ids) (hx1 : (7, x1) ∈ ids) {z : St} {H : Heap} {locs : List Loc} {ls : Array Slot} (hr : zRep D cy B ids A s.heap z H locs) (hl : lv_has ls 6 [(0, .ref (B 3 x0)), (1, .ref (B 7 x1)), (2, .int x2)]) (h : fX3_makeNew N x0 x1 x2 z = some (r, z')) : W p l e rmX3_makeNew s m args below meth c H locs 0 0 Q (F0 m 0 ls []) := by
  unfold fX3_makeNew at h
  refine lv_iconst (v := (0 : Int32)) F.1 F.2.1 dX3_makeNew_0 (by decide) ?_
  refine lv_aload_n F.1 F.2.1 dX3_makeNew_1 rfl (lv_at hl 0 rfl) ?_
  refine gf3_12 F hx0 hr dX3_makeNew_2 (fun y1 ey1 => ?_)
  replace h := zl_sub ey1 h
  have hy1 := zal_g hr hx0 (j := 16) rfl ey1
  clear ey1
  replace h := zd_some h
  obtain ⟨a2, rfl, h⟩ := h
  refine gf3_139 F (hy1 _ rfl) hr dX3_makeNew_5 ?_
  refine lv_aload_n F.1 F.2.1 dX3_makeNew_8 rfl (lv_at hl 0 rfl) ?_
  refine gf3_12 F hx0 hr dX3_makeNew_9 (fun y3 ey3 => ?_)
  replace h := zl_sub ey3 h
  have hy3 := zal_g hr hx0 (j := 16) rfl ey3
  clear ey3
  replace h := zd_some h
  obtain ⟨a4, rfl, h⟩ := h
  refine gf3_86 F (hy3 _ rfl) hr dX3_makeNew_12 ?_
  refine lv_aload_n F.1 F.2.1 dX3_makeNew_15 rfl (lv_at hl 0 rfl) ?_
  refine gf3_12 F hx0 hr dX3_makeNew_16 (fun y5 ey5 => ?_)
  replace h := zl_sub ey5 h
  have hy5 := zal_g hr hx0 (j := 16) rfl ey5
  clear ey5
  replace h := zd_some h
  obtain ⟨a6, rfl, h⟩ := h
  refine gf3_193 F (hy5 _ rfl) hr dX3_makeNew_19 ?_
  refine lv_isub F.1 F.2.1 dX3_makeNew_22 ?_
  refine lv_isub F.1 F.2.1 dX3_makeNew_23 ?_
  refine va_mmax F.1 F.2.1 (F.2.2.1.trans hl.1.symm) F.2.2.2.1 (F.2.2.2.2.1 _ zq_1631) (F.2.2.2.2.1 _ zq_275) (F.2.2.2.2.1 _ zq_27) (F.2.2.2.2.1 _ zq_276) (Nat.le_of_ble_eq_true rfl) (Nat.le_of_ble_eq_true rfl) (Nat.zero_le _) (Nat.zero_le _) dX3_makeNew_24 ?_
  refine lv_topi (fun v7 ev7 => ?_)
  replace h := zl_sub ev7 h
  refine lv_istore_n (lv' := [(3, .int v7), (0, .ref (B 3 x0)), (1, .ref (B 7 x1)), (2, .int x2)]) F.1 F.2.1 dX3_makeNew_27 rfl hl (by decide) rfl (fun ls hl => ?_)
  refine lv_aload_n F.1 F.2.1 dX3_makeNew_28 rfl (lv_at hl 1 rfl) ?_
  refine gf3_12 F hx0 hr dX3_makeNew_29 (fun y8 ey8 => ?_)
  replace h := zl_sub ey8 h
  have hy8 := zal_g hr hx0 (j := 16) rfl ey8
  clear ey8
  replace h := zd_some h
  obtain ⟨a9, rfl, h⟩ := h
  refine gf3_267 F (hy8 _ rfl) hr dX3_makeNew_32 ?_
  refine lv_aload_n F.1 F.2.1 dX3_makeNew_35 rfl (lv_at hl 1 rfl) ?_
  refine gf3_12 F hx0 hr dX3_makeNew_36 (fun y10 ey10 => ?_)
  replace h := zl_sub ey10 h
  have hy10 := zal_g hr hx0 (j := 16) rfl ey10
  clear ey10
  replace h := zd_some h
  obtain ⟨a11, rfl, h⟩ := h
  refine gf3_258 F (hy10 _ rfl) hr dX3_makeNew_39 ?_
  refine lv_isub F.1 F.2.1 dX3_makeNew_42 ?_
  refine lv_aload_n F.1 F.2.1 dX3_makeNew_43 rfl (lv_at hl 1 rfl) ?_
  refine gf3_53 F hx0 hr dX3_makeNew_44 ?_
  refine lv_iload_n F.1 F.2.1 dX3_makeNew_47 rfl (lv_at hl 0 rfl) ?_
  refine va_mmin F.1 F.2.1 (F.2.2.1.trans hl.1.symm) F.2.2.2.1 (F.2.2.2.2.1 _ zq_1329) (F.2.2.2.2.1 _ zq_304) (F.2.2.2.2.1 _ zq_27) (F.2.2.2.2.1 _ zq_305) (Nat.le_of_ble_eq_true rfl) (Nat.le_of_ble_eq_true rfl) (Nat.zero_le _) (Nat.zero_le _) dX3_makeNew_48 ?_
  refine va_mmin F.1 F.2.1 (F.2.2.1.trans hl.1.symm) F.2.2.2.1 (F.2.2.2.2.1 _ zq_1329) (F.2.2.2.2.1 _ zq_304) (F.2.2.2.2.1 _ zq_27) (F.2.2.2.2.1 _ zq_305) (Nat.le_of_ble_eq_true rfl) (Nat.le_of_ble_eq_true rfl) (Nat.zero_le _) (Nat.zero_le _) dX3_makeNew_51 ?_
  refine lv_topi (fun v12 ev12 => ?_)
  replace h := zl_sub ev12 h
  refine lv_istore (lv' := [(4, .int v12), (3, .int v7), (0, .ref (B 3 x0)), (1, .ref (B 7 x1)), (2, .int x2)]) F.1 F.2.1 dX3_makeNew_54 hl (by decide) rfl (fun ls hl => ?_)
  refine lv_aload_n F.1 F.2.1 dX3_makeNew_56 rfl (lv_at hl 2 rfl) ?_
  refine gf3_12 F hx0 hr dX3_makeNew_57 (fun y13 ey13 => ?_)
  replace h := zl_sub ey13 h
  have hy13 := zal_g hr hx0 (j := 16) rfl ey13
  clear ey13
  replace h := zd_some h
  obtain ⟨a14, rfl, h⟩ := h
  refine gf3_95 F (hy13 _ rfl) hr dX3_makeNew_60 ?_
  refine lv_if_eq (tgt := 106) F.1 F.2.1 dX3_makeNew_63 (by decide) (fun c15 => ?_) (fun c15 => ?_)
  · replace h := zi_t c15 h
    exact bX3_makeNew_106 hst F hA E  x0 x1 x2 v12 hx0 hx1 hr (lv_sub hl [2, 3, 4, 0] rfl) h
  · replace h := zi_f c15 h
    refine lv_aload_n F.1 F.2.1 dX3_makeNew_66 rfl (lv_at hl 2 rfl) ?_
    refine gf3_12 F hx0 hr dX3_makeNew_67 (fun y16 ey16 => ?_)
    replace h := zl_sub ey16 h
    have hy16 := zal_g hr hx0 (j := 16) rfl ey16
    clear ey16
    replace h := zd_some h
    obtain ⟨a17, rfl, h⟩ := h
    refine gf3_261 F (hy16 _ rfl) hr dX3_makeNew_70 ?_
    refine lv_if_ne (tgt := 106) F.1 F.2.1 dX3_makeNew_73 (by decide) (fun c18 => ?_) (fun c18 => ?_)
    · replace h := zi_t c18 h
      exact bX3_makeNew_106 hst F hA E  x0 x1 x2 v12 hx0 hx1 hr (lv_sub hl [2, 3, 4, 0] rfl) h
    · replace h := zi_f (fun q => q c18) h
      refine lv_aload_n F.1 F.2.1 dX3_makeNew_76 rfl (lv_at hl 2 rfl) ?_
      refine gf3_12 F hx0 hr dX3_makeNew_77 (fun y19 ey19 => ?_)
      replace h := zl_sub ey19 h
      have hy19 := zal_g hr hx0 (j := 16) rfl ey19
      clear ey19
      replace h := zd_some h
      obtain ⟨a20, rfl, h⟩ := h
      refine gf3_258 F (hy19 _ rfl) hr dX3_makeNew_80 ?_
      refine lv_iload F.1 F.2.1 dX3_makeNew_83 (lv_at hl 0 rfl) ?_
      refine lv_iadd F.1 F.2.1 dX3_makeNew_85 ?_
      refine lv_aload_n F.1 F.2.1 dX3_makeNew_86 rfl (lv_at hl 2 rfl) ?_
      refine gf3_12 F hx0 hr dX3_makeNew_87 (fun y21 ey21 => ?_)
      replace h := zl_sub ey21 h
      have hy21 := zal_g hr hx0 (j := 16) rfl ey21
      clear ey21
      replace h := zd_some h
      obtain ⟨a22, rfl, h⟩ := h
      refine gf3_267 F (hy21 _ rfl) hr dX3_makeNew_90 ?_
      refine lv_icmp_ne (tgt := 106) F.1 F.2.1 dX3_makeNew_93 (by decide) (fun c23 => ?_) (fun c23 => ?_)
      · replace h := zi_t c23 h
        exact bX3_makeNew_106 hst F hA E  x0 x1 x2 v12 hx0 hx1 hr (lv_sub hl [2, 3, 4, 0] rfl) h
      · replace h := zi_f (fun q => q c23) h
        refine lv_iload_n F.1 F.2.1 dX3_makeNew_96 rfl (lv_at hl 1 rfl) ?_
        refine lv_iload F.1 F.2.1 dX3_makeNew_97 (lv_at hl 0 rfl) ?_
        refine lv_icmp_le (tgt := 106) F.1 F.2.1 dX3_makeNew_99 (by decide) (fun c24 => ?_) (fun c24 => ?_)
        · replace h := zi_t c24 h
          exact bX3_makeNew_106 hst F hA E  x0 x1 x2 v12 hx0 hx1 hr (lv_sub hl [2, 3, 4, 0] rfl) h
        · replace h := zi_f c24 h
          refine lv_iconst (v := (1 : Int32)) F.1 F.2.1 dX3_makeNew_102 (by decide) ?_
          refine lv_goto (tgt := 107) F.1 F.2.1 dX3_makeNew_103 (by decide) ?_
          exact bX3_makeNew_107 hst F hA E  x0 x1 x2 v12 (1 : Int32) hx0 hx1 hr (lv_sub hl [2, 3, 4, 0] rfl) h
end SX3_makeNew
set_option maxRecDepth 100000 in
theorem okX3_makeNew (l : Launch) (D : va_G) (cy : Nat → ClassId) (B : Nat → Nat → Nat) (ids : List (Nat × Nat)) (hst : zSt B ids) (N : Nat) (x0 : Nat) (hx0 : (3, x0) ∈ ids) (x1 : Nat) (hx1 : (7, x1) ∈ ids) (x2 : Int32) {z : St} {r : Int32} {z' : St} (hW : zWf ids z) (h : fX3_makeNew N x0 x1 x2 z = some (r, z')) : zM l yX3_makeNew (zws yX3_makeNew cX3_makeNew 6 (some .boolean)) rmX3_makeNew D cy B ids [.ref (B 3 x0), .ref (B 7 x1), .int x2] (some (.int r)) (r = 0 ∨ r = 1) z z' :=
  zM_of hst hW (by decide +kernel) (Nat.le_of_ble_eq_true rfl) (fun p e s m args below meth c A ls F hA hret hlocks hr hl => bX3_makeNew_0 hst F hA (zEnd_z F hret hlocks) x0 x1 x2 hx0 hx1 hr hl h)
abbrev rmX3_makeOpen : Room := { frames := 2, cells := 0, slots := 0, locals := 47 }
theorem hdX3_makeOpen : yX3_makeOpen.cls ≠ "java/lang/invoke/MethodHandle" ∧ yX3_makeOpen.cls ≠ "java/lang/invoke/VarHandle" ∧ (parseMethodDescriptor yX3_makeOpen.desc).map (fun d => d.parameters.length) = some 2 := by decide +kernel
theorem hroX3_makeOpen_X10_sentNew : rmX10_sentNew.frames + 1 ≤ rmX3_makeOpen.frames ∧ 8 + (3 + 11) + rmX10_sentNew.locals ≤ rmX3_makeOpen.locals := by decide
theorem hroX3_makeOpen_X4_room : rmX4_room.frames + 1 ≤ rmX3_makeOpen.frames ∧ 8 + (1 + 11) + rmX4_room.locals ≤ rmX3_makeOpen.locals := by decide
theorem hroX3_makeOpen_X7_beginSegment : rmX7_beginSegment.frames + 1 ≤ rmX3_makeOpen.frames ∧ 8 + (5 + 11) + rmX7_beginSegment.locals ≤ rmX3_makeOpen.locals := by decide
theorem hroX3_makeOpen_X7_put2 : rmX7_put2.frames + 1 ≤ rmX3_makeOpen.frames ∧ 8 + (3 + 11) + rmX7_put2.locals ≤ rmX3_makeOpen.locals := by decide
section SX3_makeOpen
variable {p : Program} {l : Launch} {e : Env} {s : State} {m : MethodId} {args : Array Value} {below : List Frame} {meth : Method} {c : Code} {Q : State → Prop} {D : va_G} {cy : Nat → ClassId} {B : Nat → Nat → Nat} {ids : List (Nat × Nat)} {A : Nat → Prop}
def fX3_makeOpen_147 (N : Nat)  (x0 : Nat) (z : St) : Option (Int32 × St) := zl (zsI z 3 10 x0 (1 : Int32)) fun z1 => some (0, z1)
set_option maxHeartbeats 4000000 in
set_option maxRecDepth 100000 in
theorem bX3_makeOpen_147 (hst : zSt B ids) (F : zFx p m c cX3_makeOpen 4 s args RX3 D cy B ids A) (hA : ∀ q : Nat, s.heap.size ≤ q → A q) {r : Int32} {z' : St} (E : zEnd p l e rmX3_makeOpen s m args below meth c cX3_makeOpen D cy B ids A Q none z' .return_ True) {N : Nat}  (x0 : Nat) (hx0 : (3, x0) ∈ ids) {z : St} {H : Heap} {locs : List Loc} {ls : Array Slot} (hr : zRep D cy B ids A s.heap z H locs) (hl : lv_has ls 4 [(0, .ref (B 3 x0))]) (h : fX3_makeOpen_147 N x0 z = some (r, z')) : W p l e rmX3_makeOpen s m args below meth c H locs 0 0 Q (F0 m 147 ls []) := by
  unfold fX3_makeOpen_147 at h
  refine lv_aload_n F.1 F.2.1 dX3_makeOpen_147 rfl (lv_at hl 0 rfl) ?_
  refine lv_iconst (v := (1 : Int32)) F.1 F.2.1 dX3_makeOpen_148 (by decide) ?_
  refine pf3_62 F hx0 hr dX3_makeOpen_149 (1 : Int32) (by decide) (fun H locs z1 ez1 hr => ?_)
  replace h := zl_sub ez1 h
  clear ez1
  obtain ⟨rfl, rfl⟩ := zret h
  exact E _ _ _ _ dX3_makeOpen_152 trivial hr
def fX3_makeOpen_96 (N : Nat)  (x0 : Nat) (x2 : Int32) (z : St) : Option (Int32 × St) := if ¬ (zgI z 3 10 x0) = 0 then (zl (zgR z 3 18 x0) fun y2 => zd y2 fun a3 => if ¬ (zgI z 10 0 a3) = 0 then (fX3_makeOpen_147 N x0 z) else (zl (zgR z 3 18 x0) fun y5 => zl (zgR z 3 18 x0) fun y6 => zd y6 fun a7 => zd y5 fun a8 => zl (zsI z 10 0 a8 (x2 + (zgI z 10 2 a7))) fun z9 => fX3_makeOpen_147 N x0 z9)) else (zl (zgR z 3 18 x0) fun y10 => zl (zgR z 3 16 x0) fun y11 => zd y11 fun a12 => zd y10 fun a13 => zc (fX10_sentNew N a13 (zgI z 6 6 a12) x2 z) fun _ z15 => fX3_makeOpen_147 N x0 z15)
set_option maxHeartbeats 4000000 in
set_option maxRecDepth 100000 in
theorem bX3_makeOpen_96 (hst : zSt B ids) (F : zFx p m c cX3_makeOpen 4 s args RX3 D cy B ids A) (hA : ∀ q : Nat, s.heap.size ≤ q → A q) {r : Int32} {z' : St} (E : zEnd p l e rmX3_makeOpen s m args below meth c cX3_makeOpen D cy B ids A Q none z' .return_ True) {N : Nat}  (x0 : Nat) (x2 : Int32) (hx0 : (3, x0) ∈ ids) {z : St} {H : Heap} {locs : List Loc} {ls : Array Slot} (hr : zRep D cy B ids A s.heap z H locs) (hl : lv_has ls 4 [(0, .ref (B 3 x0)), (2, .int x2)]) (h : fX3_makeOpen_96 N x0 x2 z = some (r, z')) : W p l e rmX3_makeOpen s m args below meth c H locs 0 0 Q (F0 m 96 ls []) := by
  unfold fX3_makeOpen_96 at h
  refine lv_aload_n F.1 F.2.1 dX3_makeOpen_96 rfl (lv_at hl 0 rfl) ?_
  refine gf3_62 F hx0 hr dX3_makeOpen_97 ?_
  refine lv_if_ne (tgt := 121) F.1 F.2.1 dX3_makeOpen_100 (by decide) (fun c1 => ?_) (fun c1 => ?_)
  · replace h := zi_t c1 h
    refine lv_aload_n F.1 F.2.1 dX3_makeOpen_121 rfl (lv_at hl 0 rfl) ?_
    refine gf3_28 F hx0 hr dX3_makeOpen_122 (fun y2 ey2 => ?_)
    replace h := zl_sub ey2 h
    have hy2 := zal_g hr hx0 (j := 18) rfl ey2
    clear ey2
    replace h := zd_some h
    obtain ⟨a3, rfl, h⟩ := h
    refine gf3_89 F (hy2 _ rfl) hr dX3_makeOpen_125 ?_
    refine lv_if_ne (tgt := 147) F.1 F.2.1 dX3_makeOpen_128 (by decide) (fun c4 => ?_) (fun c4 => ?_)
    · replace h := zi_t c4 h
      exact bX3_makeOpen_147 hst F hA E  x0 hx0 hr (lv_sub hl [0] rfl) h
    · replace h := zi_f (fun q => q c4) h
      refine lv_aload_n F.1 F.2.1 dX3_makeOpen_131 rfl (lv_at hl 0 rfl) ?_
      refine gf3_28 F hx0 hr dX3_makeOpen_132 (fun y5 ey5 => ?_)
      replace h := zl_sub ey5 h
      have hy5 := zal_g hr hx0 (j := 18) rfl ey5
      clear ey5
      refine lv_iload_n F.1 F.2.1 dX3_makeOpen_135 rfl (lv_at hl 1 rfl) ?_
      refine lv_aload_n F.1 F.2.1 dX3_makeOpen_136 rfl (lv_at hl 0 rfl) ?_
      refine gf3_28 F hx0 hr dX3_makeOpen_137 (fun y6 ey6 => ?_)
      replace h := zl_sub ey6 h
      have hy6 := zal_g hr hx0 (j := 18) rfl ey6
      clear ey6
      replace h := zd_some h
      obtain ⟨a7, rfl, h⟩ := h
      refine gf3_133 F (hy6 _ rfl) hr dX3_makeOpen_140 ?_
      refine lv_iadd F.1 F.2.1 dX3_makeOpen_143 ?_
      replace h := zd_some h
      obtain ⟨a8, rfl, h⟩ := h
      refine pf3_89 F (hy5 _ rfl) hr dX3_makeOpen_144 (x2 + (zgI z 10 2 a7)) (fun H locs z9 ez9 hr => ?_)
      replace h := zl_sub ez9 h
      clear ez9
      exact bX3_makeOpen_147 hst F hA E  x0 hx0 hr (lv_sub hl [0] rfl) h
  · replace h := zi_f (fun q => q c1) h
    refine lv_aload_n F.1 F.2.1 dX3_makeOpen_103 rfl (lv_at hl 0 rfl) ?_
    refine gf3_28 F hx0 hr dX3_makeOpen_104 (fun y10 ey10 => ?_)
    replace h := zl_sub ey10 h
    have hy10 := zal_g hr hx0 (j := 18) rfl ey10
    clear ey10
    refine lv_aload_n F.1 F.2.1 dX3_makeOpen_107 rfl (lv_at hl 0 rfl) ?_
    refine gf3_12 F hx0 hr dX3_makeOpen_108 (fun y11 ey11 => ?_)
    replace h := zl_sub ey11 h
    have hy11 := zal_g hr hx0 (j := 16) rfl ey11
    clear ey11
    replace h := zd_some h
    obtain ⟨a12, rfl, h⟩ := h
    refine gf3_86 F (hy11 _ rfl) hr dX3_makeOpen_111 ?_
    refine lv_iload_n F.1 F.2.1 dX3_makeOpen_114 rfl (lv_at hl 1 rfl) ?_
    replace h := zd_some h
    obtain ⟨a13, rfl, h⟩ := h
    replace h := zc_some h
    obtain ⟨r14, z15, hc16, h⟩ := h
    refine zr_callv (zrun_VN (As := [.int (zgI z 6 6 a12), .int x2]) (rest := []) zn_1606 zq_1608 zs_X10_sentNew zq_1609 zq_16 hdX10_sentNew (by decide) (T := TX10) (N := 9) rfl (okX10_sentNew l D cy B ids hst N a13 (hy10 _ rfl) (zgI z 6 6 a12)  x2  hr.2.2 hc16) F hr (hy10 _ rfl) hl.1 rfl (by decide) dX3_makeOpen_115 rfl rfl hroX3_makeOpen_X10_sentNew ⟨Nat.zero_le _, Nat.zero_le _⟩) F hA hr (fun H locs hw17 hr => ?_)
    clear hc16
    refine lv_goto (tgt := 147) F.1 F.2.1 dX3_makeOpen_118 (by decide) ?_
    exact bX3_makeOpen_147 hst F hA E  x0 hx0 hr (lv_sub hl [0] rfl) h
def fX3_makeOpen_81 (N : Nat)  (x0 : Nat) (x2 : Int32) (z : St) : Option (Int32 × St) := if (zgI z 3 10 x0) = 0 then (fX3_makeOpen_96 N x0 x2 z) else (zl (zgR z 3 18 x0) fun y2 => zd y2 fun a3 => zl (zsI z 10 6 a3 (0 : Int32)) fun z4 => fX3_makeOpen_96 N x0 x2 z4)
set_option maxHeartbeats 4000000 in
set_option maxRecDepth 100000 in
theorem bX3_makeOpen_81 (hst : zSt B ids) (F : zFx p m c cX3_makeOpen 4 s args RX3 D cy B ids A) (hA : ∀ q : Nat, s.heap.size ≤ q → A q) {r : Int32} {z' : St} (E : zEnd p l e rmX3_makeOpen s m args below meth c cX3_makeOpen D cy B ids A Q none z' .return_ True) {N : Nat}  (x0 : Nat) (x2 : Int32) (hx0 : (3, x0) ∈ ids) {z : St} {H : Heap} {locs : List Loc} {ls : Array Slot} (hr : zRep D cy B ids A s.heap z H locs) (hl : lv_has ls 4 [(0, .ref (B 3 x0)), (2, .int x2)]) (h : fX3_makeOpen_81 N x0 x2 z = some (r, z')) : W p l e rmX3_makeOpen s m args below meth c H locs 0 0 Q (F0 m 81 ls []) := by
  unfold fX3_makeOpen_81 at h
  refine lv_aload_n F.1 F.2.1 dX3_makeOpen_81 rfl (lv_at hl 0 rfl) ?_
  refine gf3_62 F hx0 hr dX3_makeOpen_82 ?_
  refine lv_if_eq (tgt := 96) F.1 F.2.1 dX3_makeOpen_85 (by decide) (fun c1 => ?_) (fun c1 => ?_)
  · replace h := zi_t c1 h
    exact bX3_makeOpen_96 hst F hA E  x0 x2 hx0 hr (lv_sub hl [0, 1] rfl) h
  · replace h := zi_f c1 h
    refine lv_aload_n F.1 F.2.1 dX3_makeOpen_88 rfl (lv_at hl 0 rfl) ?_
    refine gf3_28 F hx0 hr dX3_makeOpen_89 (fun y2 ey2 => ?_)
    replace h := zl_sub ey2 h
    have hy2 := zal_g hr hx0 (j := 18) rfl ey2
    clear ey2
    refine lv_iconst (v := (0 : Int32)) F.1 F.2.1 dX3_makeOpen_92 (by decide) ?_
    replace h := zd_some h
    obtain ⟨a3, rfl, h⟩ := h
    refine pf3_252 F (hy2 _ rfl) hr dX3_makeOpen_93 (0 : Int32) (by decide) (fun H locs z4 ez4 hr => ?_)
    replace h := zl_sub ez4 h
    clear ez4
    exact bX3_makeOpen_96 hst F hA E  x0 x2 hx0 hr (lv_sub hl [0, 1] rfl) h
def fX3_makeOpen_52 (N : Nat)  (x0 : Nat) (x1 : Nat) (x2 : Int32) (x3 : Int32) (s0 : Nat) (s1 : Int32) (s2 : Int32) (s3 : Int32) (z : St) : Option (Int32 × St) := zl (zgR z 3 17 x0) fun y1 => zd y1 fun a2 => zc (fX4_room N a2 z) fun r3 z4 => zc (fX7_beginSegment N s0 s1 s2 s3 r3 z4) fun _ z8 => zc (fX7_put2 N x1 (16 : Int32) (zgI z8 3 1 x0) z8) fun _ z12 => if x3 = 0 then (fX3_makeOpen_81 N x0 x2 z12) else (zl (zsI z12 3 13 x0 (0 : Int32)) fun z16 => fX3_makeOpen_81 N x0 x2 z16)
set_option maxHeartbeats 4000000 in
set_option maxRecDepth 100000 in
theorem bX3_makeOpen_52 (hst : zSt B ids) (F : zFx p m c cX3_makeOpen 4 s args RX3 D cy B ids A) (hA : ∀ q : Nat, s.heap.size ≤ q → A q) {r : Int32} {z' : St} (E : zEnd p l e rmX3_makeOpen s m args below meth c cX3_makeOpen D cy B ids A Q none z' .return_ True) {N : Nat}  (x0 : Nat) (x1 : Nat) (x2 : Int32) (x3 : Int32) (s0 : Nat) (s1 : Int32) (s2 : Int32) (s3 : Int32) (hx0 : (3, x0) ∈ ids) (hx1 : (7, x1) ∈ ids) (hs0 : (7, s0) ∈ ids) {z : St} {H : Heap} {locs : List Loc} {ls : Array Slot} (hr : zRep D cy B ids A s.heap z H locs) (hl : lv_has ls 4 [(0, .ref (B 3 x0)), (1, .ref (B 7 x1)), (2, .int x2), (3, .int x3)]) (h : fX3_makeOpen_52 N x0 x1 x2 x3 s0 s1 s2 s3 z = some (r, z')) : W p l e rmX3_makeOpen s m args below meth c H locs 0 0 Q (F0 m 52 ls [.int s3, .int s2, .int s1, .ref (B 7 s0)]) := by
  unfold fX3_makeOpen_52 at h
  refine lv_aload_n F.1 F.2.1 dX3_makeOpen_52 rfl (lv_at hl 0 rfl) ?_
  refine gf3_21 F hx0 hr dX3_makeOpen_53 (fun y1 ey1 => ?_)
  replace h := zl_sub ey1 h
  have hy1 := zal_g hr hx0 (j := 17) rfl ey1
  clear ey1
  replace h := zd_some h
  obtain ⟨a2, rfl, h⟩ := h
  replace h := zc_some h
  obtain ⟨r3, z4, hc5, h⟩ := h
  refine zr_calli (zrun_VN (As := []) (rest := [.int s3, .int s2, .int s1, .ref (B 7 s0)]) zn_1604 zq_1376 zs_X4_room zq_1377 zq_15 hdX4_room (by decide) (T := TX4) (N := 8) rfl (okX4_room l D cy B ids hst N a2 (hy1 _ rfl) hr.2.2 hc5) F hr (hy1 _ rfl) hl.1 rfl (Nat.le_of_ble_eq_true rfl) dX3_makeOpen_56 rfl rfl hroX3_makeOpen_X4_room ⟨Nat.zero_le _, Nat.zero_le _⟩) F hA hr (fun H locs hw6 hr => ?_)
  clear hc5
  replace h := zc_some h
  obtain ⟨r7, z8, hc9, h⟩ := h
  refine zr_callv (zrun_VN (As := [.int s1, .int s2, .int s3, .int r3]) (rest := []) zn_1599 zq_1297 zs_X7_beginSegment zq_1298 zq_2 hdX7_beginSegment (by decide) (T := TX7) (N := 20) rfl (okX7_beginSegment l D cy B ids hst N s0 hs0 s1  s2  s3  r3  hr.2.2 hc9) F hr hs0 hl.1 rfl (by decide) dX3_makeOpen_59 rfl rfl hroX3_makeOpen_X7_beginSegment ⟨Nat.zero_le _, Nat.zero_le _⟩) F hA hr (fun H locs hw10 hr => ?_)
  clear hc9
  refine lv_aload_n F.1 F.2.1 dX3_makeOpen_62 rfl (lv_at hl 1 rfl) ?_
  refine lv_bipush (v := (16 : Int32)) F.1 F.2.1 dX3_makeOpen_63 (by decide) ?_
  refine lv_aload_n F.1 F.2.1 dX3_makeOpen_65 rfl (lv_at hl 0 rfl) ?_
  refine gf3_36 F hx0 hr dX3_makeOpen_66 ?_
  replace h := zc_some h
  obtain ⟨r11, z12, hc13, h⟩ := h
  refine zr_callv (zrun_VN (As := [.int (16 : Int32), .int (zgI z8 3 1 x0)]) (rest := []) zn_1605 zq_1306 zs_X7_put2 zq_1307 zq_2 hdX7_put2 (by decide) (T := TX7) (N := 20) rfl (okX7_put2 l D cy B ids hst N x1 hx1 (16 : Int32)  (zgI z8 3 1 x0)  hr.2.2 hc13) F hr hx1 hl.1 rfl (by decide) dX3_makeOpen_69 rfl rfl hroX3_makeOpen_X7_put2 ⟨Nat.zero_le _, Nat.zero_le _⟩) F hA hr (fun H locs hw14 hr => ?_)
  clear hc13
  refine lv_iload_n F.1 F.2.1 dX3_makeOpen_72 rfl (lv_at hl 3 rfl) ?_
  refine lv_if_eq (tgt := 81) F.1 F.2.1 dX3_makeOpen_73 (by decide) (fun c15 => ?_) (fun c15 => ?_)
  · replace h := zi_t c15 h
    exact bX3_makeOpen_81 hst F hA E  x0 x2 hx0 hr (lv_sub hl [0, 2] rfl) h
  · replace h := zi_f c15 h
    refine lv_aload_n F.1 F.2.1 dX3_makeOpen_76 rfl (lv_at hl 0 rfl) ?_
    refine lv_iconst (v := (0 : Int32)) F.1 F.2.1 dX3_makeOpen_77 (by decide) ?_
    refine pf3_71 F hx0 hr dX3_makeOpen_78 (0 : Int32) (by decide) (fun H locs z16 ez16 hr => ?_)
    replace h := zl_sub ez16 h
    clear ez16
    exact bX3_makeOpen_81 hst F hA E  x0 x2 hx0 hr (lv_sub hl [0, 2] rfl) h
def fX3_makeOpen_30 (N : Nat)  (x0 : Nat) (x1 : Nat) (x2 : Int32) (x3 : Int32) (s0 : Nat) (s1 : Int32) (z : St) : Option (Int32 × St) := zl (zgR z 3 16 x0) fun y1 => zd y1 fun a2 => if x3 = 0 then (fX3_makeOpen_52 N x0 x1 x2 x3 s0 s1 (zgI z 6 4 a2) (0 : Int32) z) else (zl (zgR z 3 17 x0) fun y4 => zd y4 fun a5 => fX3_makeOpen_52 N x0 x1 x2 x3 s0 s1 (zgI z 6 4 a2) (zgI z 4 4 a5) z)
set_option maxHeartbeats 4000000 in
set_option maxRecDepth 100000 in
theorem bX3_makeOpen_30 (hst : zSt B ids) (F : zFx p m c cX3_makeOpen 4 s args RX3 D cy B ids A) (hA : ∀ q : Nat, s.heap.size ≤ q → A q) {r : Int32} {z' : St} (E : zEnd p l e rmX3_makeOpen s m args below meth c cX3_makeOpen D cy B ids A Q none z' .return_ True) {N : Nat}  (x0 : Nat) (x1 : Nat) (x2 : Int32) (x3 : Int32) (s0 : Nat) (s1 : Int32) (hx0 : (3, x0) ∈ ids) (hx1 : (7, x1) ∈ ids) (hs0 : (7, s0) ∈ ids) {z : St} {H : Heap} {locs : List Loc} {ls : Array Slot} (hr : zRep D cy B ids A s.heap z H locs) (hl : lv_has ls 4 [(0, .ref (B 3 x0)), (1, .ref (B 7 x1)), (2, .int x2), (3, .int x3)]) (h : fX3_makeOpen_30 N x0 x1 x2 x3 s0 s1 z = some (r, z')) : W p l e rmX3_makeOpen s m args below meth c H locs 0 0 Q (F0 m 30 ls [.int s1, .ref (B 7 s0)]) := by
  unfold fX3_makeOpen_30 at h
  refine lv_aload_n F.1 F.2.1 dX3_makeOpen_30 rfl (lv_at hl 0 rfl) ?_
  refine gf3_12 F hx0 hr dX3_makeOpen_31 (fun y1 ey1 => ?_)
  replace h := zl_sub ey1 h
  have hy1 := zal_g hr hx0 (j := 16) rfl ey1
  clear ey1
  replace h := zd_some h
  obtain ⟨a2, rfl, h⟩ := h
  refine gf3_83 F (hy1 _ rfl) hr dX3_makeOpen_34 ?_
  refine lv_iload_n F.1 F.2.1 dX3_makeOpen_37 rfl (lv_at hl 3 rfl) ?_
  refine lv_if_eq (tgt := 51) F.1 F.2.1 dX3_makeOpen_38 (by decide) (fun c3 => ?_) (fun c3 => ?_)
  · replace h := zi_t c3 h
    refine lv_iconst (v := (0 : Int32)) F.1 F.2.1 dX3_makeOpen_51 (by decide) ?_
    exact bX3_makeOpen_52 hst F hA E  x0 x1 x2 x3 s0 s1 (zgI z 6 4 a2) (0 : Int32) hx0 hx1 hs0 hr (lv_sub hl [0, 1, 2, 3] rfl) h
  · replace h := zi_f c3 h
    refine lv_aload_n F.1 F.2.1 dX3_makeOpen_41 rfl (lv_at hl 0 rfl) ?_
    refine gf3_21 F hx0 hr dX3_makeOpen_42 (fun y4 ey4 => ?_)
    replace h := zl_sub ey4 h
    have hy4 := zal_g hr hx0 (j := 17) rfl ey4
    clear ey4
    replace h := zd_some h
    obtain ⟨a5, rfl, h⟩ := h
    refine gf3_104 F (hy4 _ rfl) hr dX3_makeOpen_45 ?_
    refine lv_goto (tgt := 52) F.1 F.2.1 dX3_makeOpen_48 (by decide) ?_
    exact bX3_makeOpen_52 hst F hA E  x0 x1 x2 x3 s0 s1 (zgI z 6 4 a2) (zgI z 4 4 a5) hx0 hx1 hs0 hr (lv_sub hl [0, 1, 2, 3] rfl) h
def fX3_makeOpen_13 (N : Nat)  (x0 : Nat) (x1 : Nat) (x2 : Int32) (s0 : Int32) (z : St) : Option (Int32 × St) := zl (zsI z 3 9 x0 (0 : Int32)) fun z1 => if s0 = 0 then (fX3_makeOpen_30 N x0 x1 x2 s0 x1 (1 : Int32) z1) else (fX3_makeOpen_30 N x0 x1 x2 s0 x1 (9 : Int32) z1)
set_option maxHeartbeats 4000000 in
set_option maxRecDepth 100000 in
theorem bX3_makeOpen_13 (hst : zSt B ids) (F : zFx p m c cX3_makeOpen 4 s args RX3 D cy B ids A) (hA : ∀ q : Nat, s.heap.size ≤ q → A q) {r : Int32} {z' : St} (E : zEnd p l e rmX3_makeOpen s m args below meth c cX3_makeOpen D cy B ids A Q none z' .return_ True) {N : Nat}  (x0 : Nat) (x1 : Nat) (x2 : Int32) (s0 : Int32) (hx0 : (3, x0) ∈ ids) (hx1 : (7, x1) ∈ ids) {z : St} {H : Heap} {locs : List Loc} {ls : Array Slot} (hr : zRep D cy B ids A s.heap z H locs) (hl : lv_has ls 4 [(0, .ref (B 3 x0)), (1, .ref (B 7 x1)), (2, .int x2)]) (h : fX3_makeOpen_13 N x0 x1 x2 s0 z = some (r, z')) : W p l e rmX3_makeOpen s m args below meth c H locs 0 0 Q (F0 m 13 ls [.int s0]) := by
  unfold fX3_makeOpen_13 at h
  refine lv_istore_n (lv' := [(3, .int s0), (0, .ref (B 3 x0)), (1, .ref (B 7 x1)), (2, .int x2)]) F.1 F.2.1 dX3_makeOpen_13 rfl hl (by decide) rfl (fun ls hl => ?_)
  refine lv_aload_n F.1 F.2.1 dX3_makeOpen_14 rfl (lv_at hl 1 rfl) ?_
  refine lv_iconst (v := (0 : Int32)) F.1 F.2.1 dX3_makeOpen_15 (by decide) ?_
  refine pf3_59 F hx0 hr dX3_makeOpen_16 (0 : Int32) (by decide) (fun H locs z1 ez1 hr => ?_)
  replace h := zl_sub ez1 h
  clear ez1
  refine lv_aload_n F.1 F.2.1 dX3_makeOpen_19 rfl (lv_at hl 2 rfl) ?_
  refine lv_iload_n F.1 F.2.1 dX3_makeOpen_20 rfl (lv_at hl 0 rfl) ?_
  refine lv_if_eq (tgt := 29) F.1 F.2.1 dX3_makeOpen_21 (by decide) (fun c2 => ?_) (fun c2 => ?_)
  · replace h := zi_t c2 h
    refine lv_iconst (v := (1 : Int32)) F.1 F.2.1 dX3_makeOpen_29 (by decide) ?_
    exact bX3_makeOpen_30 hst F hA E  x0 x1 x2 s0 x1 (1 : Int32) hx0 hx1 hx1 hr (lv_sub hl [1, 2, 3, 0] rfl) h
  · replace h := zi_f c2 h
    refine lv_bipush (v := (9 : Int32)) F.1 F.2.1 dX3_makeOpen_24 (by decide) ?_
    refine lv_goto (tgt := 30) F.1 F.2.1 dX3_makeOpen_26 (by decide) ?_
    exact bX3_makeOpen_30 hst F hA E  x0 x1 x2 s0 x1 (9 : Int32) hx0 hx1 hx1 hr (lv_sub hl [1, 2, 3, 0] rfl) h
def fX3_makeOpen (N : Nat)  (x0 : Nat) (x1 : Nat) (x2 : Int32) (z : St) : Option (Int32 × St) := if ¬ (zgI z 3 0 x0) = (3 : Int32) then (fX3_makeOpen_13 N x0 x1 x2 (0 : Int32) z) else (fX3_makeOpen_13 N x0 x1 x2 (1 : Int32) z)
set_option maxHeartbeats 4000000 in
set_option maxRecDepth 100000 in
theorem bX3_makeOpen_0 (hst : zSt B ids) (F : zFx p m c cX3_makeOpen 4 s args RX3 D cy B ids A) (hA : ∀ q : Nat, s.heap.size ≤ q → A q) {r : Int32} {z' : St} (E : zEnd p l e rmX3_makeOpen s m args below meth c cX3_makeOpen D cy B ids A Q none z' .return_ True) {N : Nat}  (x0 : Nat) (x1 : Nat) (x2 : Int32) (hx0 : (3, x0) ∈ ids) (hx1 : (7, x1) ∈ ids) {z : St} {H : Heap} {locs : List Loc} {ls : Array Slot} (hr : zRep D cy B ids A s.heap z H locs) (hl : lv_has ls 4 [(0, .ref (B 3 x0)), (1, .ref (B 7 x1)), (2, .int x2)]) (h : fX3_makeOpen N x0 x1 x2 z = some (r, z')) : W p l e rmX3_makeOpen s m args below meth c H locs 0 0 Q (F0 m 0 ls []) := by
  unfold fX3_makeOpen at h
  refine lv_aload_n F.1 F.2.1 dX3_makeOpen_0 rfl (lv_at hl 0 rfl) ?_
  refine gf3_32 F hx0 hr dX3_makeOpen_1 ?_
  refine lv_iconst (v := (3 : Int32)) F.1 F.2.1 dX3_makeOpen_4 (by decide) ?_
  refine lv_icmp_ne (tgt := 12) F.1 F.2.1 dX3_makeOpen_5 (by decide) (fun c1 => ?_) (fun c1 => ?_)
  · replace h := zi_t c1 h
    refine lv_iconst (v := (0 : Int32)) F.1 F.2.1 dX3_makeOpen_12 (by decide) ?_
    exact bX3_makeOpen_13 hst F hA E  x0 x1 x2 (0 : Int32) hx0 hx1 hr (lv_sub hl [0, 1, 2] rfl) h
  · replace h := zi_f (fun q => q c1) h
    refine lv_iconst (v := (1 : Int32)) F.1 F.2.1 dX3_makeOpen_8 (by decide) ?_
    refine lv_goto (tgt := 13) F.1 F.2.1 dX3_makeOpen_9 (by decide) ?_
    exact bX3_makeOpen_13 hst F hA E  x0 x1 x2 (1 : Int32) hx0 hx1 hr (lv_sub hl [0, 1, 2] rfl) h
end SX3_makeOpen
set_option maxRecDepth 100000 in
theorem okX3_makeOpen (l : Launch) (D : va_G) (cy : Nat → ClassId) (B : Nat → Nat → Nat) (ids : List (Nat × Nat)) (hst : zSt B ids) (N : Nat) (x0 : Nat) (hx0 : (3, x0) ∈ ids) (x1 : Nat) (hx1 : (7, x1) ∈ ids) (x2 : Int32) {z : St} {r : Int32} {z' : St} (hW : zWf ids z) (h : fX3_makeOpen N x0 x1 x2 z = some (r, z')) : zM l yX3_makeOpen (zws yX3_makeOpen cX3_makeOpen 4 none) rmX3_makeOpen D cy B ids [.ref (B 3 x0), .ref (B 7 x1), .int x2] none True z z' :=
  zM_of hst hW (by decide +kernel) (Nat.le_of_ble_eq_true rfl) (fun p e s m args below meth c A ls F hA hret hlocks hr hl => bX3_makeOpen_0 hst F hA (zEnd_v F hret hlocks) x0 x1 x2 hx0 hx1 hr hl h)
