abbrev rmX3_takeReset : Room := { frames := 2, cells := 0, slots := 0, locals := 42 }
theorem hdX3_takeReset : yX3_takeReset.cls ≠ "java/lang/invoke/MethodHandle" ∧ yX3_takeReset.cls ≠ "java/lang/invoke/VarHandle" ∧ (parseMethodDescriptor yX3_takeReset.desc).map (fun d => d.parameters.length) = some 0 := by decide +kernel
theorem hroX3_takeReset_X3_beginAgain : rmX3_beginAgain.frames + 1 ≤ rmX3_takeReset.frames ∧ 8 + (2 + 11) + rmX3_beginAgain.locals ≤ rmX3_takeReset.locals := by decide
theorem hroX3_takeReset_X3_finish : rmX3_finish.frames + 1 ≤ rmX3_takeReset.frames ∧ 8 + (2 + 11) + rmX3_finish.locals ≤ rmX3_takeReset.locals := by decide
section SX3_takeReset
variable {p : Program} {l : Launch} {e : Env} {s : State} {m : MethodId} {args : Array Value} {below : List Frame} {meth : Method} {c : Code} {Q : State → Prop} {D : va_G} {cy : Nat → ClassId} {B : Nat → Nat → Nat} {ids : List (Nat × Nat)} {A : Nat → Prop}
def fX3_takeReset_54 (N : Nat)  (s0 : Nat) (s1 : Int32) (z : St) : Option (Int32 × St) := zc (fX3_finish N s0 s1 z) fun _ z2 => some (0, z2)
set_option maxHeartbeats 4000000 in
set_option maxRecDepth 100000 in
theorem bX3_takeReset_54 (hst : zSt B ids) (F : zFx p m c cX3_takeReset 1 s args RX3 D cy B ids A) (hA : ∀ q : Nat, s.heap.size ≤ q → A q) {r : Int32} {z' : St} (E : zEnd p l e rmX3_takeReset s m args below meth c cX3_takeReset D cy B ids A Q none z' .return_ True) {N : Nat}  (s0 : Nat) (s1 : Int32) (hs0 : (3, s0) ∈ ids) {z : St} {H : Heap} {locs : List Loc} {ls : Array Slot} (hr : zRep D cy B ids A s.heap z H locs) (hl : lv_has ls 1 []) (h : fX3_takeReset_54 N s0 s1 z = some (r, z')) : W p l e rmX3_takeReset s m args below meth c H locs 0 0 Q (F0 m 54 ls [.int s1, .ref (B 3 s0)]) := by
  unfold fX3_takeReset_54 at h
  replace h := zc_some h
  obtain ⟨r1, z2, hc3, h⟩ := h
  refine zr_callv (zrun_V (As := [.int s1]) (rest := []) zq_1338 zq_1151 zs_X3_finish zq_1152 zq_13 hdX3_finish (by decide) (T := TX3) (N := 19) rfl (okX3_finish l D cy B ids hst N s0 hs0 s1  hr.2.2 hc3) F hr hs0 hl.1 rfl (by decide) dX3_takeReset_54 rfl rfl hroX3_takeReset_X3_finish ⟨Nat.zero_le _, Nat.zero_le _⟩) F hA hr (fun H locs hw4 hr => ?_)
  clear hc3
  obtain ⟨rfl, rfl⟩ := zret h
  exact E _ _ _ _ dX3_takeReset_57 trivial hr
def fX3_takeReset_52 (N : Nat)  (s0 : Nat) (z : St) : Option (Int32 × St) := fX3_takeReset_54 N s0 (11 : Int32) z
set_option maxHeartbeats 4000000 in
set_option maxRecDepth 100000 in
theorem bX3_takeReset_52 (hst : zSt B ids) (F : zFx p m c cX3_takeReset 1 s args RX3 D cy B ids A) (hA : ∀ q : Nat, s.heap.size ≤ q → A q) {r : Int32} {z' : St} (E : zEnd p l e rmX3_takeReset s m args below meth c cX3_takeReset D cy B ids A Q none z' .return_ True) {N : Nat}  (s0 : Nat) (hs0 : (3, s0) ∈ ids) {z : St} {H : Heap} {locs : List Loc} {ls : Array Slot} (hr : zRep D cy B ids A s.heap z H locs) (hl : lv_has ls 1 []) (h : fX3_takeReset_52 N s0 z = some (r, z')) : W p l e rmX3_takeReset s m args below meth c H locs 0 0 Q (F0 m 52 ls [.ref (B 3 s0)]) := by
  unfold fX3_takeReset_52 at h
  refine lv_bipush (v := (11 : Int32)) F.1 F.2.1 dX3_takeReset_52 (by decide) ?_
  exact bX3_takeReset_54 hst F hA E  s0 (11 : Int32) hs0 hr (lv_sub hl [] rfl) h
def fX3_takeReset_29 (N : Nat)  (x0 : Nat) (z : St) : Option (Int32 × St) := if (zgI z 3 0 x0) < (8 : Int32) then (fX3_takeReset_52 N x0 z) else (if (10 : Int32) < (zgI z 3 0 x0) then (fX3_takeReset_52 N x0 z) else (fX3_takeReset_54 N x0 (0 : Int32) z))
set_option maxHeartbeats 4000000 in
set_option maxRecDepth 100000 in
theorem bX3_takeReset_29 (hst : zSt B ids) (F : zFx p m c cX3_takeReset 1 s args RX3 D cy B ids A) (hA : ∀ q : Nat, s.heap.size ≤ q → A q) {r : Int32} {z' : St} (E : zEnd p l e rmX3_takeReset s m args below meth c cX3_takeReset D cy B ids A Q none z' .return_ True) {N : Nat}  (x0 : Nat) (hx0 : (3, x0) ∈ ids) {z : St} {H : Heap} {locs : List Loc} {ls : Array Slot} (hr : zRep D cy B ids A s.heap z H locs) (hl : lv_has ls 1 [(0, .ref (B 3 x0))]) (h : fX3_takeReset_29 N x0 z = some (r, z')) : W p l e rmX3_takeReset s m args below meth c H locs 0 0 Q (F0 m 29 ls []) := by
  unfold fX3_takeReset_29 at h
  refine lv_aload_n F.1 F.2.1 dX3_takeReset_29 rfl (lv_at hl 0 rfl) ?_
  refine lv_aload_n F.1 F.2.1 dX3_takeReset_30 rfl (lv_at hl 0 rfl) ?_
  refine gf3_32 F hx0 hr dX3_takeReset_31 ?_
  refine lv_bipush (v := (8 : Int32)) F.1 F.2.1 dX3_takeReset_34 (by decide) ?_
  refine lv_icmp_lt (tgt := 52) F.1 F.2.1 dX3_takeReset_36 (by decide) (fun c1 => ?_) (fun c1 => ?_)
  · replace h := zi_t c1 h
    exact bX3_takeReset_52 hst F hA E  x0 hx0 hr (lv_sub hl [] rfl) h
  · replace h := zi_f c1 h
    refine lv_aload_n F.1 F.2.1 dX3_takeReset_39 rfl (lv_at hl 0 rfl) ?_
    refine gf3_32 F hx0 hr dX3_takeReset_40 ?_
    refine lv_bipush (v := (10 : Int32)) F.1 F.2.1 dX3_takeReset_43 (by decide) ?_
    refine lv_icmp_gt (tgt := 52) F.1 F.2.1 dX3_takeReset_45 (by decide) (fun c2 => ?_) (fun c2 => ?_)
    · replace h := zi_t c2 h
      exact bX3_takeReset_52 hst F hA E  x0 hx0 hr (lv_sub hl [] rfl) h
    · replace h := zi_f c2 h
      refine lv_iconst (v := (0 : Int32)) F.1 F.2.1 dX3_takeReset_48 (by decide) ?_
      refine lv_goto (tgt := 54) F.1 F.2.1 dX3_takeReset_49 (by decide) ?_
      exact bX3_takeReset_54 hst F hA E  x0 (0 : Int32) hx0 hr (lv_sub hl [] rfl) h
def fX3_takeReset (N : Nat)  (x0 : Nat) (z : St) : Option (Int32 × St) := if ¬ (zgI z 3 0 x0) = (3 : Int32) then (fX3_takeReset_29 N x0 z) else (if (zgI z 3 3 x0) = 0 then (fX3_takeReset_29 N x0 z) else (zl (zgR z 3 16 x0) fun y3 => zd y3 fun a4 => zc (fX3_beginAgain N x0 (zgI z 6 4 a4) z) fun _ z6 => some (0, z6)))
set_option maxHeartbeats 4000000 in
set_option maxRecDepth 100000 in
theorem bX3_takeReset_0 (hst : zSt B ids) (F : zFx p m c cX3_takeReset 1 s args RX3 D cy B ids A) (hA : ∀ q : Nat, s.heap.size ≤ q → A q) {r : Int32} {z' : St} (E : zEnd p l e rmX3_takeReset s m args below meth c cX3_takeReset D cy B ids A Q none z' .return_ True) {N : Nat}  (x0 : Nat) (hx0 : (3, x0) ∈ ids) {z : St} {H : Heap} {locs : List Loc} {ls : Array Slot} (hr : zRep D cy B ids A s.heap z H locs) (hl : lv_has ls 1 [(0, .ref (B 3 x0))]) (h : fX3_takeReset N x0 z = some (r, z')) : W p l e rmX3_takeReset s m args below meth c H locs 0 0 Q (F0 m 0 ls []) := by
  unfold fX3_takeReset at h
  refine lv_aload_n F.1 F.2.1 dX3_takeReset_0 rfl (lv_at hl 0 rfl) ?_
  refine gf3_32 F hx0 hr dX3_takeReset_1 ?_
  refine lv_iconst (v := (3 : Int32)) F.1 F.2.1 dX3_takeReset_4 (by decide) ?_
  refine lv_icmp_ne (tgt := 29) F.1 F.2.1 dX3_takeReset_5 (by decide) (fun c1 => ?_) (fun c1 => ?_)
  · replace h := zi_t c1 h
    exact bX3_takeReset_29 hst F hA E  x0 hx0 hr (lv_sub hl [0] rfl) h
  · replace h := zi_f (fun q => q c1) h
    refine lv_aload_n F.1 F.2.1 dX3_takeReset_8 rfl (lv_at hl 0 rfl) ?_
    refine gf3_39 F hx0 hr dX3_takeReset_9 ?_
    refine lv_if_eq (tgt := 29) F.1 F.2.1 dX3_takeReset_12 (by decide) (fun c2 => ?_) (fun c2 => ?_)
    · replace h := zi_t c2 h
      exact bX3_takeReset_29 hst F hA E  x0 hx0 hr (lv_sub hl [0] rfl) h
    · replace h := zi_f c2 h
      refine lv_aload_n F.1 F.2.1 dX3_takeReset_15 rfl (lv_at hl 0 rfl) ?_
      refine lv_aload_n F.1 F.2.1 dX3_takeReset_16 rfl (lv_at hl 0 rfl) ?_
      refine gf3_12 F hx0 hr dX3_takeReset_17 (fun y3 ey3 => ?_)
      replace h := zl_sub ey3 h
      have hy3 := zal_g hr hx0 (j := 16) rfl ey3
      clear ey3
      replace h := zd_some h
      obtain ⟨a4, rfl, h⟩ := h
      refine gf3_83 F (hy3 _ rfl) hr dX3_takeReset_20 ?_
      replace h := zc_some h
      obtain ⟨r5, z6, hc7, h⟩ := h
      refine zr_callv (zrun_V (As := [.int (zgI z 6 4 a4)]) (rest := []) zq_1254 zq_1256 zs_X3_beginAgain zq_1257 zq_13 hdX3_beginAgain (by decide) (T := TX3) (N := 19) rfl (okX3_beginAgain l D cy B ids hst N x0 hx0 (zgI z 6 4 a4)  hr.2.2 hc7) F hr hx0 hl.1 rfl (by decide) dX3_takeReset_23 rfl rfl hroX3_takeReset_X3_beginAgain ⟨Nat.zero_le _, Nat.zero_le _⟩) F hA hr (fun H locs hw8 hr => ?_)
      clear hc7
      refine lv_goto (tgt := 57) F.1 F.2.1 dX3_takeReset_26 (by decide) ?_
      obtain ⟨rfl, rfl⟩ := zret h
      exact E _ _ _ _ dX3_takeReset_57 trivial hr
end SX3_takeReset
set_option maxRecDepth 100000 in
theorem okX3_takeReset (l : Launch) (D : va_G) (cy : Nat → ClassId) (B : Nat → Nat → Nat) (ids : List (Nat × Nat)) (hst : zSt B ids) (N : Nat) (x0 : Nat) (hx0 : (3, x0) ∈ ids) {z : St} {r : Int32} {z' : St} (hW : zWf ids z) (h : fX3_takeReset N x0 z = some (r, z')) : zM l yX3_takeReset (zws yX3_takeReset cX3_takeReset 1 none) rmX3_takeReset D cy B ids [.ref (B 3 x0)] none True z z' :=
  zM_of hst hW (by decide +kernel) (Nat.le_of_ble_eq_true rfl) (fun p e s m args below meth c A ls F hA hret hlocks hr hl => bX3_takeReset_0 hst F hA (zEnd_v F hret hlocks) x0 hx0 hr hl h)
abbrev rmX4_fits : Room := { frames := 1, cells := 0, slots := 0, locals := 20 }
theorem hdX4_fits : yX4_fits.cls ≠ "java/lang/invoke/MethodHandle" ∧ yX4_fits.cls ≠ "java/lang/invoke/VarHandle" ∧ (parseMethodDescriptor yX4_fits.desc).map (fun d => d.parameters.length) = some 2 := by decide +kernel
theorem hroX4_fits_X4_room : rmX4_room.frames + 1 ≤ rmX4_fits.frames ∧ 8 + (1 + 11) + rmX4_room.locals ≤ rmX4_fits.locals := by decide
section SX4_fits
variable {p : Program} {l : Launch} {e : Env} {s : State} {m : MethodId} {args : Array Value} {below : List Frame} {meth : Method} {c : Code} {Q : State → Prop} {D : va_G} {cy : Nat → ClassId} {B : Nat → Nat → Nat} {ids : List (Nat × Nat)} {A : Nat → Prop}
def fX4_fits_27 (N : Nat)   (z : St) : Option (Int32 × St) := some ((1 : Int32), z)
set_option maxHeartbeats 4000000 in
set_option maxRecDepth 100000 in
theorem bX4_fits_27 (hst : zSt B ids) (F : zFx p m c cX4_fits 4 s args RX4 D cy B ids A) (hA : ∀ q : Nat, s.heap.size ≤ q → A q) {r : Int32} {z' : St} (E : zEnd p l e rmX4_fits s m args below meth c cX4_fits D cy B ids A Q (some (.int r)) z' .ireturn (r = 0 ∨ r = 1)) {N : Nat}    {z : St} {H : Heap} {locs : List Loc} {ls : Array Slot} (hr : zRep D cy B ids A s.heap z H locs) (hl : lv_has ls 4 []) (h : fX4_fits_27 N z = some (r, z')) : W p l e rmX4_fits s m args below meth c H locs 0 0 Q (F0 m 27 ls []) := by
  unfold fX4_fits_27 at h
  refine lv_iconst (v := (1 : Int32)) F.1 F.2.1 dX4_fits_27 (by decide) ?_
  refine lv_goto (tgt := 32) F.1 F.2.1 dX4_fits_28 (by decide) ?_
  obtain ⟨rfl, rfl⟩ := zret h
  exact E _ _ _ _ dX4_fits_32 (by decide) hr
def fX4_fits (N : Nat)  (x0 : Nat) (x1 : Int32) (x2 : Int32) (z : St) : Option (Int32 × St) := zl (x1 - (zgI z 4 4 x0)) fun v1 => if ¬ x2 = 0 then (if v1 < 0 then (zc (fX4_room N x0 z) fun r4 z5 => if r4 ≤ 0 then (some ((0 : Int32), z5)) else (if (v1 + x2) ≤ 0 then (some ((0 : Int32), z5)) else (some ((1 : Int32), z5)))) else (zc (fX4_room N x0 z) fun r10 z11 => if r10 ≤ v1 then (some ((0 : Int32), z11)) else (some ((1 : Int32), z11)))) else (if v1 = 0 then (fX4_fits_27 N z) else (if v1 ≤ 0 then (some ((0 : Int32), z)) else (zc (fX4_room N x0 z) fun r17 z18 => if r17 ≤ v1 then (some ((0 : Int32), z18)) else (fX4_fits_27 N z18))))
set_option maxHeartbeats 4000000 in
set_option maxRecDepth 100000 in
theorem bX4_fits_0 (hst : zSt B ids) (F : zFx p m c cX4_fits 4 s args RX4 D cy B ids A) (hA : ∀ q : Nat, s.heap.size ≤ q → A q) {r : Int32} {z' : St} (E : zEnd p l e rmX4_fits s m args below meth c cX4_fits D cy B ids A Q (some (.int r)) z' .ireturn (r = 0 ∨ r = 1)) {N : Nat}  (x0 : Nat) (x1 : Int32) (x2 : Int32) (hx0 : (4, x0) ∈ ids) {z : St} {H : Heap} {locs : List Loc} {ls : Array Slot} (hr : zRep D cy B ids A s.heap z H locs) (hl : lv_has ls 4 [(0, .ref (B 4 x0)), (1, .int x1), (2, .int x2)]) (h : fX4_fits N x0 x1 x2 z = some (r, z')) : W p l e rmX4_fits s m args below meth c H locs 0 0 Q (F0 m 0 ls []) := by
  unfold fX4_fits at h
  refine lv_iload_n F.1 F.2.1 dX4_fits_0 rfl (lv_at hl 1 rfl) ?_
  refine lv_aload_n F.1 F.2.1 dX4_fits_1 rfl (lv_at hl 0 rfl) ?_
  refine gf4_26 F hx0 hr dX4_fits_2 ?_
  refine lv_isub F.1 F.2.1 dX4_fits_5 ?_
  refine lv_topi (fun v1 ev1 => ?_)
  replace h := zl_sub ev1 h
  refine lv_istore_n (lv' := [(3, .int v1), (0, .ref (B 4 x0)), (1, .int x1), (2, .int x2)]) F.1 F.2.1 dX4_fits_6 rfl hl (by decide) rfl (fun ls hl => ?_)
  refine lv_iload_n F.1 F.2.1 dX4_fits_7 rfl (lv_at hl 3 rfl) ?_
  refine lv_if_ne (tgt := 33) F.1 F.2.1 dX4_fits_8 (by decide) (fun c2 => ?_) (fun c2 => ?_)
  · replace h := zi_t c2 h
    refine lv_iload_n F.1 F.2.1 dX4_fits_33 rfl (lv_at hl 0 rfl) ?_
    refine lv_if_lt (tgt := 51) F.1 F.2.1 dX4_fits_34 (by decide) (fun c3 => ?_) (fun c3 => ?_)
    · replace h := zi_t c3 h
      refine lv_aload_n F.1 F.2.1 dX4_fits_51 rfl (lv_at hl 1 rfl) ?_
      replace h := zc_some h
      obtain ⟨r4, z5, hc6, h⟩ := h
      refine zr_calli (zrun_V (As := []) (rest := []) zq_1374 zq_1376 zs_X4_room zq_1377 zq_15 hdX4_room (by decide) (T := TX4) (N := 8) rfl (okX4_room l D cy B ids hst N x0 hx0 hr.2.2 hc6) F hr hx0 hl.1 rfl (by decide) dX4_fits_52 rfl rfl hroX4_fits_X4_room ⟨Nat.zero_le _, Nat.zero_le _⟩) F hA hr (fun H locs hw7 hr => ?_)
      clear hc6
      refine lv_if_le (tgt := 68) F.1 F.2.1 dX4_fits_55 (by decide) (fun c8 => ?_) (fun c8 => ?_)
      · replace h := zi_t c8 h
        refine lv_iconst (v := (0 : Int32)) F.1 F.2.1 dX4_fits_68 (by decide) ?_
        obtain ⟨rfl, rfl⟩ := zret h
        exact E _ _ _ _ dX4_fits_69 (by decide) hr
      · replace h := zi_f c8 h
        refine lv_iload_n F.1 F.2.1 dX4_fits_58 rfl (lv_at hl 0 rfl) ?_
        refine lv_iload_n F.1 F.2.1 dX4_fits_59 rfl (lv_at hl 3 rfl) ?_
        refine lv_iadd F.1 F.2.1 dX4_fits_60 ?_
        refine lv_if_le (tgt := 68) F.1 F.2.1 dX4_fits_61 (by decide) (fun c9 => ?_) (fun c9 => ?_)
        · replace h := zi_t c9 h
          refine lv_iconst (v := (0 : Int32)) F.1 F.2.1 dX4_fits_68 (by decide) ?_
          obtain ⟨rfl, rfl⟩ := zret h
          exact E _ _ _ _ dX4_fits_69 (by decide) hr
        · replace h := zi_f c9 h
          refine lv_iconst (v := (1 : Int32)) F.1 F.2.1 dX4_fits_64 (by decide) ?_
          refine lv_goto (tgt := 69) F.1 F.2.1 dX4_fits_65 (by decide) ?_
          obtain ⟨rfl, rfl⟩ := zret h
          exact E _ _ _ _ dX4_fits_69 (by decide) hr
    · replace h := zi_f c3 h
      refine lv_iload_n F.1 F.2.1 dX4_fits_37 rfl (lv_at hl 0 rfl) ?_
      refine lv_aload_n F.1 F.2.1 dX4_fits_38 rfl (lv_at hl 1 rfl) ?_
      replace h := zc_some h
      obtain ⟨r10, z11, hc12, h⟩ := h
      refine zr_calli (zrun_V (As := []) (rest := [.int v1]) zq_1374 zq_1376 zs_X4_room zq_1377 zq_15 hdX4_room (by decide) (T := TX4) (N := 8) rfl (okX4_room l D cy B ids hst N x0 hx0 hr.2.2 hc12) F hr hx0 hl.1 rfl (Nat.le_of_ble_eq_true rfl) dX4_fits_39 rfl rfl hroX4_fits_X4_room ⟨Nat.zero_le _, Nat.zero_le _⟩) F hA hr (fun H locs hw13 hr => ?_)
      clear hc12
      refine lv_icmp_ge (tgt := 49) F.1 F.2.1 dX4_fits_42 (by decide) (fun c14 => ?_) (fun c14 => ?_)
      · replace h := zi_t c14 h
        refine lv_iconst (v := (0 : Int32)) F.1 F.2.1 dX4_fits_49 (by decide) ?_
        obtain ⟨rfl, rfl⟩ := zret h
        exact E _ _ _ _ dX4_fits_50 (by decide) hr
      · replace h := zi_f c14 h
        refine lv_iconst (v := (1 : Int32)) F.1 F.2.1 dX4_fits_45 (by decide) ?_
        refine lv_goto (tgt := 50) F.1 F.2.1 dX4_fits_46 (by decide) ?_
        obtain ⟨rfl, rfl⟩ := zret h
        exact E _ _ _ _ dX4_fits_50 (by decide) hr
  · replace h := zi_f (fun q => q c2) h
    refine lv_iload_n F.1 F.2.1 dX4_fits_11 rfl (lv_at hl 0 rfl) ?_
    refine lv_if_eq (tgt := 27) F.1 F.2.1 dX4_fits_12 (by decide) (fun c15 => ?_) (fun c15 => ?_)
    · replace h := zi_t c15 h
      exact bX4_fits_27 hst F hA E   hr (lv_sub hl [] rfl) h
    · replace h := zi_f c15 h
      refine lv_iload_n F.1 F.2.1 dX4_fits_15 rfl (lv_at hl 0 rfl) ?_
      refine lv_if_le (tgt := 31) F.1 F.2.1 dX4_fits_16 (by decide) (fun c16 => ?_) (fun c16 => ?_)
      · replace h := zi_t c16 h
        refine lv_iconst (v := (0 : Int32)) F.1 F.2.1 dX4_fits_31 (by decide) ?_
        obtain ⟨rfl, rfl⟩ := zret h
        exact E _ _ _ _ dX4_fits_32 (by decide) hr
      · replace h := zi_f c16 h
        refine lv_iload_n F.1 F.2.1 dX4_fits_19 rfl (lv_at hl 0 rfl) ?_
        refine lv_aload_n F.1 F.2.1 dX4_fits_20 rfl (lv_at hl 1 rfl) ?_
        replace h := zc_some h
        obtain ⟨r17, z18, hc19, h⟩ := h
        refine zr_calli (zrun_V (As := []) (rest := [.int v1]) zq_1374 zq_1376 zs_X4_room zq_1377 zq_15 hdX4_room (by decide) (T := TX4) (N := 8) rfl (okX4_room l D cy B ids hst N x0 hx0 hr.2.2 hc19) F hr hx0 hl.1 rfl (Nat.le_of_ble_eq_true rfl) dX4_fits_21 rfl rfl hroX4_fits_X4_room ⟨Nat.zero_le _, Nat.zero_le _⟩) F hA hr (fun H locs hw20 hr => ?_)
        clear hc19
        refine lv_icmp_ge (tgt := 31) F.1 F.2.1 dX4_fits_24 (by decide) (fun c21 => ?_) (fun c21 => ?_)
        · replace h := zi_t c21 h
          refine lv_iconst (v := (0 : Int32)) F.1 F.2.1 dX4_fits_31 (by decide) ?_
          obtain ⟨rfl, rfl⟩ := zret h
          exact E _ _ _ _ dX4_fits_32 (by decide) hr
        · replace h := zi_f c21 h
          exact bX4_fits_27 hst F hA E   hr (lv_sub hl [] rfl) h
end SX4_fits
set_option maxRecDepth 100000 in
theorem okX4_fits (l : Launch) (D : va_G) (cy : Nat → ClassId) (B : Nat → Nat → Nat) (ids : List (Nat × Nat)) (hst : zSt B ids) (N : Nat) (x0 : Nat) (hx0 : (4, x0) ∈ ids) (x1 : Int32) (x2 : Int32) {z : St} {r : Int32} {z' : St} (hW : zWf ids z) (h : fX4_fits N x0 x1 x2 z = some (r, z')) : zM l yX4_fits (zws yX4_fits cX4_fits 4 (some .boolean)) rmX4_fits D cy B ids [.ref (B 4 x0), .int x1, .int x2] (some (.int r)) (r = 0 ∨ r = 1) z z' :=
  zM_of hst hW (by decide +kernel) (Nat.le_of_ble_eq_true rfl) (fun p e s m args below meth c A ls F hA hret hlocks hr hl => bX4_fits_0 hst F hA (zEnd_z F hret hlocks) x0 x1 x2 hx0 hr hl h)
abbrev rmX3_goesOn : Room := { frames := 3, cells := 0, slots := 0, locals := 62 }
theorem hdX3_goesOn : yX3_goesOn.cls ≠ "java/lang/invoke/MethodHandle" ∧ yX3_goesOn.cls ≠ "java/lang/invoke/VarHandle" ∧ (parseMethodDescriptor yX3_goesOn.desc).map (fun d => d.parameters.length) = some 2 := by decide +kernel
theorem hroX3_goesOn_X11_isBefore : rmX11_isBefore.frames + 1 ≤ rmX3_goesOn.frames ∧ 8 + (2 + 11) + rmX11_isBefore.locals ≤ rmX3_goesOn.locals := by decide
theorem hroX3_goesOn_X3_resets : rmX3_resets.frames + 1 ≤ rmX3_goesOn.frames ∧ 8 + (2 + 11) + rmX3_resets.locals ≤ rmX3_goesOn.locals := by decide
theorem hroX3_goesOn_X3_takeReset : rmX3_takeReset.frames + 1 ≤ rmX3_goesOn.frames ∧ 8 + (1 + 11) + rmX3_takeReset.locals ≤ rmX3_goesOn.locals := by decide
theorem hroX3_goesOn_X4_fits : rmX4_fits.frames + 1 ≤ rmX3_goesOn.frames ∧ 8 + (4 + 11) + rmX4_fits.locals ≤ rmX3_goesOn.locals := by decide
theorem hroX3_goesOn_X7_has : rmX7_has.frames + 1 ≤ rmX3_goesOn.frames ∧ 8 + (2 + 11) + rmX7_has.locals ≤ rmX3_goesOn.locals := by decide
theorem hroX3_goesOn_X7_size : rmX7_size.frames + 1 ≤ rmX3_goesOn.frames ∧ 8 + (2 + 11) + rmX7_size.locals ≤ rmX3_goesOn.locals := by decide
section SX3_goesOn
variable {p : Program} {l : Launch} {e : Env} {s : State} {m : MethodId} {args : Array Value} {below : List Frame} {meth : Method} {c : Code} {Q : State → Prop} {D : va_G} {cy : Nat → ClassId} {B : Nat → Nat → Nat} {ids : List (Nat × Nat)} {A : Nat → Prop}
def fX3_goesOn_31 (N : Nat)  (x0 : Nat) (x1 : Nat) (x2 : Int32) (z : St) : Option (Int32 × St) := if ¬ (zgI z 3 0 x0) = (10 : Int32) then (some ((0 : Int32), z)) else (zc (fX7_has N x1 (2 : Int32) z) fun r2 z3 => if r2 = 0 then (some ((0 : Int32), z3)) else (zl (zsI z3 3 4 x0 (x2 + (2000 : Int32))) fun z7 => some ((0 : Int32), z7)))
set_option maxHeartbeats 4000000 in
set_option maxRecDepth 100000 in
theorem bX3_goesOn_31 (hst : zSt B ids) (F : zFx p m c cX3_goesOn 3 s args RX3 D cy B ids A) (hA : ∀ q : Nat, s.heap.size ≤ q → A q) {r : Int32} {z' : St} (E : zEnd p l e rmX3_goesOn s m args below meth c cX3_goesOn D cy B ids A Q (some (.int r)) z' .ireturn (r = 0 ∨ r = 1)) {N : Nat}  (x0 : Nat) (x1 : Nat) (x2 : Int32) (hx0 : (3, x0) ∈ ids) (hx1 : (7, x1) ∈ ids) {z : St} {H : Heap} {locs : List Loc} {ls : Array Slot} (hr : zRep D cy B ids A s.heap z H locs) (hl : lv_has ls 3 [(0, .ref (B 3 x0)), (1, .ref (B 7 x1)), (2, .int x2)]) (h : fX3_goesOn_31 N x0 x1 x2 z = some (r, z')) : W p l e rmX3_goesOn s m args below meth c H locs 0 0 Q (F0 m 31 ls []) := by
  unfold fX3_goesOn_31 at h
  refine lv_aload_n F.1 F.2.1 dX3_goesOn_31 rfl (lv_at hl 0 rfl) ?_
  refine gf3_32 F hx0 hr dX3_goesOn_32 ?_
  refine lv_bipush (v := (10 : Int32)) F.1 F.2.1 dX3_goesOn_35 (by decide) ?_
  refine lv_icmp_ne (tgt := 57) F.1 F.2.1 dX3_goesOn_37 (by decide) (fun c1 => ?_) (fun c1 => ?_)
  · replace h := zi_t c1 h
    refine lv_iconst (v := (0 : Int32)) F.1 F.2.1 dX3_goesOn_57 (by decide) ?_
    obtain ⟨rfl, rfl⟩ := zret h
    exact E _ _ _ _ dX3_goesOn_58 (by decide) hr
  · replace h := zi_f (fun q => q c1) h
    refine lv_aload_n F.1 F.2.1 dX3_goesOn_40 rfl (lv_at hl 1 rfl) ?_
    refine lv_iconst (v := (2 : Int32)) F.1 F.2.1 dX3_goesOn_41 (by decide) ?_
    replace h := zc_some h
    obtain ⟨r2, z3, hc4, h⟩ := h
    refine zr_calli (zrun_VN (As := [.int (2 : Int32)]) (rest := []) zn_1317 zq_1276 zs_X7_has zq_1277 zq_2 hdX7_has (by decide) (T := TX7) (N := 20) rfl (okX7_has l D cy B ids hst N x1 hx1 (2 : Int32)  hr.2.2 hc4) F hr hx1 hl.1 rfl (by decide) dX3_goesOn_42 rfl rfl hroX3_goesOn_X7_has ⟨Nat.zero_le _, Nat.zero_le _⟩) F hA hr (fun H locs hw5 hr => ?_)
    clear hc4
    refine lv_if_eq (tgt := 57) F.1 F.2.1 dX3_goesOn_45 (by decide) (fun c6 => ?_) (fun c6 => ?_)
    · replace h := zi_t c6 h
      refine lv_iconst (v := (0 : Int32)) F.1 F.2.1 dX3_goesOn_57 (by decide) ?_
      obtain ⟨rfl, rfl⟩ := zret h
      exact E _ _ _ _ dX3_goesOn_58 (by decide) hr
    · replace h := zi_f c6 h
      refine lv_aload_n F.1 F.2.1 dX3_goesOn_48 rfl (lv_at hl 0 rfl) ?_
      refine lv_iload_n F.1 F.2.1 dX3_goesOn_49 rfl (lv_at hl 2 rfl) ?_
      refine lv_sipush (v := (2000 : Int32)) F.1 F.2.1 dX3_goesOn_50 (by decide) ?_
      refine lv_iadd F.1 F.2.1 dX3_goesOn_53 ?_
      refine pf3_56 F hx0 hr dX3_goesOn_54 (x2 + (2000 : Int32)) (fun H locs z7 ez7 hr => ?_)
      replace h := zl_sub ez7 h
      clear ez7
      refine lv_iconst (v := (0 : Int32)) F.1 F.2.1 dX3_goesOn_57 (by decide) ?_
      obtain ⟨rfl, rfl⟩ := zret h
      exact E _ _ _ _ dX3_goesOn_58 (by decide) hr
def fX3_goesOn_166 (N : Nat)  (x0 : Nat) (s0 : Nat) (s1 : Int32) (z : St) : Option (Int32 × St) := zl (zsI z 3 0 s0 s1) fun z1 => zl (zsI z1 3 9 x0 (0 : Int32)) fun z2 => some ((1 : Int32), z2)
set_option maxHeartbeats 4000000 in
set_option maxRecDepth 100000 in
theorem bX3_goesOn_166 (hst : zSt B ids) (F : zFx p m c cX3_goesOn 3 s args RX3 D cy B ids A) (hA : ∀ q : Nat, s.heap.size ≤ q → A q) {r : Int32} {z' : St} (E : zEnd p l e rmX3_goesOn s m args below meth c cX3_goesOn D cy B ids A Q (some (.int r)) z' .ireturn (r = 0 ∨ r = 1)) {N : Nat}  (x0 : Nat) (s0 : Nat) (s1 : Int32) (hx0 : (3, x0) ∈ ids) (hs0 : (3, s0) ∈ ids) {z : St} {H : Heap} {locs : List Loc} {ls : Array Slot} (hr : zRep D cy B ids A s.heap z H locs) (hl : lv_has ls 3 [(0, .ref (B 3 x0))]) (h : fX3_goesOn_166 N x0 s0 s1 z = some (r, z')) : W p l e rmX3_goesOn s m args below meth c H locs 0 0 Q (F0 m 166 ls [.int s1, .ref (B 3 s0)]) := by
  unfold fX3_goesOn_166 at h
  refine pf3_32 F hs0 hr dX3_goesOn_166 s1 (fun H locs z1 ez1 hr => ?_)
  replace h := zl_sub ez1 h
  clear ez1
  refine lv_aload_n F.1 F.2.1 dX3_goesOn_169 rfl (lv_at hl 0 rfl) ?_
  refine lv_iconst (v := (0 : Int32)) F.1 F.2.1 dX3_goesOn_170 (by decide) ?_
  refine pf3_59 F hx0 hr dX3_goesOn_171 (0 : Int32) (by decide) (fun H locs z2 ez2 hr => ?_)
  replace h := zl_sub ez2 h
  clear ez2
  refine lv_goto (tgt := 201) F.1 F.2.1 dX3_goesOn_174 (by decide) ?_
  refine lv_iconst (v := (1 : Int32)) F.1 F.2.1 dX3_goesOn_201 (by decide) ?_
  obtain ⟨rfl, rfl⟩ := zret h
  exact E _ _ _ _ dX3_goesOn_202 (by decide) hr
def fX3_goesOn (N : Nat)  (x0 : Nat) (x1 : Nat) (x2 : Int32) (z : St) : Option (Int32 × St) := zl (zgR z 3 17 x0) fun y1 => zc (fX7_size N x1 z) fun r2 z3 => zd y1 fun a6 => zc (fX4_fits N a6 (zgI z 7 16 x1) r2 z3) fun r7 z8 => if ¬ r7 = 0 then (zc (fX7_has N x1 (4 : Int32) z8) fun r12 z13 => if r12 = 0 then (zc (fX7_has N x1 (1 : Int32) z13) fun r17 z18 => if r17 = 0 then (zc (fX7_has N x1 (8 : Int32) z18) fun r22 z23 => if ¬ r22 = 0 then (if ¬ (zgI z23 3 0 x0) = (3 : Int32) then (zl (zgR z23 3 16 x0) fun y28 => zd y28 fun a29 => zc (fX11_isBefore N (zgI z23 6 6 a29) (zgI z23 7 17 x1) z23) fun r30 z31 => if r30 = 0 then (some ((1 : Int32), z31)) else (zl (zsI z31 3 13 x0 (1 : Int32)) fun z35 => some ((0 : Int32), z35))) else (zl (zgR z23 3 16 x0) fun y36 => zd y36 fun a37 => if (zgI z23 7 17 x1) = (zgI z23 6 6 a37) then (zl (zgR z23 3 16 x0) fun y39 => zd y39 fun a40 => if (zgI z23 6 8 a40) = 0 then (fX3_goesOn_166 N x0 x0 (4 : Int32) z23) else (fX3_goesOn_166 N x0 x0 (5 : Int32) z23)) else (zc (fX3_resets N x0 x1 z23) fun _ z43 => some ((0 : Int32), z43)))) else (some ((0 : Int32), z23))) else (zl (zsI z18 3 13 x0 (1 : Int32)) fun z46 => some ((0 : Int32), z46))) else (zl (zgR z13 3 17 x0) fun y47 => zd y47 fun a48 => if ¬ (zgI z13 7 16 x1) = (zgI z13 4 4 a48) then (zl (zsI z13 3 13 x0 (1 : Int32)) fun z50 => some ((0 : Int32), z50)) else (zc (fX3_takeReset N x0 z13) fun _ z52 => some ((0 : Int32), z52)))) else (zc (fX7_has N x1 (4 : Int32) z8) fun r55 z56 => if ¬ r55 = 0 then (fX3_goesOn_31 N x0 x1 x2 z56) else (zl (zsI z56 3 13 x0 (1 : Int32)) fun z60 => fX3_goesOn_31 N x0 x1 x2 z60))
set_option maxHeartbeats 4000000 in
set_option maxRecDepth 100000 in
theorem bX3_goesOn_0 (hst : zSt B ids) (F : zFx p m c cX3_goesOn 3 s args RX3 D cy B ids A) (hA : ∀ q : Nat, s.heap.size ≤ q → A q) {r : Int32} {z' : St} (E : zEnd p l e rmX3_goesOn s m args below meth c cX3_goesOn D cy B ids A Q (some (.int r)) z' .ireturn (r = 0 ∨ r = 1)) {N : Nat}  (x0 : Nat) (x1 : Nat) (x2 : Int32) (hx0 : (3, x0) ∈ ids) (hx1 : (7, x1) ∈ ids) {z : St} {H : Heap} {locs : List Loc} {ls : Array Slot} (hr : zRep D cy B ids A s.heap z H locs) (hl : lv_has ls 3 [(0, .ref (B 3 x0)), (1, .ref (B 7 x1)), (2, .int x2)]) (h : fX3_goesOn N x0 x1 x2 z = some (r, z')) : W p l e rmX3_goesOn s m args below meth c H locs 0 0 Q (F0 m 0 ls []) := by
  unfold fX3_goesOn at h
  refine lv_aload_n F.1 F.2.1 dX3_goesOn_0 rfl (lv_at hl 0 rfl) ?_
  refine gf3_21 F hx0 hr dX3_goesOn_1 (fun y1 ey1 => ?_)
  replace h := zl_sub ey1 h
  have hy1 := zal_g hr hx0 (j := 17) rfl ey1
  clear ey1
  refine lv_aload_n F.1 F.2.1 dX3_goesOn_4 rfl (lv_at hl 1 rfl) ?_
  refine gf3_160 F hx1 hr dX3_goesOn_5 ?_
  refine lv_aload_n F.1 F.2.1 dX3_goesOn_8 rfl (lv_at hl 1 rfl) ?_
  replace h := zc_some h
  obtain ⟨r2, z3, hc4, h⟩ := h
  refine zr_calli (zrun_VN (As := []) (rest := [.int (zgI z 7 16 x1), va_rf (Option.map (B 4) y1)]) zn_1369 zq_1293 zs_X7_size zq_1294 zq_2 hdX7_size (by decide) (T := TX7) (N := 20) rfl (okX7_size l D cy B ids hst N x1 hx1 hr.2.2 hc4) F hr hx1 hl.1 rfl (by simp only [List.map, zrf_cat]; exact Nat.le_of_ble_eq_true rfl) dX3_goesOn_9 rfl rfl hroX3_goesOn_X7_size ⟨Nat.zero_le _, Nat.zero_le _⟩) F hA hr (fun H locs hw5 hr => ?_)
  clear hc4
  replace h := zd_some h
  obtain ⟨a6, rfl, h⟩ := h
  replace h := zc_some h
  obtain ⟨r7, z8, hc9, h⟩ := h
  refine zr_calli (zrun_VN (As := [.int (zgI z 7 16 x1), .int r2]) (rest := []) zn_1370 zq_1372 zs_X4_fits zq_1373 zq_15 hdX4_fits (by decide) (T := TX4) (N := 8) rfl (okX4_fits l D cy B ids hst N a6 (hy1 _ rfl) (zgI z 7 16 x1)  r2  hr.2.2 hc9) F hr (hy1 _ rfl) hl.1 rfl (by decide) dX3_goesOn_12 rfl rfl hroX3_goesOn_X4_fits ⟨Nat.zero_le _, Nat.zero_le _⟩) F hA hr (fun H locs hw10 hr => ?_)
  clear hc9
  refine lv_if_ne (tgt := 59) F.1 F.2.1 dX3_goesOn_15 (by decide) (fun c11 => ?_) (fun c11 => ?_)
  · replace h := zi_t c11 h
    refine lv_aload_n F.1 F.2.1 dX3_goesOn_59 rfl (lv_at hl 1 rfl) ?_
    refine lv_iconst (v := (4 : Int32)) F.1 F.2.1 dX3_goesOn_60 (by decide) ?_
    replace h := zc_some h
    obtain ⟨r12, z13, hc14, h⟩ := h
    refine zr_calli (zrun_VN (As := [.int (4 : Int32)]) (rest := []) zn_1317 zq_1276 zs_X7_has zq_1277 zq_2 hdX7_has (by decide) (T := TX7) (N := 20) rfl (okX7_has l D cy B ids hst N x1 hx1 (4 : Int32)  hr.2.2 hc14) F hr hx1 hl.1 rfl (by decide) dX3_goesOn_61 rfl rfl hroX3_goesOn_X7_has ⟨Nat.zero_le _, Nat.zero_le _⟩) F hA hr (fun H locs hw15 hr => ?_)
    clear hc14
    refine lv_if_eq (tgt := 95) F.1 F.2.1 dX3_goesOn_64 (by decide) (fun c16 => ?_) (fun c16 => ?_)
    · replace h := zi_t c16 h
      refine lv_aload_n F.1 F.2.1 dX3_goesOn_95 rfl (lv_at hl 1 rfl) ?_
      refine lv_iconst (v := (1 : Int32)) F.1 F.2.1 dX3_goesOn_96 (by decide) ?_
      replace h := zc_some h
      obtain ⟨r17, z18, hc19, h⟩ := h
      refine zr_calli (zrun_VN (As := [.int (1 : Int32)]) (rest := []) zn_1317 zq_1276 zs_X7_has zq_1277 zq_2 hdX7_has (by decide) (T := TX7) (N := 20) rfl (okX7_has l D cy B ids hst N x1 hx1 (1 : Int32)  hr.2.2 hc19) F hr hx1 hl.1 rfl (by decide) dX3_goesOn_97 rfl rfl hroX3_goesOn_X7_has ⟨Nat.zero_le _, Nat.zero_le _⟩) F hA hr (fun H locs hw20 hr => ?_)
      clear hc19
      refine lv_if_eq (tgt := 110) F.1 F.2.1 dX3_goesOn_100 (by decide) (fun c21 => ?_) (fun c21 => ?_)
      · replace h := zi_t c21 h
        refine lv_aload_n F.1 F.2.1 dX3_goesOn_110 rfl (lv_at hl 1 rfl) ?_
        refine lv_bipush (v := (8 : Int32)) F.1 F.2.1 dX3_goesOn_111 (by decide) ?_
        replace h := zc_some h
        obtain ⟨r22, z23, hc24, h⟩ := h
        refine zr_calli (zrun_VN (As := [.int (8 : Int32)]) (rest := []) zn_1317 zq_1276 zs_X7_has zq_1277 zq_2 hdX7_has (by decide) (T := TX7) (N := 20) rfl (okX7_has l D cy B ids hst N x1 hx1 (8 : Int32)  hr.2.2 hc24) F hr hx1 hl.1 rfl (by decide) dX3_goesOn_113 rfl rfl hroX3_goesOn_X7_has ⟨Nat.zero_le _, Nat.zero_le _⟩) F hA hr (fun H locs hw25 hr => ?_)
        clear hc24
        refine lv_if_ne (tgt := 121) F.1 F.2.1 dX3_goesOn_116 (by decide) (fun c26 => ?_) (fun c26 => ?_)
        · replace h := zi_t c26 h
          refine lv_aload_n F.1 F.2.1 dX3_goesOn_121 rfl (lv_at hl 0 rfl) ?_
          refine gf3_32 F hx0 hr dX3_goesOn_122 ?_
          refine lv_iconst (v := (3 : Int32)) F.1 F.2.1 dX3_goesOn_125 (by decide) ?_
          refine lv_icmp_ne (tgt := 177) F.1 F.2.1 dX3_goesOn_126 (by decide) (fun c27 => ?_) (fun c27 => ?_)
          · replace h := zi_t c27 h
            refine lv_aload_n F.1 F.2.1 dX3_goesOn_177 rfl (lv_at hl 0 rfl) ?_
            refine gf3_12 F hx0 hr dX3_goesOn_178 (fun y28 ey28 => ?_)
            replace h := zl_sub ey28 h
            have hy28 := zal_g hr hx0 (j := 16) rfl ey28
            clear ey28
            replace h := zd_some h
            obtain ⟨a29, rfl, h⟩ := h
            refine gf3_86 F (hy28 _ rfl) hr dX3_goesOn_181 ?_
            refine lv_aload_n F.1 F.2.1 dX3_goesOn_184 rfl (lv_at hl 1 rfl) ?_
            refine gf3_161 F hx1 hr dX3_goesOn_185 ?_
            replace h := zc_some h
            obtain ⟨r30, z31, hc32, h⟩ := h
            refine zr_calli (zrun_SN (As := [.int (zgI z23 6 6 a29), .int (zgI z23 7 17 x1)]) (rest := []) zn_1382 zq_1354 zq_1355 zq_1 hdX11_isBefore (okX11_isBefore l D cy B ids hst N (zgI z23 6 6 a29)  (zgI z23 7 17 x1)  hr.2.2 hc32) F hr hl.1 rfl (by decide) dX3_goesOn_188 rfl rfl hroX3_goesOn_X11_isBefore ⟨Nat.zero_le _, Nat.zero_le _⟩) F hA hr (fun H locs hw33 hr => ?_)
            clear hc32
            refine lv_if_eq (tgt := 201) F.1 F.2.1 dX3_goesOn_191 (by decide) (fun c34 => ?_) (fun c34 => ?_)
            · replace h := zi_t c34 h
              refine lv_iconst (v := (1 : Int32)) F.1 F.2.1 dX3_goesOn_201 (by decide) ?_
              obtain ⟨rfl, rfl⟩ := zret h
              exact E _ _ _ _ dX3_goesOn_202 (by decide) hr
            · replace h := zi_f c34 h
              refine lv_aload_n F.1 F.2.1 dX3_goesOn_194 rfl (lv_at hl 0 rfl) ?_
              refine lv_iconst (v := (1 : Int32)) F.1 F.2.1 dX3_goesOn_195 (by decide) ?_
              refine pf3_71 F hx0 hr dX3_goesOn_196 (1 : Int32) (by decide) (fun H locs z35 ez35 hr => ?_)
              replace h := zl_sub ez35 h
              clear ez35
              refine lv_iconst (v := (0 : Int32)) F.1 F.2.1 dX3_goesOn_199 (by decide) ?_
              obtain ⟨rfl, rfl⟩ := zret h
              exact E _ _ _ _ dX3_goesOn_200 (by decide) hr
          · replace h := zi_f (fun q => q c27) h
            refine lv_aload_n F.1 F.2.1 dX3_goesOn_129 rfl (lv_at hl 1 rfl) ?_
            refine gf3_161 F hx1 hr dX3_goesOn_130 ?_
            refine lv_aload_n F.1 F.2.1 dX3_goesOn_133 rfl (lv_at hl 0 rfl) ?_
            refine gf3_12 F hx0 hr dX3_goesOn_134 (fun y36 ey36 => ?_)
            replace h := zl_sub ey36 h
            have hy36 := zal_g hr hx0 (j := 16) rfl ey36
            clear ey36
            replace h := zd_some h
            obtain ⟨a37, rfl, h⟩ := h
            refine gf3_86 F (hy36 _ rfl) hr dX3_goesOn_137 ?_
            refine lv_icmp_eq (tgt := 150) F.1 F.2.1 dX3_goesOn_140 (by decide) (fun c38 => ?_) (fun c38 => ?_)
            · replace h := zi_t c38 h
              refine lv_aload_n F.1 F.2.1 dX3_goesOn_150 rfl (lv_at hl 0 rfl) ?_
              refine lv_aload_n F.1 F.2.1 dX3_goesOn_151 rfl (lv_at hl 0 rfl) ?_
              refine gf3_12 F hx0 hr dX3_goesOn_152 (fun y39 ey39 => ?_)
              replace h := zl_sub ey39 h
              have hy39 := zal_g hr hx0 (j := 16) rfl ey39
              clear ey39
              replace h := zd_some h
              obtain ⟨a40, rfl, h⟩ := h
              refine gf3_95 F (hy39 _ rfl) hr dX3_goesOn_155 ?_
              refine lv_if_eq (tgt := 165) F.1 F.2.1 dX3_goesOn_158 (by decide) (fun c41 => ?_) (fun c41 => ?_)
              · replace h := zi_t c41 h
                refine lv_iconst (v := (4 : Int32)) F.1 F.2.1 dX3_goesOn_165 (by decide) ?_
                exact bX3_goesOn_166 hst F hA E  x0 x0 (4 : Int32) hx0 hx0 hr (lv_sub hl [0] rfl) h
              · replace h := zi_f c41 h
                refine lv_iconst (v := (5 : Int32)) F.1 F.2.1 dX3_goesOn_161 (by decide) ?_
                refine lv_goto (tgt := 166) F.1 F.2.1 dX3_goesOn_162 (by decide) ?_
                exact bX3_goesOn_166 hst F hA E  x0 x0 (5 : Int32) hx0 hx0 hr (lv_sub hl [0] rfl) h
            · replace h := zi_f c38 h
              refine lv_aload_n F.1 F.2.1 dX3_goesOn_143 rfl (lv_at hl 0 rfl) ?_
              refine lv_aload_n F.1 F.2.1 dX3_goesOn_144 rfl (lv_at hl 1 rfl) ?_
              replace h := zc_some h
              obtain ⟨r42, z43, hc44, h⟩ := h
              refine zr_callv (zrun_V (As := [.ref (B 7 x1)]) (rest := []) zq_1318 zq_1320 zs_X3_resets zq_1321 zq_13 hdX3_resets (by decide) (T := TX3) (N := 19) rfl (okX3_resets l D cy B ids hst N x0 hx0 x1 hx1 hr.2.2 hc44) F hr hx0 hl.1 rfl (by decide) dX3_goesOn_145 rfl rfl hroX3_goesOn_X3_resets ⟨Nat.zero_le _, Nat.zero_le _⟩) F hA hr (fun H locs hw45 hr => ?_)
              clear hc44
              refine lv_iconst (v := (0 : Int32)) F.1 F.2.1 dX3_goesOn_148 (by decide) ?_
              obtain ⟨rfl, rfl⟩ := zret h
              exact E _ _ _ _ dX3_goesOn_149 (by decide) hr
        · replace h := zi_f (fun q => q c26) h
          refine lv_iconst (v := (0 : Int32)) F.1 F.2.1 dX3_goesOn_119 (by decide) ?_
          obtain ⟨rfl, rfl⟩ := zret h
          exact E _ _ _ _ dX3_goesOn_120 (by decide) hr
      · replace h := zi_f c21 h
        refine lv_aload_n F.1 F.2.1 dX3_goesOn_103 rfl (lv_at hl 0 rfl) ?_
        refine lv_iconst (v := (1 : Int32)) F.1 F.2.1 dX3_goesOn_104 (by decide) ?_
        refine pf3_71 F hx0 hr dX3_goesOn_105 (1 : Int32) (by decide) (fun H locs z46 ez46 hr => ?_)
        replace h := zl_sub ez46 h
        clear ez46
        refine lv_iconst (v := (0 : Int32)) F.1 F.2.1 dX3_goesOn_108 (by decide) ?_
        obtain ⟨rfl, rfl⟩ := zret h
        exact E _ _ _ _ dX3_goesOn_109 (by decide) hr
    · replace h := zi_f c16 h
      refine lv_aload_n F.1 F.2.1 dX3_goesOn_67 rfl (lv_at hl 1 rfl) ?_
      refine gf3_160 F hx1 hr dX3_goesOn_68 ?_
      refine lv_aload_n F.1 F.2.1 dX3_goesOn_71 rfl (lv_at hl 0 rfl) ?_
      refine gf3_21 F hx0 hr dX3_goesOn_72 (fun y47 ey47 => ?_)
      replace h := zl_sub ey47 h
      have hy47 := zal_g hr hx0 (j := 17) rfl ey47
      clear ey47
      replace h := zd_some h
      obtain ⟨a48, rfl, h⟩ := h
      refine gf3_104 F (hy47 _ rfl) hr dX3_goesOn_75 ?_
      refine lv_icmp_ne (tgt := 88) F.1 F.2.1 dX3_goesOn_78 (by decide) (fun c49 => ?_) (fun c49 => ?_)
      · replace h := zi_t c49 h
        refine lv_aload_n F.1 F.2.1 dX3_goesOn_88 rfl (lv_at hl 0 rfl) ?_
        refine lv_iconst (v := (1 : Int32)) F.1 F.2.1 dX3_goesOn_89 (by decide) ?_
        refine pf3_71 F hx0 hr dX3_goesOn_90 (1 : Int32) (by decide) (fun H locs z50 ez50 hr => ?_)
        replace h := zl_sub ez50 h
        clear ez50
        refine lv_iconst (v := (0 : Int32)) F.1 F.2.1 dX3_goesOn_93 (by decide) ?_
        obtain ⟨rfl, rfl⟩ := zret h
        exact E _ _ _ _ dX3_goesOn_94 (by decide) hr
      · replace h := zi_f (fun q => q c49) h
        refine lv_aload_n F.1 F.2.1 dX3_goesOn_81 rfl (lv_at hl 0 rfl) ?_
        replace h := zc_some h
        obtain ⟨r51, z52, hc53, h⟩ := h
        refine zr_callv (zrun_V (As := []) (rest := []) zq_1378 zq_1380 zs_X3_takeReset zq_1381 zq_13 hdX3_takeReset (by decide) (T := TX3) (N := 19) rfl (okX3_takeReset l D cy B ids hst N x0 hx0 hr.2.2 hc53) F hr hx0 hl.1 rfl (by decide) dX3_goesOn_82 rfl rfl hroX3_goesOn_X3_takeReset ⟨Nat.zero_le _, Nat.zero_le _⟩) F hA hr (fun H locs hw54 hr => ?_)
        clear hc53
        refine lv_goto (tgt := 93) F.1 F.2.1 dX3_goesOn_85 (by decide) ?_
        refine lv_iconst (v := (0 : Int32)) F.1 F.2.1 dX3_goesOn_93 (by decide) ?_
        obtain ⟨rfl, rfl⟩ := zret h
        exact E _ _ _ _ dX3_goesOn_94 (by decide) hr
  · replace h := zi_f (fun q => q c11) h
    refine lv_aload_n F.1 F.2.1 dX3_goesOn_18 rfl (lv_at hl 1 rfl) ?_
    refine lv_iconst (v := (4 : Int32)) F.1 F.2.1 dX3_goesOn_19 (by decide) ?_
    replace h := zc_some h
    obtain ⟨r55, z56, hc57, h⟩ := h
    refine zr_calli (zrun_VN (As := [.int (4 : Int32)]) (rest := []) zn_1317 zq_1276 zs_X7_has zq_1277 zq_2 hdX7_has (by decide) (T := TX7) (N := 20) rfl (okX7_has l D cy B ids hst N x1 hx1 (4 : Int32)  hr.2.2 hc57) F hr hx1 hl.1 rfl (by decide) dX3_goesOn_20 rfl rfl hroX3_goesOn_X7_has ⟨Nat.zero_le _, Nat.zero_le _⟩) F hA hr (fun H locs hw58 hr => ?_)
    clear hc57
    refine lv_if_ne (tgt := 31) F.1 F.2.1 dX3_goesOn_23 (by decide) (fun c59 => ?_) (fun c59 => ?_)
    · replace h := zi_t c59 h
      exact bX3_goesOn_31 hst F hA E  x0 x1 x2 hx0 hx1 hr (lv_sub hl [0, 1, 2] rfl) h
    · replace h := zi_f (fun q => q c59) h
      refine lv_aload_n F.1 F.2.1 dX3_goesOn_26 rfl (lv_at hl 0 rfl) ?_
      refine lv_iconst (v := (1 : Int32)) F.1 F.2.1 dX3_goesOn_27 (by decide) ?_
      refine pf3_71 F hx0 hr dX3_goesOn_28 (1 : Int32) (by decide) (fun H locs z60 ez60 hr => ?_)
      replace h := zl_sub ez60 h
      clear ez60
      exact bX3_goesOn_31 hst F hA E  x0 x1 x2 hx0 hx1 hr (lv_sub hl [0, 1, 2] rfl) h
end SX3_goesOn
set_option maxRecDepth 100000 in
theorem okX3_goesOn (l : Launch) (D : va_G) (cy : Nat → ClassId) (B : Nat → Nat → Nat) (ids : List (Nat × Nat)) (hst : zSt B ids) (N : Nat) (x0 : Nat) (hx0 : (3, x0) ∈ ids) (x1 : Nat) (hx1 : (7, x1) ∈ ids) (x2 : Int32) {z : St} {r : Int32} {z' : St} (hW : zWf ids z) (h : fX3_goesOn N x0 x1 x2 z = some (r, z')) : zM l yX3_goesOn (zws yX3_goesOn cX3_goesOn 3 (some .boolean)) rmX3_goesOn D cy B ids [.ref (B 3 x0), .ref (B 7 x1), .int x2] (some (.int r)) (r = 0 ∨ r = 1) z z' :=
  zM_of hst hW (by decide +kernel) (Nat.le_of_ble_eq_true rfl) (fun p e s m args below meth c A ls F hA hret hlocks hr hl => bX3_goesOn_0 hst F hA (zEnd_z F hret hlocks) x0 x1 x2 hx0 hx1 hr hl h)
abbrev rmX3_peerLeft : Room := { frames := 2, cells := 0, slots := 0, locals := 42 }
theorem hdX3_peerLeft : yX3_peerLeft.cls ≠ "java/lang/invoke/MethodHandle" ∧ yX3_peerLeft.cls ≠ "java/lang/invoke/VarHandle" ∧ (parseMethodDescriptor yX3_peerLeft.desc).map (fun d => d.parameters.length) = some 1 := by decide +kernel
theorem hroX3_peerLeft_X3_becomeQuiet : rmX3_becomeQuiet.frames + 1 ≤ rmX3_peerLeft.frames ∧ 8 + (2 + 11) + rmX3_becomeQuiet.locals ≤ rmX3_peerLeft.locals := by decide
section SX3_peerLeft
variable {p : Program} {l : Launch} {e : Env} {s : State} {m : MethodId} {args : Array Value} {below : List Frame} {meth : Method} {c : Code} {Q : State → Prop} {D : va_G} {cy : Nat → ClassId} {B : Nat → Nat → Nat} {ids : List (Nat × Nat)} {A : Nat → Prop}
def fX3_peerLeft (N : Nat)  (x0 : Nat) (x1 : Int32) (z : St) : Option (Int32 × St) := if ¬ (zgI z 3 0 x0) = (4 : Int32) then (if ¬ (zgI z 3 0 x0) = (5 : Int32) then (zc (fX3_becomeQuiet N x0 x1 z) fun _ z4 => some (0, z4)) else (zl (zsI z 3 0 x0 (8 : Int32)) fun z7 => some (0, z7))) else (zl (zsI z 3 0 x0 (7 : Int32)) fun z8 => some (0, z8))
set_option maxHeartbeats 4000000 in
set_option maxRecDepth 100000 in
theorem bX3_peerLeft_0 (hst : zSt B ids) (F : zFx p m c cX3_peerLeft 2 s args RX3 D cy B ids A) (hA : ∀ q : Nat, s.heap.size ≤ q → A q) {r : Int32} {z' : St} (E : zEnd p l e rmX3_peerLeft s m args below meth c cX3_peerLeft D cy B ids A Q none z' .return_ True) {N : Nat}  (x0 : Nat) (x1 : Int32) (hx0 : (3, x0) ∈ ids) {z : St} {H : Heap} {locs : List Loc} {ls : Array Slot} (hr : zRep D cy B ids A s.heap z H locs) (hl : lv_has ls 2 [(0, .ref (B 3 x0)), (1, .int x1)]) (h : fX3_peerLeft N x0 x1 z = some (r, z')) : W p l e rmX3_peerLeft s m args below meth c H locs 0 0 Q (F0 m 0 ls []) := by
  unfold fX3_peerLeft at h
  refine lv_aload_n F.1 F.2.1 dX3_peerLeft_0 rfl (lv_at hl 0 rfl) ?_
  refine gf3_32 F hx0 hr dX3_peerLeft_1 ?_
  refine lv_iconst (v := (4 : Int32)) F.1 F.2.1 dX3_peerLeft_4 (by decide) ?_
  refine lv_icmp_ne (tgt := 17) F.1 F.2.1 dX3_peerLeft_5 (by decide) (fun c1 => ?_) (fun c1 => ?_)
  · replace h := zi_t c1 h
    refine lv_aload_n F.1 F.2.1 dX3_peerLeft_17 rfl (lv_at hl 0 rfl) ?_
    refine gf3_32 F hx0 hr dX3_peerLeft_18 ?_
    refine lv_iconst (v := (5 : Int32)) F.1 F.2.1 dX3_peerLeft_21 (by decide) ?_
    refine lv_icmp_ne (tgt := 34) F.1 F.2.1 dX3_peerLeft_22 (by decide) (fun c2 => ?_) (fun c2 => ?_)
    · replace h := zi_t c2 h
      refine lv_aload_n F.1 F.2.1 dX3_peerLeft_34 rfl (lv_at hl 0 rfl) ?_
      refine lv_iload_n F.1 F.2.1 dX3_peerLeft_35 rfl (lv_at hl 1 rfl) ?_
      replace h := zc_some h
      obtain ⟨r3, z4, hc5, h⟩ := h
      refine zr_callv (zrun_V (As := [.int x1]) (rest := []) zq_1391 zq_1393 zs_X3_becomeQuiet zq_1394 zq_13 hdX3_becomeQuiet (by decide) (T := TX3) (N := 19) rfl (okX3_becomeQuiet l D cy B ids hst N x0 hx0 x1  hr.2.2 hc5) F hr hx0 hl.1 rfl (by decide) dX3_peerLeft_36 rfl rfl hroX3_peerLeft_X3_becomeQuiet ⟨Nat.zero_le _, Nat.zero_le _⟩) F hA hr (fun H locs hw6 hr => ?_)
      clear hc5
      obtain ⟨rfl, rfl⟩ := zret h
      exact E _ _ _ _ dX3_peerLeft_39 trivial hr
    · replace h := zi_f (fun q => q c2) h
      refine lv_aload_n F.1 F.2.1 dX3_peerLeft_25 rfl (lv_at hl 0 rfl) ?_
      refine lv_bipush (v := (8 : Int32)) F.1 F.2.1 dX3_peerLeft_26 (by decide) ?_
      refine pf3_32 F hx0 hr dX3_peerLeft_28 (8 : Int32) (fun H locs z7 ez7 hr => ?_)
      replace h := zl_sub ez7 h
      clear ez7
      refine lv_goto (tgt := 39) F.1 F.2.1 dX3_peerLeft_31 (by decide) ?_
      obtain ⟨rfl, rfl⟩ := zret h
      exact E _ _ _ _ dX3_peerLeft_39 trivial hr
  · replace h := zi_f (fun q => q c1) h
    refine lv_aload_n F.1 F.2.1 dX3_peerLeft_8 rfl (lv_at hl 0 rfl) ?_
    refine lv_bipush (v := (7 : Int32)) F.1 F.2.1 dX3_peerLeft_9 (by decide) ?_
    refine pf3_32 F hx0 hr dX3_peerLeft_11 (7 : Int32) (fun H locs z8 ez8 hr => ?_)
    replace h := zl_sub ez8 h
    clear ez8
    refine lv_goto (tgt := 39) F.1 F.2.1 dX3_peerLeft_14 (by decide) ?_
    obtain ⟨rfl, rfl⟩ := zret h
    exact E _ _ _ _ dX3_peerLeft_39 trivial hr
end SX3_peerLeft
set_option maxRecDepth 100000 in
theorem okX3_peerLeft (l : Launch) (D : va_G) (cy : Nat → ClassId) (B : Nat → Nat → Nat) (ids : List (Nat × Nat)) (hst : zSt B ids) (N : Nat) (x0 : Nat) (hx0 : (3, x0) ∈ ids) (x1 : Int32) {z : St} {r : Int32} {z' : St} (hW : zWf ids z) (h : fX3_peerLeft N x0 x1 z = some (r, z')) : zM l yX3_peerLeft (zws yX3_peerLeft cX3_peerLeft 2 none) rmX3_peerLeft D cy B ids [.ref (B 3 x0), .int x1] none True z z' :=
  zM_of hst hW (by decide +kernel) (Nat.le_of_ble_eq_true rfl) (fun p e s m args below meth c A ls F hA hret hlocks hr hl => bX3_peerLeft_0 hst F hA (zEnd_v F hret hlocks) x0 x1 hx0 hr hl h)
abbrev rmX3_takeWindow : Room := { frames := 1, cells := 0, slots := 0, locals := 22 }
theorem hdX3_takeWindow : yX3_takeWindow.cls ≠ "java/lang/invoke/MethodHandle" ∧ yX3_takeWindow.cls ≠ "java/lang/invoke/VarHandle" ∧ (parseMethodDescriptor yX3_takeWindow.desc).map (fun d => d.parameters.length) = some 2 := by decide +kernel
theorem hroX3_takeWindow_X11_isBefore : rmX11_isBefore.frames + 1 ≤ rmX3_takeWindow.frames ∧ 8 + (2 + 11) + rmX11_isBefore.locals ≤ rmX3_takeWindow.locals := by decide
theorem hroX3_takeWindow_X6_hasUnthanked : rmX6_hasUnthanked.frames + 1 ≤ rmX3_takeWindow.frames ∧ 8 + (1 + 11) + rmX6_hasUnthanked.locals ≤ rmX3_takeWindow.locals := by decide
theorem hroX3_takeWindow_X6_tellWindow : rmX6_tellWindow.frames + 1 ≤ rmX3_takeWindow.frames ∧ 8 + (3 + 11) + rmX6_tellWindow.locals ≤ rmX3_takeWindow.locals := by decide
section SX3_takeWindow
variable {p : Program} {l : Launch} {e : Env} {s : State} {m : MethodId} {args : Array Value} {below : List Frame} {meth : Method} {c : Code} {Q : State → Prop} {D : va_G} {cy : Nat → ClassId} {B : Nat → Nat → Nat} {ids : List (Nat × Nat)} {A : Nat → Prop}
def fX3_takeWindow_121 (N : Nat)  (x0 : Nat) (x5 : Int32) (z : St) : Option (Int32 × St) := zl (zgR z 3 16 x0) fun y1 => zd y1 fun a2 => if (zgI z 6 11 a2) = 0 then (some (0, z)) else (if x5 = 0 then (some (0, z)) else (zl (zsI z 3 12 x0 (0 : Int32)) fun z5 => zl (zgR z5 3 16 x0) fun y6 => zd y6 fun a7 => zc (fX6_hasUnthanked N a7 z5) fun r8 z9 => if ¬ r8 = 0 then (some (0, z9)) else (zl (zgR z9 3 18 x0) fun y13 => zd y13 fun a14 => zl (zsI z9 10 0 a14 (0 : Int32)) fun z15 => some (0, z15))))
set_option maxHeartbeats 4000000 in
set_option maxRecDepth 100000 in
theorem bX3_takeWindow_121 (hst : zSt B ids) (F : zFx p m c cX3_takeWindow 6 s args RX3 D cy B ids A) (hA : ∀ q : Nat, s.heap.size ≤ q → A q) {r : Int32} {z' : St} (E : zEnd p l e rmX3_takeWindow s m args below meth c cX3_takeWindow D cy B ids A Q none z' .return_ True) {N : Nat}  (x0 : Nat) (x5 : Int32) (hx0 : (3, x0) ∈ ids) {z : St} {H : Heap} {locs : List Loc} {ls : Array Slot} (hr : zRep D cy B ids A s.heap z H locs) (hl : lv_has ls 6 [(0, .ref (B 3 x0)), (5, .int x5)]) (h : fX3_takeWindow_121 N x0 x5 z = some (r, z')) : W p l e rmX3_takeWindow s m args below meth c H locs 0 0 Q (F0 m 121 ls []) := by
  unfold fX3_takeWindow_121 at h
  refine lv_aload_n F.1 F.2.1 dX3_takeWindow_121 rfl (lv_at hl 0 rfl) ?_
  refine gf3_12 F hx0 hr dX3_takeWindow_122 (fun y1 ey1 => ?_)
  replace h := zl_sub ey1 h
  have hy1 := zal_g hr hx0 (j := 16) rfl ey1
  clear ey1
  replace h := zd_some h
  obtain ⟨a2, rfl, h⟩ := h
  refine gf3_139 F (hy1 _ rfl) hr dX3_takeWindow_125 ?_
  refine lv_if_eq (tgt := 159) F.1 F.2.1 dX3_takeWindow_128 (by decide) (fun c3 => ?_) (fun c3 => ?_)
  · replace h := zi_t c3 h
    obtain ⟨rfl, rfl⟩ := zret h
    exact E _ _ _ _ dX3_takeWindow_159 trivial hr
  · replace h := zi_f c3 h
    refine lv_iload F.1 F.2.1 dX3_takeWindow_131 (lv_at hl 1 rfl) ?_
    refine lv_if_eq (tgt := 159) F.1 F.2.1 dX3_takeWindow_133 (by decide) (fun c4 => ?_) (fun c4 => ?_)
    · replace h := zi_t c4 h
      obtain ⟨rfl, rfl⟩ := zret h
      exact E _ _ _ _ dX3_takeWindow_159 trivial hr
    · replace h := zi_f c4 h
      refine lv_aload_n F.1 F.2.1 dX3_takeWindow_136 rfl (lv_at hl 0 rfl) ?_
      refine lv_iconst (v := (0 : Int32)) F.1 F.2.1 dX3_takeWindow_137 (by decide) ?_
      refine pf3_68 F hx0 hr dX3_takeWindow_138 (0 : Int32) (by decide) (fun H locs z5 ez5 hr => ?_)
      replace h := zl_sub ez5 h
      clear ez5
      refine lv_aload_n F.1 F.2.1 dX3_takeWindow_141 rfl (lv_at hl 0 rfl) ?_
      refine gf3_12 F hx0 hr dX3_takeWindow_142 (fun y6 ey6 => ?_)
      replace h := zl_sub ey6 h
      have hy6 := zal_g hr hx0 (j := 16) rfl ey6
      clear ey6
      replace h := zd_some h
      obtain ⟨a7, rfl, h⟩ := h
      replace h := zc_some h
      obtain ⟨r8, z9, hc10, h⟩ := h
      refine zr_calli (zrun_VN (As := []) (rest := []) zn_1361 zq_1363 zs_X6_hasUnthanked zq_1364 zq_14 hdX6_hasUnthanked (by decide) (T := TX6) (N := 14) rfl (okX6_hasUnthanked l D cy B ids hst N a7 (hy6 _ rfl) hr.2.2 hc10) F hr (hy6 _ rfl) hl.1 rfl (by decide) dX3_takeWindow_145 rfl rfl hroX3_takeWindow_X6_hasUnthanked ⟨Nat.zero_le _, Nat.zero_le _⟩) F hA hr (fun H locs hw11 hr => ?_)
      clear hc10
      refine lv_if_ne (tgt := 159) F.1 F.2.1 dX3_takeWindow_148 (by decide) (fun c12 => ?_) (fun c12 => ?_)
      · replace h := zi_t c12 h
        obtain ⟨rfl, rfl⟩ := zret h
        exact E _ _ _ _ dX3_takeWindow_159 trivial hr
      · replace h := zi_f (fun q => q c12) h
        refine lv_aload_n F.1 F.2.1 dX3_takeWindow_151 rfl (lv_at hl 0 rfl) ?_
        refine gf3_28 F hx0 hr dX3_takeWindow_152 (fun y13 ey13 => ?_)
        replace h := zl_sub ey13 h
        have hy13 := zal_g hr hx0 (j := 18) rfl ey13
        clear ey13
        refine lv_iconst (v := (0 : Int32)) F.1 F.2.1 dX3_takeWindow_155 (by decide) ?_
        replace h := zd_some h
        obtain ⟨a14, rfl, h⟩ := h
        refine pf3_89 F (hy13 _ rfl) hr dX3_takeWindow_156 (0 : Int32) (fun H locs z15 ez15 hr => ?_)
        replace h := zl_sub ez15 h
        clear ez15
        obtain ⟨rfl, rfl⟩ := zret h
        exact E _ _ _ _ dX3_takeWindow_159 trivial hr
def fX3_takeWindow_113 (N : Nat)  (x0 : Nat) (x5 : Int32) (z : St) : Option (Int32 × St) := zl (zgR z 3 18 x0) fun y1 => zd y1 fun a2 => zl (zsI z 10 1 a2 (0 : Int32)) fun z3 => fX3_takeWindow_121 N x0 x5 z3
set_option maxHeartbeats 4000000 in
set_option maxRecDepth 100000 in
theorem bX3_takeWindow_113 (hst : zSt B ids) (F : zFx p m c cX3_takeWindow 6 s args RX3 D cy B ids A) (hA : ∀ q : Nat, s.heap.size ≤ q → A q) {r : Int32} {z' : St} (E : zEnd p l e rmX3_takeWindow s m args below meth c cX3_takeWindow D cy B ids A Q none z' .return_ True) {N : Nat}  (x0 : Nat) (x5 : Int32) (hx0 : (3, x0) ∈ ids) {z : St} {H : Heap} {locs : List Loc} {ls : Array Slot} (hr : zRep D cy B ids A s.heap z H locs) (hl : lv_has ls 6 [(0, .ref (B 3 x0)), (5, .int x5)]) (h : fX3_takeWindow_113 N x0 x5 z = some (r, z')) : W p l e rmX3_takeWindow s m args below meth c H locs 0 0 Q (F0 m 113 ls []) := by
  unfold fX3_takeWindow_113 at h
  refine lv_aload_n F.1 F.2.1 dX3_takeWindow_113 rfl (lv_at hl 0 rfl) ?_
  refine gf3_28 F hx0 hr dX3_takeWindow_114 (fun y1 ey1 => ?_)
  replace h := zl_sub ey1 h
  have hy1 := zal_g hr hx0 (j := 18) rfl ey1
  clear ey1
  refine lv_iconst (v := (0 : Int32)) F.1 F.2.1 dX3_takeWindow_117 (by decide) ?_
  replace h := zd_some h
  obtain ⟨a2, rfl, h⟩ := h
  refine pf3_127 F (hy1 _ rfl) hr dX3_takeWindow_118 (0 : Int32) (fun H locs z3 ez3 hr => ?_)
  replace h := zl_sub ez3 h
  clear ez3
  exact bX3_takeWindow_121 hst F hA E  x0 x5 hx0 hr (lv_sub hl [0, 1] rfl) h
def fX3_takeWindow_87 (N : Nat)  (x0 : Nat) (x1 : Nat) (x2 : Int32) (s0 : Int32) (z : St) : Option (Int32 × St) := zl (zgR z 3 16 x0) fun y1 => zd y1 fun a2 => zc (fX6_tellWindow N a2 x1 x2 z) fun _ z4 => zl (zgR z4 3 16 x0) fun y7 => zd y7 fun a8 => if (zgI z4 6 11 a8) = 0 then (fX3_takeWindow_113 N x0 s0 z4) else (if s0 = 0 then (fX3_takeWindow_121 N x0 s0 z4) else (fX3_takeWindow_113 N x0 s0 z4))
set_option maxHeartbeats 4000000 in
set_option maxRecDepth 100000 in
theorem bX3_takeWindow_87 (hst : zSt B ids) (F : zFx p m c cX3_takeWindow 6 s args RX3 D cy B ids A) (hA : ∀ q : Nat, s.heap.size ≤ q → A q) {r : Int32} {z' : St} (E : zEnd p l e rmX3_takeWindow s m args below meth c cX3_takeWindow D cy B ids A Q none z' .return_ True) {N : Nat}  (x0 : Nat) (x1 : Nat) (x2 : Int32) (s0 : Int32) (hx0 : (3, x0) ∈ ids) (hx1 : (7, x1) ∈ ids) {z : St} {H : Heap} {locs : List Loc} {ls : Array Slot} (hr : zRep D cy B ids A s.heap z H locs) (hl : lv_has ls 6 [(0, .ref (B 3 x0)), (1, .ref (B 7 x1)), (2, .int x2)]) (h : fX3_takeWindow_87 N x0 x1 x2 s0 z = some (r, z')) : W p l e rmX3_takeWindow s m args below meth c H locs 0 0 Q (F0 m 87 ls [.int s0]) := by
  unfold fX3_takeWindow_87 at h
  refine lv_istore (lv' := [(5, .int s0), (0, .ref (B 3 x0)), (1, .ref (B 7 x1)), (2, .int x2)]) F.1 F.2.1 dX3_takeWindow_87 hl (by decide) rfl (fun ls hl => ?_)
  refine lv_aload_n F.1 F.2.1 dX3_takeWindow_89 rfl (lv_at hl 1 rfl) ?_
  refine gf3_12 F hx0 hr dX3_takeWindow_90 (fun y1 ey1 => ?_)
  replace h := zl_sub ey1 h
  have hy1 := zal_g hr hx0 (j := 16) rfl ey1
  clear ey1
  refine lv_aload_n F.1 F.2.1 dX3_takeWindow_93 rfl (lv_at hl 2 rfl) ?_
  refine lv_iload_n F.1 F.2.1 dX3_takeWindow_94 rfl (lv_at hl 3 rfl) ?_
  replace h := zd_some h
  obtain ⟨a2, rfl, h⟩ := h
  replace h := zc_some h
  obtain ⟨r3, z4, hc5, h⟩ := h
  refine zr_callv (zrun_VN (As := [.ref (B 7 x1), .int x2]) (rest := []) zn_1330 zq_1332 zs_X6_tellWindow zq_1333 zq_14 hdX6_tellWindow (by decide) (T := TX6) (N := 14) rfl (okX6_tellWindow l D cy B ids hst N a2 (hy1 _ rfl) x1 hx1 x2  hr.2.2 hc5) F hr (hy1 _ rfl) hl.1 rfl (by decide) dX3_takeWindow_95 rfl rfl hroX3_takeWindow_X6_tellWindow ⟨Nat.zero_le _, Nat.zero_le _⟩) F hA hr (fun H locs hw6 hr => ?_)
  clear hc5
  refine lv_aload_n F.1 F.2.1 dX3_takeWindow_98 rfl (lv_at hl 1 rfl) ?_
  refine gf3_12 F hx0 hr dX3_takeWindow_99 (fun y7 ey7 => ?_)
  replace h := zl_sub ey7 h
  have hy7 := zal_g hr hx0 (j := 16) rfl ey7
  clear ey7
  replace h := zd_some h
  obtain ⟨a8, rfl, h⟩ := h
  refine gf3_139 F (hy7 _ rfl) hr dX3_takeWindow_102 ?_
  refine lv_if_eq (tgt := 113) F.1 F.2.1 dX3_takeWindow_105 (by decide) (fun c9 => ?_) (fun c9 => ?_)
  · replace h := zi_t c9 h
    exact bX3_takeWindow_113 hst F hA E  x0 s0 hx0 hr (lv_sub hl [1, 0] rfl) h
  · replace h := zi_f c9 h
    refine lv_iload F.1 F.2.1 dX3_takeWindow_108 (lv_at hl 0 rfl) ?_
    refine lv_if_eq (tgt := 121) F.1 F.2.1 dX3_takeWindow_110 (by decide) (fun c10 => ?_) (fun c10 => ?_)
    · replace h := zi_t c10 h
      exact bX3_takeWindow_121 hst F hA E  x0 s0 hx0 hr (lv_sub hl [1, 0] rfl) h
    · replace h := zi_f c10 h
      exact bX3_takeWindow_113 hst F hA E  x0 s0 hx0 hr (lv_sub hl [1, 0] rfl) h
def fX3_takeWindow_64 (N : Nat)  (x0 : Nat) (x1 : Nat) (x2 : Int32) (s0 : Int32) (z : St) : Option (Int32 × St) := if ¬ s0 = 0 then (zl (zgR z 3 16 x0) fun y2 => zd y2 fun a3 => if ¬ (zgI z 6 11 a3) = 0 then (fX3_takeWindow_87 N x0 x1 x2 (0 : Int32) z) else (fX3_takeWindow_87 N x0 x1 x2 (1 : Int32) z)) else (some (0, z))
set_option maxHeartbeats 4000000 in
set_option maxRecDepth 100000 in
theorem bX3_takeWindow_64 (hst : zSt B ids) (F : zFx p m c cX3_takeWindow 6 s args RX3 D cy B ids A) (hA : ∀ q : Nat, s.heap.size ≤ q → A q) {r : Int32} {z' : St} (E : zEnd p l e rmX3_takeWindow s m args below meth c cX3_takeWindow D cy B ids A Q none z' .return_ True) {N : Nat}  (x0 : Nat) (x1 : Nat) (x2 : Int32) (s0 : Int32) (hx0 : (3, x0) ∈ ids) (hx1 : (7, x1) ∈ ids) {z : St} {H : Heap} {locs : List Loc} {ls : Array Slot} (hr : zRep D cy B ids A s.heap z H locs) (hl : lv_has ls 6 [(0, .ref (B 3 x0)), (1, .ref (B 7 x1)), (2, .int x2)]) (h : fX3_takeWindow_64 N x0 x1 x2 s0 z = some (r, z')) : W p l e rmX3_takeWindow s m args below meth c H locs 0 0 Q (F0 m 64 ls [.int s0]) := by
  unfold fX3_takeWindow_64 at h
  refine lv_istore (lv' := [(4, .int s0), (0, .ref (B 3 x0)), (1, .ref (B 7 x1)), (2, .int x2)]) F.1 F.2.1 dX3_takeWindow_64 hl (by decide) rfl (fun ls hl => ?_)
  refine lv_iload F.1 F.2.1 dX3_takeWindow_66 (lv_at hl 0 rfl) ?_
  refine lv_if_ne (tgt := 72) F.1 F.2.1 dX3_takeWindow_68 (by decide) (fun c1 => ?_) (fun c1 => ?_)
  · replace h := zi_t c1 h
    refine lv_aload_n F.1 F.2.1 dX3_takeWindow_72 rfl (lv_at hl 1 rfl) ?_
    refine gf3_12 F hx0 hr dX3_takeWindow_73 (fun y2 ey2 => ?_)
    replace h := zl_sub ey2 h
    have hy2 := zal_g hr hx0 (j := 16) rfl ey2
    clear ey2
    replace h := zd_some h
    obtain ⟨a3, rfl, h⟩ := h
    refine gf3_139 F (hy2 _ rfl) hr dX3_takeWindow_76 ?_
    refine lv_if_ne (tgt := 86) F.1 F.2.1 dX3_takeWindow_79 (by decide) (fun c4 => ?_) (fun c4 => ?_)
    · replace h := zi_t c4 h
      refine lv_iconst (v := (0 : Int32)) F.1 F.2.1 dX3_takeWindow_86 (by decide) ?_
      exact bX3_takeWindow_87 hst F hA E  x0 x1 x2 (0 : Int32) hx0 hx1 hr (lv_sub hl [1, 2, 3] rfl) h
    · replace h := zi_f (fun q => q c4) h
      refine lv_iconst (v := (1 : Int32)) F.1 F.2.1 dX3_takeWindow_82 (by decide) ?_
      refine lv_goto (tgt := 87) F.1 F.2.1 dX3_takeWindow_83 (by decide) ?_
      exact bX3_takeWindow_87 hst F hA E  x0 x1 x2 (1 : Int32) hx0 hx1 hr (lv_sub hl [1, 2, 3] rfl) h
  · replace h := zi_f (fun q => q c1) h
    obtain ⟨rfl, rfl⟩ := zret h
    exact E _ _ _ _ dX3_takeWindow_71 trivial hr
def fX3_takeWindow_59 (N : Nat)  (x0 : Nat) (x1 : Nat) (x2 : Int32) (z : St) : Option (Int32 × St) := fX3_takeWindow_64 N x0 x1 x2 (1 : Int32) z
set_option maxHeartbeats 4000000 in
set_option maxRecDepth 100000 in
theorem bX3_takeWindow_59 (hst : zSt B ids) (F : zFx p m c cX3_takeWindow 6 s args RX3 D cy B ids A) (hA : ∀ q : Nat, s.heap.size ≤ q → A q) {r : Int32} {z' : St} (E : zEnd p l e rmX3_takeWindow s m args below meth c cX3_takeWindow D cy B ids A Q none z' .return_ True) {N : Nat}  (x0 : Nat) (x1 : Nat) (x2 : Int32) (hx0 : (3, x0) ∈ ids) (hx1 : (7, x1) ∈ ids) {z : St} {H : Heap} {locs : List Loc} {ls : Array Slot} (hr : zRep D cy B ids A s.heap z H locs) (hl : lv_has ls 6 [(0, .ref (B 3 x0)), (1, .ref (B 7 x1)), (2, .int x2)]) (h : fX3_takeWindow_59 N x0 x1 x2 z = some (r, z')) : W p l e rmX3_takeWindow s m args below meth c H locs 0 0 Q (F0 m 59 ls []) := by
  unfold fX3_takeWindow_59 at h
  refine lv_iconst (v := (1 : Int32)) F.1 F.2.1 dX3_takeWindow_59 (by decide) ?_
  refine lv_goto (tgt := 64) F.1 F.2.1 dX3_takeWindow_60 (by decide) ?_
  exact bX3_takeWindow_64 hst F hA E  x0 x1 x2 (1 : Int32) hx0 hx1 hr (lv_sub hl [0, 1, 2] rfl) h
def fX3_takeWindow_63 (N : Nat)  (x0 : Nat) (x1 : Nat) (x2 : Int32) (z : St) : Option (Int32 × St) := fX3_takeWindow_64 N x0 x1 x2 (0 : Int32) z
set_option maxHeartbeats 4000000 in
set_option maxRecDepth 100000 in
theorem bX3_takeWindow_63 (hst : zSt B ids) (F : zFx p m c cX3_takeWindow 6 s args RX3 D cy B ids A) (hA : ∀ q : Nat, s.heap.size ≤ q → A q) {r : Int32} {z' : St} (E : zEnd p l e rmX3_takeWindow s m args below meth c cX3_takeWindow D cy B ids A Q none z' .return_ True) {N : Nat}  (x0 : Nat) (x1 : Nat) (x2 : Int32) (hx0 : (3, x0) ∈ ids) (hx1 : (7, x1) ∈ ids) {z : St} {H : Heap} {locs : List Loc} {ls : Array Slot} (hr : zRep D cy B ids A s.heap z H locs) (hl : lv_has ls 6 [(0, .ref (B 3 x0)), (1, .ref (B 7 x1)), (2, .int x2)]) (h : fX3_takeWindow_63 N x0 x1 x2 z = some (r, z')) : W p l e rmX3_takeWindow s m args below meth c H locs 0 0 Q (F0 m 63 ls []) := by
  unfold fX3_takeWindow_63 at h
  refine lv_iconst (v := (0 : Int32)) F.1 F.2.1 dX3_takeWindow_63 (by decide) ?_
  exact bX3_takeWindow_64 hst F hA E  x0 x1 x2 (0 : Int32) hx0 hx1 hr (lv_sub hl [0, 1, 2] rfl) h
def fX3_takeWindow (N : Nat)  (x0 : Nat) (x1 : Nat) (x2 : Int32) (z : St) : Option (Int32 × St) := zl (zgI z 7 16 x1) fun v1 => zl (zgR z 3 16 x0) fun y2 => zd y2 fun a3 => zc (fX11_isBefore N x2 (zgI z 6 5 a3) z) fun r4 z5 => if r4 = 0 then (zl (zgR z5 3 16 x0) fun y9 => zd y9 fun a10 => zc (fX11_isBefore N (zgI z5 6 12 a10) v1 z5) fun r11 z12 => if ¬ r11 = 0 then (fX3_takeWindow_59 N x0 x1 x2 z12) else (zl (zgR z12 3 16 x0) fun y16 => zd y16 fun a17 => if ¬ (zgI z12 6 12 a17) = v1 then (fX3_takeWindow_63 N x0 x1 x2 z12) else (zl (zgR z12 3 16 x0) fun y19 => zd y19 fun a20 => zc (fX11_isBefore N x2 (zgI z12 6 13 a20) z12) fun r21 z22 => if ¬ r21 = 0 then (fX3_takeWindow_63 N x0 x1 x2 z22) else (fX3_takeWindow_59 N x0 x1 x2 z22)))) else (some (0, z5))
set_option maxHeartbeats 4000000 in
set_option maxRecDepth 100000 in
theorem bX3_takeWindow_0 (hst : zSt B ids) (F : zFx p m c cX3_takeWindow 6 s args RX3 D cy B ids A) (hA : ∀ q : Nat, s.heap.size ≤ q → A q) {r : Int32} {z' : St} (E : zEnd p l e rmX3_takeWindow s m args below meth c cX3_takeWindow D cy B ids A Q none z' .return_ True) {N : Nat}  (x0 : Nat) (x1 : Nat) (x2 : Int32) (hx0 : (3, x0) ∈ ids) (hx1 : (7, x1) ∈ ids) {z : St} {H : Heap} {locs : List Loc} {ls : Array Slot} (hr : zRep D cy B ids A s.heap z H locs) (hl : lv_has ls 6 [(0, .ref (B 3 x0)), (1, .ref (B 7 x1)), (2, .int x2)]) (h : fX3_takeWindow N x0 x1 x2 z = some (r, z')) : W p l e rmX3_takeWindow s m args below meth c H locs 0 0 Q (F0 m 0 ls []) := by
  unfold fX3_takeWindow at h
  refine lv_aload_n F.1 F.2.1 dX3_takeWindow_0 rfl (lv_at hl 1 rfl) ?_
  refine gf3_160 F hx1 hr dX3_takeWindow_1 ?_
  refine lv_topi (fun v1 ev1 => ?_)
  replace h := zl_sub ev1 h
  refine lv_istore_n (lv' := [(3, .int v1), (0, .ref (B 3 x0)), (1, .ref (B 7 x1)), (2, .int x2)]) F.1 F.2.1 dX3_takeWindow_4 rfl hl (by decide) rfl (fun ls hl => ?_)
  refine lv_iload_n F.1 F.2.1 dX3_takeWindow_5 rfl (lv_at hl 3 rfl) ?_
  refine lv_aload_n F.1 F.2.1 dX3_takeWindow_6 rfl (lv_at hl 1 rfl) ?_
  refine gf3_12 F hx0 hr dX3_takeWindow_7 (fun y2 ey2 => ?_)
  replace h := zl_sub ey2 h
  have hy2 := zal_g hr hx0 (j := 16) rfl ey2
  clear ey2
  replace h := zd_some h
  obtain ⟨a3, rfl, h⟩ := h
  refine gf3_193 F (hy2 _ rfl) hr dX3_takeWindow_10 ?_
  replace h := zc_some h
  obtain ⟨r4, z5, hc6, h⟩ := h
  refine zr_calli (zrun_SN (As := [.int x2, .int (zgI z 6 5 a3)]) (rest := []) zn_1382 zq_1354 zq_1355 zq_1 hdX11_isBefore (okX11_isBefore l D cy B ids hst N x2  (zgI z 6 5 a3)  hr.2.2 hc6) F hr hl.1 rfl (by decide) dX3_takeWindow_13 rfl rfl hroX3_takeWindow_X11_isBefore ⟨Nat.zero_le _, Nat.zero_le _⟩) F hA hr (fun H locs hw7 hr => ?_)
  clear hc6
  refine lv_if_eq (tgt := 20) F.1 F.2.1 dX3_takeWindow_16 (by decide) (fun c8 => ?_) (fun c8 => ?_)
  · replace h := zi_t c8 h
    refine lv_aload_n F.1 F.2.1 dX3_takeWindow_20 rfl (lv_at hl 1 rfl) ?_
    refine gf3_12 F hx0 hr dX3_takeWindow_21 (fun y9 ey9 => ?_)
    replace h := zl_sub ey9 h
    have hy9 := zal_g hr hx0 (j := 16) rfl ey9
    clear ey9
    replace h := zd_some h
    obtain ⟨a10, rfl, h⟩ := h
    refine gf3_222 F (hy9 _ rfl) hr dX3_takeWindow_24 ?_
    refine lv_iload_n F.1 F.2.1 dX3_takeWindow_27 rfl (lv_at hl 0 rfl) ?_
    replace h := zc_some h
    obtain ⟨r11, z12, hc13, h⟩ := h
    refine zr_calli (zrun_SN (As := [.int (zgI z5 6 12 a10), .int v1]) (rest := []) zn_1382 zq_1354 zq_1355 zq_1 hdX11_isBefore (okX11_isBefore l D cy B ids hst N (zgI z5 6 12 a10)  v1  hr.2.2 hc13) F hr hl.1 rfl (by decide) dX3_takeWindow_28 rfl rfl hroX3_takeWindow_X11_isBefore ⟨Nat.zero_le _, Nat.zero_le _⟩) F hA hr (fun H locs hw14 hr => ?_)
    clear hc13
    refine lv_if_ne (tgt := 59) F.1 F.2.1 dX3_takeWindow_31 (by decide) (fun c15 => ?_) (fun c15 => ?_)
    · replace h := zi_t c15 h
      exact bX3_takeWindow_59 hst F hA E  x0 x1 x2 hx0 hx1 hr (lv_sub hl [1, 2, 3] rfl) h
    · replace h := zi_f (fun q => q c15) h
      refine lv_aload_n F.1 F.2.1 dX3_takeWindow_34 rfl (lv_at hl 1 rfl) ?_
      refine gf3_12 F hx0 hr dX3_takeWindow_35 (fun y16 ey16 => ?_)
      replace h := zl_sub ey16 h
      have hy16 := zal_g hr hx0 (j := 16) rfl ey16
      clear ey16
      replace h := zd_some h
      obtain ⟨a17, rfl, h⟩ := h
      refine gf3_222 F (hy16 _ rfl) hr dX3_takeWindow_38 ?_
      refine lv_iload_n F.1 F.2.1 dX3_takeWindow_41 rfl (lv_at hl 0 rfl) ?_
      refine lv_icmp_ne (tgt := 63) F.1 F.2.1 dX3_takeWindow_42 (by decide) (fun c18 => ?_) (fun c18 => ?_)
      · replace h := zi_t c18 h
        exact bX3_takeWindow_63 hst F hA E  x0 x1 x2 hx0 hx1 hr (lv_sub hl [1, 2, 3] rfl) h
      · replace h := zi_f (fun q => q c18) h
        refine lv_iload_n F.1 F.2.1 dX3_takeWindow_45 rfl (lv_at hl 3 rfl) ?_
        refine lv_aload_n F.1 F.2.1 dX3_takeWindow_46 rfl (lv_at hl 1 rfl) ?_
        refine gf3_12 F hx0 hr dX3_takeWindow_47 (fun y19 ey19 => ?_)
        replace h := zl_sub ey19 h
        have hy19 := zal_g hr hx0 (j := 16) rfl ey19
        clear ey19
        replace h := zd_some h
        obtain ⟨a20, rfl, h⟩ := h
        refine gf3_225 F (hy19 _ rfl) hr dX3_takeWindow_50 ?_
        replace h := zc_some h
        obtain ⟨r21, z22, hc23, h⟩ := h
        refine zr_calli (zrun_SN (As := [.int x2, .int (zgI z12 6 13 a20)]) (rest := []) zn_1382 zq_1354 zq_1355 zq_1 hdX11_isBefore (okX11_isBefore l D cy B ids hst N x2  (zgI z12 6 13 a20)  hr.2.2 hc23) F hr hl.1 rfl (by decide) dX3_takeWindow_53 rfl rfl hroX3_takeWindow_X11_isBefore ⟨Nat.zero_le _, Nat.zero_le _⟩) F hA hr (fun H locs hw24 hr => ?_)
        clear hc23
        refine lv_if_ne (tgt := 63) F.1 F.2.1 dX3_takeWindow_56 (by decide) (fun c25 => ?_) (fun c25 => ?_)
        · replace h := zi_t c25 h
          exact bX3_takeWindow_63 hst F hA E  x0 x1 x2 hx0 hx1 hr (lv_sub hl [1, 2, 3] rfl) h
        · replace h := zi_f (fun q => q c25) h
          exact bX3_takeWindow_59 hst F hA E  x0 x1 x2 hx0 hx1 hr (lv_sub hl [1, 2, 3] rfl) h
  · replace h := zi_f c8 h
    obtain ⟨rfl, rfl⟩ := zret h
    exact E _ _ _ _ dX3_takeWindow_19 trivial hr
end SX3_takeWindow
set_option maxRecDepth 100000 in
theorem okX3_takeWindow (l : Launch) (D : va_G) (cy : Nat → ClassId) (B : Nat → Nat → Nat) (ids : List (Nat × Nat)) (hst : zSt B ids) (N : Nat) (x0 : Nat) (hx0 : (3, x0) ∈ ids) (x1 : Nat) (hx1 : (7, x1) ∈ ids) (x2 : Int32) {z : St} {r : Int32} {z' : St} (hW : zWf ids z) (h : fX3_takeWindow N x0 x1 x2 z = some (r, z')) : zM l yX3_takeWindow (zws yX3_takeWindow cX3_takeWindow 6 none) rmX3_takeWindow D cy B ids [.ref (B 3 x0), .ref (B 7 x1), .int x2] none True z z' :=
  zM_of hst hW (by decide +kernel) (Nat.le_of_ble_eq_true rfl) (fun p e s m args below meth c A ls F hA hret hlocks hr hl => bX3_takeWindow_0 hst F hA (zEnd_v F hret hlocks) x0 x1 x2 hx0 hx1 hr hl h)
abbrev rmX4_goOn : Room := { frames := 0, cells := 0, slots := 0, locals := 0 }
theorem hdX4_goOn : yX4_goOn.cls ≠ "java/lang/invoke/MethodHandle" ∧ yX4_goOn.cls ≠ "java/lang/invoke/VarHandle" ∧ (parseMethodDescriptor yX4_goOn.desc).map (fun d => d.parameters.length) = some 0 := by decide +kernel
section SX4_goOn
variable {p : Program} {l : Launch} {e : Env} {s : State} {m : MethodId} {args : Array Value} {below : List Frame} {meth : Method} {c : Code} {Q : State → Prop} {D : va_G} {cy : Nat → ClassId} {B : Nat → Nat → Nat} {ids : List (Nat × Nat)} {A : Nat → Prop}
def fX4_goOn_43 (N : Nat) (K2 : Nat → Int32 → St → Option (Int32 × St)) (x0 : Nat) (x1 : Int32) (z : St) : Option (Int32 × St) := zl (((zgI z 4 2 x0) + (zgI z 4 3 x0)) &&& (2047 : Int32)) fun v1 => if (2048 : Int32) ≤ (zgI z 4 3 x0) then (some (0, z)) else (zk v1 2048 <| if ¬ (zgA z 121 x0 (Int32.toNatClampNeg v1)) = 0 then (zk v1 2048 <| zl (zsA z 121 x0 (Int32.toNatClampNeg v1) (vp_nar .boolean (0 : Int32))) fun z6 => zl (zsI z6 4 3 x0 ((zgI z6 4 3 x0) + (1 : Int32))) fun z7 => zl (zsI z7 4 4 x0 ((zgI z7 4 4 x0) + (1 : Int32))) fun z8 => zl (x1 + 1) fun v9 => K2 x0 v9 z8) else (some (0, z)))
set_option maxHeartbeats 4000000 in
set_option maxRecDepth 100000 in
theorem bX4_goOn_43 (hst : zSt B ids) (F : zFx p m c cX4_goOn 3 s args RX4 D cy B ids A) (hA : ∀ q : Nat, s.heap.size ≤ q → A q) {r : Int32} {z' : St} (E : zEnd p l e rmX4_goOn s m args below meth c cX4_goOn D cy B ids A Q none z' .return_ True) {N : Nat} {K2 : Nat → Int32 → St → Option (Int32 × St)} (hK2 : ∀ (x0 : Nat) (x1 : Int32) (hx0 : (4, x0) ∈ ids) {z : St} {H : Heap} {locs : List Loc} {ls : Array Slot} (hr : zRep D cy B ids A s.heap z H locs) (hl : lv_has ls 3 [(0, .ref (B 4 x0)), (1, .int x1)]), K2 x0 x1 z = some (r, z') → W p l e rmX4_goOn s m args below meth c H locs 0 0 Q (F0 m 2 ls [])) (x0 : Nat) (x1 : Int32) (hx0 : (4, x0) ∈ ids) {z : St} {H : Heap} {locs : List Loc} {ls : Array Slot} (hr : zRep D cy B ids A s.heap z H locs) (hl : lv_has ls 3 [(0, .ref (B 4 x0)), (1, .int x1)]) (h : fX4_goOn_43 N K2 x0 x1 z = some (r, z')) : W p l e rmX4_goOn s m args below meth c H locs 0 0 Q (F0 m 43 ls []) := by
  unfold fX4_goOn_43 at h
  refine lv_aload_n F.1 F.2.1 dX4_goOn_43 rfl (lv_at hl 0 rfl) ?_
  refine gf4_19 F hx0 hr dX4_goOn_44 ?_
  refine lv_aload_n F.1 F.2.1 dX4_goOn_47 rfl (lv_at hl 0 rfl) ?_
  refine gf4_23 F hx0 hr dX4_goOn_48 ?_
  refine lv_iadd F.1 F.2.1 dX4_goOn_51 ?_
  refine lv_sipush (v := (2047 : Int32)) F.1 F.2.1 dX4_goOn_52 (by decide) ?_
  refine lv_iand F.1 F.2.1 dX4_goOn_55 ?_
  refine lv_topi (fun v1 ev1 => ?_)
  replace h := zl_sub ev1 h
  refine lv_istore_n (lv' := [(2, .int v1), (0, .ref (B 4 x0)), (1, .int x1)]) F.1 F.2.1 dX4_goOn_56 rfl hl (by decide) rfl (fun ls hl => ?_)
  refine lv_aload_n F.1 F.2.1 dX4_goOn_57 rfl (lv_at hl 1 rfl) ?_
  refine gf4_23 F hx0 hr dX4_goOn_58 ?_
  refine lv_sipush (v := (2048 : Int32)) F.1 F.2.1 dX4_goOn_61 (by decide) ?_
  refine lv_icmp_ge (tgt := 76) F.1 F.2.1 dX4_goOn_64 (by decide) (fun c2 => ?_) (fun c2 => ?_)
  · replace h := zi_t c2 h
    obtain ⟨rfl, rfl⟩ := zret h
    exact E _ _ _ _ dX4_goOn_76 trivial hr
  · replace h := zi_f c2 h
    refine lv_aload_n F.1 F.2.1 dX4_goOn_67 rfl (lv_at hl 1 rfl) ?_
    refine gf4_15 F hx0 hr dX4_goOn_68 ?_
    refine lv_iload_n F.1 F.2.1 dX4_goOn_71 rfl (lv_at hl 0 rfl) ?_
    replace h := zk_some h
    obtain ⟨c3, h⟩ := h
    refine zr_zald (k := 121) (by decide) rfl (by decide) F (zal_a F hx0 (j := 1) rfl) hr dX4_goOn_72 c3 ?_
    refine lv_if_ne (tgt := 77) F.1 F.2.1 dX4_goOn_73 (by decide) (fun c4 => ?_) (fun c4 => ?_)
    · replace h := zi_t c4 h
      refine lv_aload_n F.1 F.2.1 dX4_goOn_77 rfl (lv_at hl 1 rfl) ?_
      refine gf4_15 F hx0 hr dX4_goOn_78 ?_
      refine lv_iload_n F.1 F.2.1 dX4_goOn_81 rfl (lv_at hl 0 rfl) ?_
      refine lv_iconst (v := (0 : Int32)) F.1 F.2.1 dX4_goOn_82 (by decide) ?_
      replace h := zk_some h
      obtain ⟨c5, h⟩ := h
      refine zr_zast (k := 121) (by decide) rfl (by decide) F (zal_a F hx0 (j := 1) rfl) hr dX4_goOn_83 c5 (fun H locs z6 ez6 hr => ?_)
      replace h := zl_sub ez6 h
      clear ez6
      refine lv_aload_n F.1 F.2.1 dX4_goOn_84 rfl (lv_at hl 1 rfl) ?_
      refine lv_dup F.1 F.2.1 dX4_goOn_85 rfl ?_
      refine gf4_23 F hx0 hr dX4_goOn_86 ?_
      refine lv_iconst (v := (1 : Int32)) F.1 F.2.1 dX4_goOn_89 (by decide) ?_
      refine lv_iadd F.1 F.2.1 dX4_goOn_90 ?_
      refine pf4_23 F hx0 hr dX4_goOn_91 ((zgI z6 4 3 x0) + (1 : Int32)) (fun H locs z7 ez7 hr => ?_)
      replace h := zl_sub ez7 h
      clear ez7
      refine lv_aload_n F.1 F.2.1 dX4_goOn_94 rfl (lv_at hl 1 rfl) ?_
      refine lv_dup F.1 F.2.1 dX4_goOn_95 rfl ?_
      refine gf4_26 F hx0 hr dX4_goOn_96 ?_
      refine lv_iconst (v := (1 : Int32)) F.1 F.2.1 dX4_goOn_99 (by decide) ?_
      refine lv_iadd F.1 F.2.1 dX4_goOn_100 ?_
      refine pf4_26 F hx0 hr dX4_goOn_101 ((zgI z7 4 4 x0) + (1 : Int32)) (fun H locs z8 ez8 hr => ?_)
      replace h := zl_sub ez8 h
      clear ez8
      obtain ⟨v9, ev9⟩ : ∃ y : Int32, y = (x1 + 1) := ⟨_, rfl⟩
      replace h := zl_sub ev9 h
      refine lv_iinc (v := v9) (lv' := [(1, .int v9), (2, .int v1), (0, .ref (B 4 x0))]) F.1 F.2.1 dX4_goOn_104 hl (k := 2) rfl (by rw [ev9]; rfl) (by decide) rfl (fun ls hl => ?_)
      refine lv_goto (tgt := 2) F.1 F.2.1 dX4_goOn_107 (by decide) ?_
      exact hK2 x0 v9 hx0 hr (lv_sub hl [2, 0] rfl) h
    · replace h := zi_f (fun q => q c4) h
      obtain ⟨rfl, rfl⟩ := zret h
      exact E _ _ _ _ dX4_goOn_76 trivial hr
def fX4_goOn_2b (N : Nat) (K2 : Nat → Int32 → St → Option (Int32 × St)) (x0 : Nat) (x1 : Int32) (z : St) : Option (Int32 × St) := if (2048 : Int32) < x1 then (some (0, z)) else (if (zgI z 4 5 x0) = 0 then (fX4_goOn_43 N K2 x0 x1 z) else (if ¬ (zgI z 4 4 x0) = (zgI z 4 6 x0) then (fX4_goOn_43 N K2 x0 x1 z) else (zl (zsI z 4 4 x0 ((zgI z 4 4 x0) + (1 : Int32))) fun z4 => zl (zsI z4 4 7 x0 (1 : Int32)) fun z5 => some (0, z5))))
def fX4_goOn_2 (N : Nat)  : Nat → Nat → Int32 → St → Option (Int32 × St)
  | 0 => fun _ _ _ => none
  | n + 1 => fX4_goOn_2b N (fX4_goOn_2 N  n)
set_option maxHeartbeats 4000000 in
set_option maxRecDepth 100000 in
theorem bX4_goOn_2 (hst : zSt B ids) (F : zFx p m c cX4_goOn 3 s args RX4 D cy B ids A) (hA : ∀ q : Nat, s.heap.size ≤ q → A q) {r : Int32} {z' : St} (E : zEnd p l e rmX4_goOn s m args below meth c cX4_goOn D cy B ids A Q none z' .return_ True) {N : Nat} {K2 : Nat → Int32 → St → Option (Int32 × St)} (hK2 : ∀ (x0 : Nat) (x1 : Int32) (hx0 : (4, x0) ∈ ids) {z : St} {H : Heap} {locs : List Loc} {ls : Array Slot} (hr : zRep D cy B ids A s.heap z H locs) (hl : lv_has ls 3 [(0, .ref (B 4 x0)), (1, .int x1)]), K2 x0 x1 z = some (r, z') → W p l e rmX4_goOn s m args below meth c H locs 0 0 Q (F0 m 2 ls [])) (x0 : Nat) (x1 : Int32) (hx0 : (4, x0) ∈ ids) {z : St} {H : Heap} {locs : List Loc} {ls : Array Slot} (hr : zRep D cy B ids A s.heap z H locs) (hl : lv_has ls 3 [(0, .ref (B 4 x0)), (1, .int x1)]) (h : fX4_goOn_2b N K2 x0 x1 z = some (r, z')) : W p l e rmX4_goOn s m args below meth c H locs 0 0 Q (F0 m 2 ls []) := by
  unfold fX4_goOn_2b at h
  refine lv_iload_n F.1 F.2.1 dX4_goOn_2 rfl (lv_at hl 1 rfl) ?_
  refine lv_sipush (v := (2048 : Int32)) F.1 F.2.1 dX4_goOn_3 (by decide) ?_
  refine lv_icmp_gt (tgt := 110) F.1 F.2.1 dX4_goOn_6 (by decide) (fun c1 => ?_) (fun c1 => ?_)
  · replace h := zi_t c1 h
    obtain ⟨rfl, rfl⟩ := zret h
    exact E _ _ _ _ dX4_goOn_110 trivial hr
  · replace h := zi_f c1 h
    refine lv_aload_n F.1 F.2.1 dX4_goOn_9 rfl (lv_at hl 0 rfl) ?_
    refine gf4_29 F hx0 hr dX4_goOn_10 ?_
    refine lv_if_eq (tgt := 43) F.1 F.2.1 dX4_goOn_13 (by decide) (fun c2 => ?_) (fun c2 => ?_)
    · replace h := zi_t c2 h
      exact bX4_goOn_43 hst F hA E hK2 x0 x1 hx0 hr (lv_sub hl [0, 1] rfl) h
    · replace h := zi_f c2 h
      refine lv_aload_n F.1 F.2.1 dX4_goOn_16 rfl (lv_at hl 0 rfl) ?_
      refine gf4_26 F hx0 hr dX4_goOn_17 ?_
      refine lv_aload_n F.1 F.2.1 dX4_goOn_20 rfl (lv_at hl 0 rfl) ?_
      refine gf4_33 F hx0 hr dX4_goOn_21 ?_
      refine lv_icmp_ne (tgt := 43) F.1 F.2.1 dX4_goOn_24 (by decide) (fun c3 => ?_) (fun c3 => ?_)
      · replace h := zi_t c3 h
        exact bX4_goOn_43 hst F hA E hK2 x0 x1 hx0 hr (lv_sub hl [0, 1] rfl) h
      · replace h := zi_f (fun q => q c3) h
        refine lv_aload_n F.1 F.2.1 dX4_goOn_27 rfl (lv_at hl 0 rfl) ?_
        refine lv_dup F.1 F.2.1 dX4_goOn_28 rfl ?_
        refine gf4_26 F hx0 hr dX4_goOn_29 ?_
        refine lv_iconst (v := (1 : Int32)) F.1 F.2.1 dX4_goOn_32 (by decide) ?_
        refine lv_iadd F.1 F.2.1 dX4_goOn_33 ?_
        refine pf4_26 F hx0 hr dX4_goOn_34 ((zgI z 4 4 x0) + (1 : Int32)) (fun H locs z4 ez4 hr => ?_)
        replace h := zl_sub ez4 h
        clear ez4
        refine lv_aload_n F.1 F.2.1 dX4_goOn_37 rfl (lv_at hl 0 rfl) ?_
        refine lv_iconst (v := (1 : Int32)) F.1 F.2.1 dX4_goOn_38 (by decide) ?_
        refine pf4_36 F hx0 hr dX4_goOn_39 (1 : Int32) (by decide) (fun H locs z5 ez5 hr => ?_)
        replace h := zl_sub ez5 h
        clear ez5
        obtain ⟨rfl, rfl⟩ := zret h
        exact E _ _ _ _ dX4_goOn_42 trivial hr
theorem lX4_goOn_2 (hst : zSt B ids) (F : zFx p m c cX4_goOn 3 s args RX4 D cy B ids A) (hA : ∀ q : Nat, s.heap.size ≤ q → A q) {r : Int32} {z' : St} (E : zEnd p l e rmX4_goOn s m args below meth c cX4_goOn D cy B ids A Q none z' .return_ True) {N : Nat}  : ∀ (n : Nat) (x0 : Nat) (x1 : Int32) (hx0 : (4, x0) ∈ ids) {z : St} {H : Heap} {locs : List Loc} {ls : Array Slot} (hr : zRep D cy B ids A s.heap z H locs) (hl : lv_has ls 3 [(0, .ref (B 4 x0)), (1, .int x1)]), fX4_goOn_2 N  n x0 x1 z = some (r, z') → W p l e rmX4_goOn s m args below meth c H locs 0 0 Q (F0 m 2 ls []) := by
  intro n
  induction n with
  | zero => intro x0 x1 hx0 z H locs ls hr hl h; cases h
  | succ n ih => intro x0 x1 hx0 z H locs ls hr hl h; exact bX4_goOn_2 hst F hA E ih x0 x1 hx0 hr hl h
def fX4_goOn (N : Nat)  (x0 : Nat) (z : St) : Option (Int32 × St) := fX4_goOn_2 N N x0 (0 : Int32) z
set_option maxHeartbeats 4000000 in
set_option maxRecDepth 100000 in
theorem bX4_goOn_0 (hst : zSt B ids) (F : zFx p m c cX4_goOn 3 s args RX4 D cy B ids A) (hA : ∀ q : Nat, s.heap.size ≤ q → A q) {r : Int32} {z' : St} (E : zEnd p l e rmX4_goOn s m args below meth c cX4_goOn D cy B ids A Q none z' .return_ True) {N : Nat}  (x0 : Nat) (hx0 : (4, x0) ∈ ids) {z : St} {H : Heap} {locs : List Loc} {ls : Array Slot} (hr : zRep D cy B ids A s.heap z H locs) (hl : lv_has ls 3 [(0, .ref (B 4 x0))]) (h : fX4_goOn N x0 z = some (r, z')) : W p l e rmX4_goOn s m args below meth c H locs 0 0 Q (F0 m 0 ls []) := by
  unfold fX4_goOn at h
  refine lv_iconst (v := (0 : Int32)) F.1 F.2.1 dX4_goOn_0 (by decide) ?_
  refine lv_istore_n (lv' := [(1, .int (0 : Int32)), (0, .ref (B 4 x0))]) F.1 F.2.1 dX4_goOn_1 rfl hl (by decide) rfl (fun ls hl => ?_)
  exact lX4_goOn_2 hst F hA E  _ x0 (0 : Int32) hx0 hr (lv_sub hl [1, 0] rfl) h
end SX4_goOn
set_option maxRecDepth 100000 in
theorem okX4_goOn (l : Launch) (D : va_G) (cy : Nat → ClassId) (B : Nat → Nat → Nat) (ids : List (Nat × Nat)) (hst : zSt B ids) (N : Nat) (x0 : Nat) (hx0 : (4, x0) ∈ ids) {z : St} {r : Int32} {z' : St} (hW : zWf ids z) (h : fX4_goOn N x0 z = some (r, z')) : zM l yX4_goOn (zws yX4_goOn cX4_goOn 3 none) rmX4_goOn D cy B ids [.ref (B 4 x0)] none True z z' :=
  zM_of hst hW (by decide +kernel) (Nat.le_of_ble_eq_true rfl) (fun p e s m args below meth c A ls F hA hret hlocks hr hl => bX4_goOn_0 hst F hA (zEnd_v F hret hlocks) x0 hx0 hr hl h)
abbrev rmX7_bytes : Room := { frames := 1, cells := 0, slots := 0, locals := 60 }
theorem hdX7_bytes : yX7_bytes.cls ≠ "java/lang/invoke/MethodHandle" ∧ yX7_bytes.cls ≠ "java/lang/invoke/VarHandle" ∧ (parseMethodDescriptor yX7_bytes.desc).map (fun d => d.parameters.length) = some 0 := by decide +kernel
section SX7_bytes
variable {p : Program} {l : Launch} {e : Env} {s : State} {m : MethodId} {args : Array Value} {below : List Frame} {meth : Method} {c : Code} {Q : State → Prop} {D : va_G} {cy : Nat → ClassId} {B : Nat → Nat → Nat} {ids : List (Nat × Nat)} {A : Nat → Prop}
def fX7_bytes (N : Nat)  (x0 : Nat) (z : St) : Option (Int32 × St) := some ((if (0 : Int32) < ((zgI z 7 7 x0) - (20 : Int32)) then ((zgI z 7 7 x0) - (20 : Int32)) else (0 : Int32)), z)
set_option maxHeartbeats 4000000 in
set_option maxRecDepth 100000 in
theorem bX7_bytes_0 (hst : zSt B ids) (F : zFx p m c cX7_bytes 1 s args RX7 D cy B ids A) (hA : ∀ q : Nat, s.heap.size ≤ q → A q) {r : Int32} {z' : St} (E : zEnd p l e rmX7_bytes s m args below meth c cX7_bytes D cy B ids A Q (some (.int r)) z' .ireturn True) {N : Nat}  (x0 : Nat) (hx0 : (7, x0) ∈ ids) {z : St} {H : Heap} {locs : List Loc} {ls : Array Slot} (hr : zRep D cy B ids A s.heap z H locs) (hl : lv_has ls 1 [(0, .ref (B 7 x0))]) (h : fX7_bytes N x0 z = some (r, z')) : W p l e rmX7_bytes s m args below meth c H locs 0 0 Q (F0 m 0 ls []) := by
  unfold fX7_bytes at h
  refine lv_iconst (v := (0 : Int32)) F.1 F.2.1 dX7_bytes_0 (by decide) ?_
  refine lv_aload_n F.1 F.2.1 dX7_bytes_1 rfl (lv_at hl 0 rfl) ?_
  refine gf7_34 F hx0 hr dX7_bytes_2 ?_
  refine lv_bipush (v := (20 : Int32)) F.1 F.2.1 dX7_bytes_5 (by decide) ?_
  refine lv_isub F.1 F.2.1 dX7_bytes_7 ?_
  refine va_mmax F.1 F.2.1 (F.2.2.1.trans hl.1.symm) F.2.2.2.1 (F.2.2.2.2.1 _ zq_1407) (F.2.2.2.2.1 _ zq_275) (F.2.2.2.2.1 _ zq_27) (F.2.2.2.2.1 _ zq_276) (Nat.le_of_ble_eq_true rfl) (Nat.le_of_ble_eq_true rfl) (Nat.zero_le _) (Nat.zero_le _) dX7_bytes_8 ?_
  obtain ⟨rfl, rfl⟩ := zret h
  exact E _ _ _ _ dX7_bytes_11 trivial hr
end SX7_bytes
set_option maxRecDepth 100000 in
theorem okX7_bytes (l : Launch) (D : va_G) (cy : Nat → ClassId) (B : Nat → Nat → Nat) (ids : List (Nat × Nat)) (hst : zSt B ids) (N : Nat) (x0 : Nat) (hx0 : (7, x0) ∈ ids) {z : St} {r : Int32} {z' : St} (hW : zWf ids z) (h : fX7_bytes N x0 z = some (r, z')) : zM l yX7_bytes (zws yX7_bytes cX7_bytes 1 (some .int)) rmX7_bytes D cy B ids [.ref (B 7 x0)] (some (.int r)) True z z' :=
  zM_of hst hW (by decide +kernel) (Nat.le_of_ble_eq_true rfl) (fun p e s m args below meth c A ls F hA hret hlocks hr hl => bX7_bytes_0 hst F hA (zEnd_i F hret hlocks) x0 hx0 hr hl h)
abbrev rmX4_take : Room := { frames := 2, cells := 0, slots := 0, locals := 80 }
theorem hdX4_take : yX4_take.cls ≠ "java/lang/invoke/MethodHandle" ∧ yX4_take.cls ≠ "java/lang/invoke/VarHandle" ∧ (parseMethodDescriptor yX4_take.desc).map (fun d => d.parameters.length) = some 1 := by decide +kernel
theorem hroX4_take_X4_goOn : rmX4_goOn.frames + 1 ≤ rmX4_take.frames ∧ 8 + (3 + 11) + rmX4_goOn.locals ≤ rmX4_take.locals := by decide
theorem hroX4_take_X4_room : rmX4_room.frames + 1 ≤ rmX4_take.frames ∧ 8 + (1 + 11) + rmX4_room.locals ≤ rmX4_take.locals := by decide
theorem hroX4_take_X7_bytes : rmX7_bytes.frames + 1 ≤ rmX4_take.frames ∧ 8 + (1 + 11) + rmX7_bytes.locals ≤ rmX4_take.locals := by decide
theorem hroX4_take_X7_has : rmX7_has.frames + 1 ≤ rmX4_take.frames ∧ 8 + (2 + 11) + rmX7_has.locals ≤ rmX4_take.locals := by decide
section SX4_take
variable {p : Program} {l : Launch} {e : Env} {s : State} {m : MethodId} {args : Array Value} {below : List Frame} {meth : Method} {c : Code} {Q : State → Prop} {D : va_G} {cy : Nat → ClassId} {B : Nat → Nat → Nat} {ids : List (Nat × Nat)} {A : Nat → Prop}
def fX4_take_109 (N : Nat) (K24 : Nat → Nat → Int32 → Int32 → Int32 → Int32 → St → Option (Int32 × St)) (x0 : Nat) (x1 : Nat) (x2 : Int32) (x3 : Int32) (x4 : Int32) (x5 : Int32) (z : St) : Option (Int32 × St) := zl (x5 + 1) fun v1 => K24 x0 x1 x2 x3 x4 v1 z
set_option maxHeartbeats 4000000 in
set_option maxRecDepth 100000 in
theorem bX4_take_109 (hst : zSt B ids) (F : zFx p m c cX4_take 7 s args RX4 D cy B ids A) (hA : ∀ q : Nat, s.heap.size ≤ q → A q) {r : Int32} {z' : St} (E : zEnd p l e rmX4_take s m args below meth c cX4_take D cy B ids A Q none z' .return_ True) {N : Nat} {K24 : Nat → Nat → Int32 → Int32 → Int32 → Int32 → St → Option (Int32 × St)} (hK24 : ∀ (x0 : Nat) (x1 : Nat) (x2 : Int32) (x3 : Int32) (x4 : Int32) (x5 : Int32) (hx0 : (4, x0) ∈ ids) (hx1 : (7, x1) ∈ ids) {z : St} {H : Heap} {locs : List Loc} {ls : Array Slot} (hr : zRep D cy B ids A s.heap z H locs) (hl : lv_has ls 7 [(0, .ref (B 4 x0)), (1, .ref (B 7 x1)), (2, .int x2), (3, .int x3), (4, .int x4), (5, .int x5)]), K24 x0 x1 x2 x3 x4 x5 z = some (r, z') → W p l e rmX4_take s m args below meth c H locs 0 0 Q (F0 m 24 ls [])) (x0 : Nat) (x1 : Nat) (x2 : Int32) (x3 : Int32) (x4 : Int32) (x5 : Int32) (hx0 : (4, x0) ∈ ids) (hx1 : (7, x1) ∈ ids) {z : St} {H : Heap} {locs : List Loc} {ls : Array Slot} (hr : zRep D cy B ids A s.heap z H locs) (hl : lv_has ls 7 [(0, .ref (B 4 x0)), (1, .ref (B 7 x1)), (2, .int x2), (3, .int x3), (4, .int x4), (5, .int x5)]) (h : fX4_take_109 N K24 x0 x1 x2 x3 x4 x5 z = some (r, z')) : W p l e rmX4_take s m args below meth c H locs 0 0 Q (F0 m 109 ls []) := by
  unfold fX4_take_109 at h
  obtain ⟨v1, ev1⟩ : ∃ y : Int32, y = (x5 + 1) := ⟨_, rfl⟩
  replace h := zl_sub ev1 h
  refine lv_iinc (v := v1) (lv' := [(5, .int v1), (0, .ref (B 4 x0)), (1, .ref (B 7 x1)), (2, .int x2), (3, .int x3), (4, .int x4)]) F.1 F.2.1 dX4_take_109 hl (k := 5) rfl (by rw [ev1]; rfl) (by decide) rfl (fun ls hl => ?_)
  refine lv_goto (tgt := 24) F.1 F.2.1 dX4_take_112 (by decide) ?_
  exact hK24 x0 x1 x2 x3 x4 v1 hx0 hx1 hr (lv_sub hl [1, 2, 3, 4, 5, 0] rfl) h
def fX4_take_160 (N : Nat)  (x0 : Nat) (z : St) : Option (Int32 × St) := zc (fX4_goOn N x0 z) fun _ z2 => some (0, z2)
set_option maxHeartbeats 4000000 in
set_option maxRecDepth 100000 in
theorem bX4_take_160 (hst : zSt B ids) (F : zFx p m c cX4_take 7 s args RX4 D cy B ids A) (hA : ∀ q : Nat, s.heap.size ≤ q → A q) {r : Int32} {z' : St} (E : zEnd p l e rmX4_take s m args below meth c cX4_take D cy B ids A Q none z' .return_ True) {N : Nat}  (x0 : Nat) (hx0 : (4, x0) ∈ ids) {z : St} {H : Heap} {locs : List Loc} {ls : Array Slot} (hr : zRep D cy B ids A s.heap z H locs) (hl : lv_has ls 7 [(0, .ref (B 4 x0))]) (h : fX4_take_160 N x0 z = some (r, z')) : W p l e rmX4_take s m args below meth c H locs 0 0 Q (F0 m 160 ls []) := by
  unfold fX4_take_160 at h
  refine lv_aload_n F.1 F.2.1 dX4_take_160 rfl (lv_at hl 0 rfl) ?_
  replace h := zc_some h
  obtain ⟨r1, z2, hc3, h⟩ := h
  refine zr_callv (zrun_V (As := []) (rest := []) zq_1409 zq_1411 zs_X4_goOn zq_1412 zq_15 hdX4_goOn (by decide) (T := TX4) (N := 8) rfl (okX4_goOn l D cy B ids hst N x0 hx0 hr.2.2 hc3) F hr hx0 hl.1 rfl (by decide) dX4_take_161 rfl rfl hroX4_take_X4_goOn ⟨Nat.zero_le _, Nat.zero_le _⟩) F hA hr (fun H locs hw4 hr => ?_)
  clear hc3
  obtain ⟨rfl, rfl⟩ := zret h
  exact E _ _ _ _ dX4_take_164 trivial hr
def fX4_take_24b (N : Nat) (K24 : Nat → Nat → Int32 → Int32 → Int32 → Int32 → St → Option (Int32 × St)) (x0 : Nat) (x1 : Nat) (x2 : Int32) (x3 : Int32) (x4 : Int32) (x5 : Int32) (z : St) : Option (Int32 × St) := if x3 ≤ x5 then (zc (fX7_has N x1 (2 : Int32) z) fun r2 z3 => if r2 = 0 then (fX4_take_160 N x0 z3) else (if ¬ (zgI z3 4 5 x0) = 0 then (fX4_take_160 N x0 z3) else (if (x4 + x3) < 0 then (fX4_take_160 N x0 z3) else (if x2 ≤ (x4 + x3) then (fX4_take_160 N x0 z3) else (zl (zsI z3 4 5 x0 (1 : Int32)) fun z10 => zl (zsI z10 4 6 x0 ((zgI z10 7 16 x1) + x3)) fun z11 => fX4_take_160 N x0 z11))))) else (if (x4 + x5) < 0 then (fX4_take_109 N K24 x0 x1 x2 x3 x4 x5 z) else (if (x4 + x5) < x2 then (zl (((((zgI z 4 2 x0) + (zgI z 4 3 x0)) + x4) + x5) &&& (2047 : Int32)) fun v14 => zk v14 2048 <| if (zgA z 121 x0 (Int32.toNatClampNeg v14)) = 0 then (zk v14 2048 <| zl (zsA z 121 x0 (Int32.toNatClampNeg v14) (vp_nar .boolean (1 : Int32))) fun z18 => zk ((20 : Int32) + x5) 1480 <| zk v14 2048 <| zl (zsA z18 120 x0 (Int32.toNatClampNeg v14) (vp_nar .byte (zgA z18 125 x1 (Int32.toNatClampNeg ((20 : Int32) + x5))))) fun z21 => fX4_take_109 N K24 x0 x1 x2 x3 x4 x5 z21) else (fX4_take_109 N K24 x0 x1 x2 x3 x4 x5 z)) else (fX4_take_109 N K24 x0 x1 x2 x3 x4 x5 z)))
def fX4_take_24 (N : Nat)  : Nat → Nat → Nat → Int32 → Int32 → Int32 → Int32 → St → Option (Int32 × St)
  | 0 => fun _ _ _ _ _ _ _ => none
  | n + 1 => fX4_take_24b N (fX4_take_24 N  n)
set_option maxHeartbeats 4000000 in
set_option maxRecDepth 100000 in
theorem bX4_take_24 (hst : zSt B ids) (F : zFx p m c cX4_take 7 s args RX4 D cy B ids A) (hA : ∀ q : Nat, s.heap.size ≤ q → A q) {r : Int32} {z' : St} (E : zEnd p l e rmX4_take s m args below meth c cX4_take D cy B ids A Q none z' .return_ True) {N : Nat} {K24 : Nat → Nat → Int32 → Int32 → Int32 → Int32 → St → Option (Int32 × St)} (hK24 : ∀ (x0 : Nat) (x1 : Nat) (x2 : Int32) (x3 : Int32) (x4 : Int32) (x5 : Int32) (hx0 : (4, x0) ∈ ids) (hx1 : (7, x1) ∈ ids) {z : St} {H : Heap} {locs : List Loc} {ls : Array Slot} (hr : zRep D cy B ids A s.heap z H locs) (hl : lv_has ls 7 [(0, .ref (B 4 x0)), (1, .ref (B 7 x1)), (2, .int x2), (3, .int x3), (4, .int x4), (5, .int x5)]), K24 x0 x1 x2 x3 x4 x5 z = some (r, z') → W p l e rmX4_take s m args below meth c H locs 0 0 Q (F0 m 24 ls [])) (x0 : Nat) (x1 : Nat) (x2 : Int32) (x3 : Int32) (x4 : Int32) (x5 : Int32) (hx0 : (4, x0) ∈ ids) (hx1 : (7, x1) ∈ ids) {z : St} {H : Heap} {locs : List Loc} {ls : Array Slot} (hr : zRep D cy B ids A s.heap z H locs) (hl : lv_has ls 7 [(0, .ref (B 4 x0)), (1, .ref (B 7 x1)), (2, .int x2), (3, .int x3), (4, .int x4), (5, .int x5)]) (h : fX4_take_24b N K24 x0 x1 x2 x3 x4 x5 z = some (r, z')) : W p l e rmX4_take s m args below meth c H locs 0 0 Q (F0 m 24 ls []) := by
  unfold fX4_take_24b at h
  refine lv_iload F.1 F.2.1 dX4_take_24 (lv_at hl 5 rfl) ?_
  refine lv_iload_n F.1 F.2.1 dX4_take_26 rfl (lv_at hl 3 rfl) ?_
  refine lv_icmp_ge (tgt := 115) F.1 F.2.1 dX4_take_27 (by decide) (fun c1 => ?_) (fun c1 => ?_)
  · replace h := zi_t c1 h
    refine lv_aload_n F.1 F.2.1 dX4_take_115 rfl (lv_at hl 1 rfl) ?_
    refine lv_iconst (v := (2 : Int32)) F.1 F.2.1 dX4_take_116 (by decide) ?_
    replace h := zc_some h
    obtain ⟨r2, z3, hc4, h⟩ := h
    refine zr_calli (zrun_VN (As := [.int (2 : Int32)]) (rest := []) zn_1408 zq_1276 zs_X7_has zq_1277 zq_2 hdX7_has (by decide) (T := TX7) (N := 20) rfl (okX7_has l D cy B ids hst N x1 hx1 (2 : Int32)  hr.2.2 hc4) F hr hx1 hl.1 rfl (by decide) dX4_take_117 rfl rfl hroX4_take_X7_has ⟨Nat.zero_le _, Nat.zero_le _⟩) F hA hr (fun H locs hw5 hr => ?_)
    clear hc4
    refine lv_if_eq (tgt := 160) F.1 F.2.1 dX4_take_120 (by decide) (fun c6 => ?_) (fun c6 => ?_)
    · replace h := zi_t c6 h
      exact bX4_take_160 hst F hA E  x0 hx0 hr (lv_sub hl [0] rfl) h
    · replace h := zi_f c6 h
      refine lv_aload_n F.1 F.2.1 dX4_take_123 rfl (lv_at hl 0 rfl) ?_
      refine gf4_29 F hx0 hr dX4_take_124 ?_
      refine lv_if_ne (tgt := 160) F.1 F.2.1 dX4_take_127 (by decide) (fun c7 => ?_) (fun c7 => ?_)
      · replace h := zi_t c7 h
        exact bX4_take_160 hst F hA E  x0 hx0 hr (lv_sub hl [0] rfl) h
      · replace h := zi_f (fun q => q c7) h
        refine lv_iload F.1 F.2.1 dX4_take_130 (lv_at hl 4 rfl) ?_
        refine lv_iload_n F.1 F.2.1 dX4_take_132 rfl (lv_at hl 3 rfl) ?_
        refine lv_iadd F.1 F.2.1 dX4_take_133 ?_
        refine lv_if_lt (tgt := 160) F.1 F.2.1 dX4_take_134 (by decide) (fun c8 => ?_) (fun c8 => ?_)
        · replace h := zi_t c8 h
          exact bX4_take_160 hst F hA E  x0 hx0 hr (lv_sub hl [0] rfl) h
        · replace h := zi_f c8 h
          refine lv_iload F.1 F.2.1 dX4_take_137 (lv_at hl 4 rfl) ?_
          refine lv_iload_n F.1 F.2.1 dX4_take_139 rfl (lv_at hl 3 rfl) ?_
          refine lv_iadd F.1 F.2.1 dX4_take_140 ?_
          refine lv_iload_n F.1 F.2.1 dX4_take_141 rfl (lv_at hl 2 rfl) ?_
          refine lv_icmp_ge (tgt := 160) F.1 F.2.1 dX4_take_142 (by decide) (fun c9 => ?_) (fun c9 => ?_)
          · replace h := zi_t c9 h
            exact bX4_take_160 hst F hA E  x0 hx0 hr (lv_sub hl [0] rfl) h
          · replace h := zi_f c9 h
            refine lv_aload_n F.1 F.2.1 dX4_take_145 rfl (lv_at hl 0 rfl) ?_
            refine lv_iconst (v := (1 : Int32)) F.1 F.2.1 dX4_take_146 (by decide) ?_
            refine pf4_29 F hx0 hr dX4_take_147 (1 : Int32) (by decide) (fun H locs z10 ez10 hr => ?_)
            replace h := zl_sub ez10 h
            clear ez10
            refine lv_aload_n F.1 F.2.1 dX4_take_150 rfl (lv_at hl 0 rfl) ?_
            refine lv_aload_n F.1 F.2.1 dX4_take_151 rfl (lv_at hl 1 rfl) ?_
            refine gf4_48 F hx1 hr dX4_take_152 ?_
            refine lv_iload_n F.1 F.2.1 dX4_take_155 rfl (lv_at hl 3 rfl) ?_
            refine lv_iadd F.1 F.2.1 dX4_take_156 ?_
            refine pf4_33 F hx0 hr dX4_take_157 ((zgI z10 7 16 x1) + x3) (fun H locs z11 ez11 hr => ?_)
            replace h := zl_sub ez11 h
            clear ez11
            exact bX4_take_160 hst F hA E  x0 hx0 hr (lv_sub hl [0] rfl) h
  · replace h := zi_f c1 h
    refine lv_iload F.1 F.2.1 dX4_take_30 (lv_at hl 4 rfl) ?_
    refine lv_iload F.1 F.2.1 dX4_take_32 (lv_at hl 5 rfl) ?_
    refine lv_iadd F.1 F.2.1 dX4_take_34 ?_
    refine lv_if_lt (tgt := 109) F.1 F.2.1 dX4_take_35 (by decide) (fun c12 => ?_) (fun c12 => ?_)
    · replace h := zi_t c12 h
      exact bX4_take_109 hst F hA E hK24 x0 x1 x2 x3 x4 x5 hx0 hx1 hr (lv_sub hl [0, 1, 2, 3, 4, 5] rfl) h
    · replace h := zi_f c12 h
      refine lv_iload F.1 F.2.1 dX4_take_38 (lv_at hl 4 rfl) ?_
      refine lv_iload F.1 F.2.1 dX4_take_40 (lv_at hl 5 rfl) ?_
      refine lv_iadd F.1 F.2.1 dX4_take_42 ?_
      refine lv_iload_n F.1 F.2.1 dX4_take_43 rfl (lv_at hl 2 rfl) ?_
      refine lv_icmp_lt (tgt := 50) F.1 F.2.1 dX4_take_44 (by decide) (fun c13 => ?_) (fun c13 => ?_)
      · replace h := zi_t c13 h
        refine lv_aload_n F.1 F.2.1 dX4_take_50 rfl (lv_at hl 0 rfl) ?_
        refine gf4_19 F hx0 hr dX4_take_51 ?_
        refine lv_aload_n F.1 F.2.1 dX4_take_54 rfl (lv_at hl 0 rfl) ?_
        refine gf4_23 F hx0 hr dX4_take_55 ?_
        refine lv_iadd F.1 F.2.1 dX4_take_58 ?_
        refine lv_iload F.1 F.2.1 dX4_take_59 (lv_at hl 4 rfl) ?_
        refine lv_iadd F.1 F.2.1 dX4_take_61 ?_
        refine lv_iload F.1 F.2.1 dX4_take_62 (lv_at hl 5 rfl) ?_
        refine lv_iadd F.1 F.2.1 dX4_take_64 ?_
        refine lv_sipush (v := (2047 : Int32)) F.1 F.2.1 dX4_take_65 (by decide) ?_
        refine lv_iand F.1 F.2.1 dX4_take_68 ?_
        refine lv_topi (fun v14 ev14 => ?_)
        replace h := zl_sub ev14 h
        refine lv_istore (lv' := [(6, .int v14), (0, .ref (B 4 x0)), (1, .ref (B 7 x1)), (2, .int x2), (3, .int x3), (4, .int x4), (5, .int x5)]) F.1 F.2.1 dX4_take_69 hl (by decide) rfl (fun ls hl => ?_)
        refine lv_aload_n F.1 F.2.1 dX4_take_71 rfl (lv_at hl 1 rfl) ?_
        refine gf4_15 F hx0 hr dX4_take_72 ?_
        refine lv_iload F.1 F.2.1 dX4_take_75 (lv_at hl 0 rfl) ?_
        replace h := zk_some h
        obtain ⟨c15, h⟩ := h
        refine zr_zald (k := 121) (by decide) rfl (by decide) F (zal_a F hx0 (j := 1) rfl) hr dX4_take_77 c15 ?_
        refine lv_if_eq (tgt := 84) F.1 F.2.1 dX4_take_78 (by decide) (fun c16 => ?_) (fun c16 => ?_)
        · replace h := zi_t c16 h
          refine lv_aload_n F.1 F.2.1 dX4_take_84 rfl (lv_at hl 1 rfl) ?_
          refine gf4_15 F hx0 hr dX4_take_85 ?_
          refine lv_iload F.1 F.2.1 dX4_take_88 (lv_at hl 0 rfl) ?_
          refine lv_iconst (v := (1 : Int32)) F.1 F.2.1 dX4_take_90 (by decide) ?_
          replace h := zk_some h
          obtain ⟨c17, h⟩ := h
          refine zr_zast (k := 121) (by decide) rfl (by decide) F (zal_a F hx0 (j := 1) rfl) hr dX4_take_91 c17 (fun H locs z18 ez18 hr => ?_)
          replace h := zl_sub ez18 h
          clear ez18
          refine lv_aload_n F.1 F.2.1 dX4_take_92 rfl (lv_at hl 1 rfl) ?_
          refine gf4_9 F hx0 hr dX4_take_93 ?_
          refine lv_iload F.1 F.2.1 dX4_take_96 (lv_at hl 0 rfl) ?_
          refine lv_aload_n F.1 F.2.1 dX4_take_98 rfl (lv_at hl 2 rfl) ?_
          refine gf4_51 F hx1 hr dX4_take_99 ?_
          refine lv_bipush (v := (20 : Int32)) F.1 F.2.1 dX4_take_102 (by decide) ?_
          refine lv_iload F.1 F.2.1 dX4_take_104 (lv_at hl 6 rfl) ?_
          refine lv_iadd F.1 F.2.1 dX4_take_106 ?_
          replace h := zk_some h
          obtain ⟨c19, h⟩ := h
          refine zr_bald (k := 125) (by decide) rfl (by decide) F (zal_a F hx1 (j := 8) rfl) hr dX4_take_107 c19 ?_
          replace h := zk_some h
          obtain ⟨c20, h⟩ := h
          refine zr_bast (k := 120) (by decide) rfl (by decide) F (zal_a F hx0 (j := 0) rfl) hr dX4_take_108 c20 (fun H locs z21 ez21 hr => ?_)
          replace h := zl_sub ez21 h
          clear ez21
          exact bX4_take_109 hst F hA E hK24 x0 x1 x2 x3 x4 x5 hx0 hx1 hr (lv_sub hl [1, 2, 3, 4, 5, 6] rfl) h
        · replace h := zi_f c16 h
          refine lv_goto (tgt := 109) F.1 F.2.1 dX4_take_81 (by decide) ?_
          exact bX4_take_109 hst F hA E hK24 x0 x1 x2 x3 x4 x5 hx0 hx1 hr (lv_sub hl [1, 2, 3, 4, 5, 6] rfl) h
      · replace h := zi_f c13 h
        refine lv_goto (tgt := 109) F.1 F.2.1 dX4_take_47 (by decide) ?_
        exact bX4_take_109 hst F hA E hK24 x0 x1 x2 x3 x4 x5 hx0 hx1 hr (lv_sub hl [0, 1, 2, 3, 4, 5] rfl) h
theorem lX4_take_24 (hst : zSt B ids) (F : zFx p m c cX4_take 7 s args RX4 D cy B ids A) (hA : ∀ q : Nat, s.heap.size ≤ q → A q) {r : Int32} {z' : St} (E : zEnd p l e rmX4_take s m args below meth c cX4_take D cy B ids A Q none z' .return_ True) {N : Nat}  : ∀ (n : Nat) (x0 : Nat) (x1 : Nat) (x2 : Int32) (x3 : Int32) (x4 : Int32) (x5 : Int32) (hx0 : (4, x0) ∈ ids) (hx1 : (7, x1) ∈ ids) {z : St} {H : Heap} {locs : List Loc} {ls : Array Slot} (hr : zRep D cy B ids A s.heap z H locs) (hl : lv_has ls 7 [(0, .ref (B 4 x0)), (1, .ref (B 7 x1)), (2, .int x2), (3, .int x3), (4, .int x4), (5, .int x5)]), fX4_take_24 N  n x0 x1 x2 x3 x4 x5 z = some (r, z') → W p l e rmX4_take s m args below meth c H locs 0 0 Q (F0 m 24 ls []) := by
  intro n
  induction n with
  | zero => intro x0 x1 x2 x3 x4 x5 hx0 hx1 z H locs ls hr hl h; cases h
  | succ n ih => intro x0 x1 x2 x3 x4 x5 hx0 hx1 z H locs ls hr hl h; exact bX4_take_24 hst F hA E ih x0 x1 x2 x3 x4 x5 hx0 hx1 hr hl h
def fX4_take (N : Nat)  (x0 : Nat) (x1 : Nat) (z : St) : Option (Int32 × St) := zc (fX4_room N x0 z) fun r1 z2 => zc (fX7_bytes N x1 z2) fun r5 z6 => zl ((zgI z6 7 16 x1) - (zgI z6 4 4 x0)) fun v9 => fX4_take_24 N N x0 x1 r1 r5 v9 (0 : Int32) z6
set_option maxHeartbeats 4000000 in
set_option maxRecDepth 100000 in
theorem bX4_take_0 (hst : zSt B ids) (F : zFx p m c cX4_take 7 s args RX4 D cy B ids A) (hA : ∀ q : Nat, s.heap.size ≤ q → A q) {r : Int32} {z' : St} (E : zEnd p l e rmX4_take s m args below meth c cX4_take D cy B ids A Q none z' .return_ True) {N : Nat}  (x0 : Nat) (x1 : Nat) (hx0 : (4, x0) ∈ ids) (hx1 : (7, x1) ∈ ids) {z : St} {H : Heap} {locs : List Loc} {ls : Array Slot} (hr : zRep D cy B ids A s.heap z H locs) (hl : lv_has ls 7 [(0, .ref (B 4 x0)), (1, .ref (B 7 x1))]) (h : fX4_take N x0 x1 z = some (r, z')) : W p l e rmX4_take s m args below meth c H locs 0 0 Q (F0 m 0 ls []) := by
  unfold fX4_take at h
  refine lv_aload_n F.1 F.2.1 dX4_take_0 rfl (lv_at hl 0 rfl) ?_
  replace h := zc_some h
  obtain ⟨r1, z2, hc3, h⟩ := h
  refine zr_calli (zrun_V (As := []) (rest := []) zq_1374 zq_1376 zs_X4_room zq_1377 zq_15 hdX4_room (by decide) (T := TX4) (N := 8) rfl (okX4_room l D cy B ids hst N x0 hx0 hr.2.2 hc3) F hr hx0 hl.1 rfl (by decide) dX4_take_1 rfl rfl hroX4_take_X4_room ⟨Nat.zero_le _, Nat.zero_le _⟩) F hA hr (fun H locs hw4 hr => ?_)
  clear hc3
  refine lv_istore_n (lv' := [(2, .int r1), (0, .ref (B 4 x0)), (1, .ref (B 7 x1))]) F.1 F.2.1 dX4_take_4 rfl hl (by decide) rfl (fun ls hl => ?_)
  refine lv_aload_n F.1 F.2.1 dX4_take_5 rfl (lv_at hl 2 rfl) ?_
  replace h := zc_some h
  obtain ⟨r5, z6, hc7, h⟩ := h
  refine zr_calli (zrun_VN (As := []) (rest := []) zn_1403 zq_1405 zs_X7_bytes zq_1406 zq_2 hdX7_bytes (by decide) (T := TX7) (N := 20) rfl (okX7_bytes l D cy B ids hst N x1 hx1 hr.2.2 hc7) F hr hx1 hl.1 rfl (by decide) dX4_take_6 rfl rfl hroX4_take_X7_bytes ⟨Nat.zero_le _, Nat.zero_le _⟩) F hA hr (fun H locs hw8 hr => ?_)
  clear hc7
  refine lv_istore_n (lv' := [(3, .int r5), (2, .int r1), (0, .ref (B 4 x0)), (1, .ref (B 7 x1))]) F.1 F.2.1 dX4_take_9 rfl hl (by decide) rfl (fun ls hl => ?_)
  refine lv_aload_n F.1 F.2.1 dX4_take_10 rfl (lv_at hl 3 rfl) ?_
  refine gf4_48 F hx1 hr dX4_take_11 ?_
  refine lv_aload_n F.1 F.2.1 dX4_take_14 rfl (lv_at hl 2 rfl) ?_
  refine gf4_26 F hx0 hr dX4_take_15 ?_
  refine lv_isub F.1 F.2.1 dX4_take_18 ?_
  refine lv_topi (fun v9 ev9 => ?_)
  replace h := zl_sub ev9 h
  refine lv_istore (lv' := [(4, .int v9), (3, .int r5), (2, .int r1), (0, .ref (B 4 x0)), (1, .ref (B 7 x1))]) F.1 F.2.1 dX4_take_19 hl (by decide) rfl (fun ls hl => ?_)
  refine lv_iconst (v := (0 : Int32)) F.1 F.2.1 dX4_take_21 (by decide) ?_
  refine lv_istore (lv' := [(5, .int (0 : Int32)), (4, .int v9), (3, .int r5), (2, .int r1), (0, .ref (B 4 x0)), (1, .ref (B 7 x1))]) F.1 F.2.1 dX4_take_22 hl (by decide) rfl (fun ls hl => ?_)
  exact lX4_take_24 hst F hA E  _ x0 x1 r1 r5 v9 (0 : Int32) hx0 hx1 hr (lv_sub hl [4, 5, 3, 2, 1, 0] rfl) h
end SX4_take
set_option maxRecDepth 100000 in
theorem okX4_take (l : Launch) (D : va_G) (cy : Nat → ClassId) (B : Nat → Nat → Nat) (ids : List (Nat × Nat)) (hst : zSt B ids) (N : Nat) (x0 : Nat) (hx0 : (4, x0) ∈ ids) (x1 : Nat) (hx1 : (7, x1) ∈ ids) {z : St} {r : Int32} {z' : St} (hW : zWf ids z) (h : fX4_take N x0 x1 z = some (r, z')) : zM l yX4_take (zws yX4_take cX4_take 7 none) rmX4_take D cy B ids [.ref (B 4 x0), .ref (B 7 x1)] none True z z' :=
  zM_of hst hW (by decide +kernel) (Nat.le_of_ble_eq_true rfl) (fun p e s m args below meth c A ls F hA hret hlocks hr hl => bX4_take_0 hst F hA (zEnd_v F hret hlocks) x0 x1 hx0 hx1 hr hl h)
