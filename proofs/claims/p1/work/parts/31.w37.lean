abbrev rmX19_endAt : Room := { frames := 3, cells := 0, slots := 0, locals := 64 }
theorem hdX19_endAt : yX19_endAt.cls ≠ "java/lang/invoke/MethodHandle" ∧ yX19_endAt.cls ≠ "java/lang/invoke/VarHandle" ∧ (parseMethodDescriptor yX19_endAt.desc).map (fun d => d.parameters.length) = some 2 := by decide +kernel
theorem hroX19_endAt_X19_isDoor : rmX19_isDoor.frames + 1 ≤ rmX19_endAt.frames ∧ 8 + (3 + 11) + rmX19_isDoor.locals ≤ rmX19_endAt.locals := by decide
section SX19_endAt
variable {p : Program} {l : Launch} {e : Env} {s : State} {m : MethodId} {args : Array Value} {below : List Frame} {meth : Method} {c : Code} {Q : State → Prop} {D : va_G} {cy : Nat → ClassId} {B : Nat → Nat → Nat} {ids : List (Nat × Nat)} {A : Nat → Prop}
def fX19_endAt (N : Nat)  (x0 : Nat) (x1 : Int32) (x2 : Int32) (z : St) : Option (Option Nat × St) := zc (fX19_isDoor N x0 x1 x2 z) fun r1 z2 => if r1 = 0 then (some (none, z2)) else (zk x1 16 <| zl (zgQ z2 186 x0 (Int32.toNatClampNeg x1)) fun y7 => zd y7 fun a8 => zk x2 6 <| zl (zgQ z2 158 a8 (Int32.toNatClampNeg x2)) fun y10 => zd y10 fun a11 => if (zgI z2 13 3 a11) = 0 then (some (none, z2)) else (zk x1 16 <| zl (zgQ z2 186 x0 (Int32.toNatClampNeg x1)) fun y14 => zd y14 fun a15 => zk x2 6 <| zl (zgQ z2 158 a15 (Int32.toNatClampNeg x2)) fun y17 => zd y17 fun a18 => zl (zgR z2 13 4 a18) fun y19 => some (y19, z2)))
set_option maxHeartbeats 4000000 in
set_option maxRecDepth 100000 in
theorem bX19_endAt_0 (hst : zSt B ids) (F : zFx p m c cX19_endAt 3 s args RX19 D cy B ids A) (hA : ∀ q : Nat, s.heap.size ≤ q → A q) {r : Option Nat} {z' : St} (E : zEnd p l e rmX19_endAt s m args below meth c cX19_endAt D cy B ids A Q (some (va_rf (r.map (B 14)))) z' .areturn (∀ i, r = some i → (14, i) ∈ ids)) {N : Nat}  (x0 : Nat) (x1 : Int32) (x2 : Int32) (hx0 : (19, x0) ∈ ids) {z : St} {H : Heap} {locs : List Loc} {ls : Array Slot} (hr : zRep D cy B ids A s.heap z H locs) (hl : lv_has ls 3 [(0, .ref (B 19 x0)), (1, .int x1), (2, .int x2)]) (h : fX19_endAt N x0 x1 x2 z = some (r, z')) : W p l e rmX19_endAt s m args below meth c H locs 0 0 Q (F0 m 0 ls []) := by
  unfold fX19_endAt at h
  refine lv_aload_n F.1 F.2.1 dX19_endAt_0 rfl (lv_at hl 0 rfl) ?_
  refine lv_iload_n F.1 F.2.1 dX19_endAt_1 rfl (lv_at hl 1 rfl) ?_
  refine lv_iload_n F.1 F.2.1 dX19_endAt_2 rfl (lv_at hl 2 rfl) ?_
  replace h := zc_some h
  obtain ⟨r1, z2, hc3, h⟩ := h
  refine zr_calli (zrun_V (As := [.int x1, .int x2]) (rest := []) zq_3012 zq_3014 zs_X19_isDoor zq_3015 zq_4 hdX19_isDoor (by decide) (T := TX19) (N := 32) rfl (okX19_isDoor l D cy B ids hst N x0 hx0 x1  x2  hr.2.2 hc3) F hr hx0 hl.1 rfl (by decide) dX19_endAt_3 rfl rfl hroX19_endAt_X19_isDoor ⟨Nat.zero_le _, Nat.zero_le _⟩) F hA hr (fun H locs hw4 hr => ?_)
  clear hc3
  refine lv_if_eq (tgt := 43) F.1 F.2.1 dX19_endAt_6 (by decide) (fun c5 => ?_) (fun c5 => ?_)
  · replace h := zi_t c5 h
    refine lv_null F.1 F.2.1 dX19_endAt_43 ?_
    obtain ⟨rfl, rfl⟩ := zret h
    exact E _ _ _ _ dX19_endAt_44 zal_0 hr
  · replace h := zi_f c5 h
    refine lv_aload_n F.1 F.2.1 dX19_endAt_9 rfl (lv_at hl 0 rfl) ?_
    refine gf19_114 F hx0 hr dX19_endAt_10 ?_
    refine lv_iload_n F.1 F.2.1 dX19_endAt_13 rfl (lv_at hl 1 rfl) ?_
    replace h := zk_some h
    obtain ⟨c6, h⟩ := h
    refine zr_aaldv (k := 186) (by decide) rfl rfl (zlen_d (by decide)) F (zal_a F hx0 (j := 18) rfl) hr dX19_endAt_14 c6 (fun y7 ey7 => ?_)
    replace h := zl_sub ey7 h
    have hy7 := zal_q hr (zal_a F hx0 (j := 18) rfl) rfl ey7
    clear ey7
    replace h := zd_some h
    obtain ⟨a8, rfl, h⟩ := h
    refine gf19_340 F (hy7 _ rfl) hr dX19_endAt_15 ?_
    refine lv_iload_n F.1 F.2.1 dX19_endAt_18 rfl (lv_at hl 2 rfl) ?_
    replace h := zk_some h
    obtain ⟨c9, h⟩ := h
    refine zr_aaldv (k := 158) (by decide) rfl rfl (zlen_d (by decide)) F (zal_a F (hy7 _ rfl) (j := 28) rfl) hr dX19_endAt_19 c9 (fun y10 ey10 => ?_)
    replace h := zl_sub ey10 h
    have hy10 := zal_q hr (zal_a F (hy7 _ rfl) (j := 28) rfl) rfl ey10
    clear ey10
    replace h := zd_some h
    obtain ⟨a11, rfl, h⟩ := h
    refine gf19_350 F (hy10 _ rfl) hr dX19_endAt_20 ?_
    refine lv_if_eq (tgt := 43) F.1 F.2.1 dX19_endAt_23 (by decide) (fun c12 => ?_) (fun c12 => ?_)
    · replace h := zi_t c12 h
      refine lv_null F.1 F.2.1 dX19_endAt_43 ?_
      obtain ⟨rfl, rfl⟩ := zret h
      exact E _ _ _ _ dX19_endAt_44 zal_0 hr
    · replace h := zi_f c12 h
      refine lv_aload_n F.1 F.2.1 dX19_endAt_26 rfl (lv_at hl 0 rfl) ?_
      refine gf19_114 F hx0 hr dX19_endAt_27 ?_
      refine lv_iload_n F.1 F.2.1 dX19_endAt_30 rfl (lv_at hl 1 rfl) ?_
      replace h := zk_some h
      obtain ⟨c13, h⟩ := h
      refine zr_aaldv (k := 186) (by decide) rfl rfl (zlen_d (by decide)) F (zal_a F hx0 (j := 18) rfl) hr dX19_endAt_31 c13 (fun y14 ey14 => ?_)
      replace h := zl_sub ey14 h
      have hy14 := zal_q hr (zal_a F hx0 (j := 18) rfl) rfl ey14
      clear ey14
      replace h := zd_some h
      obtain ⟨a15, rfl, h⟩ := h
      refine gf19_340 F (hy14 _ rfl) hr dX19_endAt_32 ?_
      refine lv_iload_n F.1 F.2.1 dX19_endAt_35 rfl (lv_at hl 2 rfl) ?_
      replace h := zk_some h
      obtain ⟨c16, h⟩ := h
      refine zr_aaldv (k := 158) (by decide) rfl rfl (zlen_d (by decide)) F (zal_a F (hy14 _ rfl) (j := 28) rfl) hr dX19_endAt_36 c16 (fun y17 ey17 => ?_)
      replace h := zl_sub ey17 h
      have hy17 := zal_q hr (zal_a F (hy14 _ rfl) (j := 28) rfl) rfl ey17
      clear ey17
      replace h := zd_some h
      obtain ⟨a18, rfl, h⟩ := h
      refine gf19_344 F (hy17 _ rfl) hr dX19_endAt_37 (fun y19 ey19 => ?_)
      replace h := zl_sub ey19 h
      have hy19 := zal_g hr (hy17 _ rfl) (j := 4) rfl ey19
      clear ey19
      refine lv_goto (tgt := 44) F.1 F.2.1 dX19_endAt_40 (by decide) ?_
      obtain ⟨rfl, rfl⟩ := zret h
      exact E _ _ _ _ dX19_endAt_44 hy19 hr
end SX19_endAt
set_option maxRecDepth 100000 in
theorem okX19_endAt (l : Launch) (D : va_G) (cy : Nat → ClassId) (B : Nat → Nat → Nat) (ids : List (Nat × Nat)) (hst : zSt B ids) (N : Nat) (x0 : Nat) (hx0 : (19, x0) ∈ ids) (x1 : Int32) (x2 : Int32) {z : St} {r : Option Nat} {z' : St} (hW : zWf ids z) (h : fX19_endAt N x0 x1 x2 z = some (r, z')) : zM l yX19_endAt (zws yX19_endAt cX19_endAt 3 (some (.object "WholeInternetModel$End"))) rmX19_endAt D cy B ids [.ref (B 19 x0), .int x1, .int x2] (some (va_rf (r.map (B 14)))) (∀ i, r = some i → (14, i) ∈ ids) z z' :=
  zM_of hst hW (by decide +kernel) (Nat.le_of_ble_eq_true rfl) (fun p e s m args below meth c A ls F hA hret hlocks hr hl => bX19_endAt_0 hst F hA (zEnd_r F hret hlocks) x0 x1 x2 hx0 hr hl h)
abbrev rmX19_writes : Room := { frames := 2, cells := 0, slots := 0, locals := 42 }
theorem hdX19_writes : yX19_writes.cls ≠ "java/lang/invoke/MethodHandle" ∧ yX19_writes.cls ≠ "java/lang/invoke/VarHandle" ∧ (parseMethodDescriptor yX19_writes.desc).map (fun d => d.parameters.length) = some 2 := by decide +kernel
theorem hroX19_writes_X14_unthanked : rmX14_unthanked.frames + 1 ≤ rmX19_writes.frames ∧ 8 + (2 + 11) + rmX14_unthanked.locals ≤ rmX19_writes.locals := by decide
theorem hroX19_writes_X19_writeDown : rmX19_writeDown.frames + 1 ≤ rmX19_writes.frames ∧ 8 + (6 + 11) + rmX19_writeDown.locals ≤ rmX19_writes.locals := by decide
section SX19_writes
variable {p : Program} {l : Launch} {e : Env} {s : State} {m : MethodId} {args : Array Value} {below : List Frame} {meth : Method} {c : Code} {Q : State → Prop} {D : va_G} {cy : Nat → ClassId} {B : Nat → Nat → Nat} {ids : List (Nat × Nat)} {A : Nat → Prop}
def fX19_writes (N : Nat)  (x0 : Nat) (x1 : Nat) (x2 : Int32) (z : St) : Option (Int32 × St) := zc (fX14_unthanked N x1 z) fun r1 z2 => if ¬ r1 = (2048 : Int32) then (zk (((zgI z2 14 8 x1) - ((zgI z2 14 5 x1) + (1 : Int32))) &&& (2047 : Int32)) 2048 <| zl (zsA z2 159 x1 (Int32.toNatClampNeg (((zgI z2 14 8 x1) - ((zgI z2 14 5 x1) + (1 : Int32))) &&& (2047 : Int32))) (vp_nar .byte ((Int32.toInt8 x2).toInt32))) fun z7 => zl (zsI z7 14 8 x1 ((zgI z7 14 8 x1) + (1 : Int32))) fun z8 => zc (fX19_writeDown N x0 (zgI z8 14 44 x1) x2 z8) fun _ z10 => some ((1 : Int32), z10)) else (some ((0 : Int32), z2))
set_option maxHeartbeats 4000000 in
set_option maxRecDepth 100000 in
theorem bX19_writes_0 (hst : zSt B ids) (F : zFx p m c cX19_writes 3 s args RX19 D cy B ids A) (hA : ∀ q : Nat, s.heap.size ≤ q → A q) {r : Int32} {z' : St} (E : zEnd p l e rmX19_writes s m args below meth c cX19_writes D cy B ids A Q (some (.int r)) z' .ireturn (r = 0 ∨ r = 1)) {N : Nat}  (x0 : Nat) (x1 : Nat) (x2 : Int32) (hx0 : (19, x0) ∈ ids) (hx1 : (14, x1) ∈ ids) {z : St} {H : Heap} {locs : List Loc} {ls : Array Slot} (hr : zRep D cy B ids A s.heap z H locs) (hl : lv_has ls 3 [(0, .ref (B 19 x0)), (1, .ref (B 14 x1)), (2, .int x2)]) (h : fX19_writes N x0 x1 x2 z = some (r, z')) : W p l e rmX19_writes s m args below meth c H locs 0 0 Q (F0 m 0 ls []) := by
  unfold fX19_writes at h
  refine lv_aload_n F.1 F.2.1 dX19_writes_0 rfl (lv_at hl 1 rfl) ?_
  replace h := zc_some h
  obtain ⟨r1, z2, hc3, h⟩ := h
  refine zr_calli (zrun_VN (As := []) (rest := []) zn_3033 zq_3035 zs_X14_unthanked zq_3036 zq_21 hdX14_unthanked (by decide) (T := TX14) (N := 47) rfl (okX14_unthanked l D cy B ids hst N x1 hx1 hr.2.2 hc3) F hr hx1 hl.1 rfl (by decide) dX19_writes_1 rfl rfl hroX19_writes_X14_unthanked ⟨Nat.zero_le _, Nat.zero_le _⟩) F hA hr (fun H locs hw4 hr => ?_)
  clear hc3
  refine lv_sipush (v := (2048 : Int32)) F.1 F.2.1 dX19_writes_4 (by decide) ?_
  refine lv_icmp_ne (tgt := 12) F.1 F.2.1 dX19_writes_7 (by decide) (fun c5 => ?_) (fun c5 => ?_)
  · replace h := zi_t c5 h
    refine lv_aload_n F.1 F.2.1 dX19_writes_12 rfl (lv_at hl 1 rfl) ?_
    refine gf19_688 F hx1 hr dX19_writes_13 ?_
    refine lv_aload_n F.1 F.2.1 dX19_writes_16 rfl (lv_at hl 1 rfl) ?_
    refine gf19_658 F hx1 hr dX19_writes_17 ?_
    refine lv_aload_n F.1 F.2.1 dX19_writes_20 rfl (lv_at hl 1 rfl) ?_
    refine gf19_588 F hx1 hr dX19_writes_21 ?_
    refine lv_iconst (v := (1 : Int32)) F.1 F.2.1 dX19_writes_24 (by decide) ?_
    refine lv_iadd F.1 F.2.1 dX19_writes_25 ?_
    refine lv_isub F.1 F.2.1 dX19_writes_26 ?_
    refine lv_sipush (v := (2047 : Int32)) F.1 F.2.1 dX19_writes_27 (by decide) ?_
    refine lv_iand F.1 F.2.1 dX19_writes_30 ?_
    refine lv_iload_n F.1 F.2.1 dX19_writes_31 rfl (lv_at hl 2 rfl) ?_
    refine lv_i2b F.1 F.2.1 dX19_writes_32 rfl ?_
    replace h := zk_some h
    obtain ⟨c6, h⟩ := h
    refine zr_bast (k := 159) (by decide) rfl (by decide) F (zal_a F hx1 (j := 10) rfl) hr dX19_writes_33 c6 (fun H locs z7 ez7 hr => ?_)
    replace h := zl_sub ez7 h
    clear ez7
    refine lv_aload_n F.1 F.2.1 dX19_writes_34 rfl (lv_at hl 1 rfl) ?_
    refine lv_dup F.1 F.2.1 dX19_writes_35 rfl ?_
    refine gf19_658 F hx1 hr dX19_writes_36 ?_
    refine lv_iconst (v := (1 : Int32)) F.1 F.2.1 dX19_writes_39 (by decide) ?_
    refine lv_iadd F.1 F.2.1 dX19_writes_40 ?_
    refine pf19_658 F hx1 hr dX19_writes_41 ((zgI z7 14 8 x1) + (1 : Int32)) (fun H locs z8 ez8 hr => ?_)
    replace h := zl_sub ez8 h
    clear ez8
    refine lv_aload_n F.1 F.2.1 dX19_writes_44 rfl (lv_at hl 0 rfl) ?_
    refine lv_aload_n F.1 F.2.1 dX19_writes_45 rfl (lv_at hl 1 rfl) ?_
    refine gf19_732 F hx1 hr dX19_writes_46 ?_
    refine lv_iload_n F.1 F.2.1 dX19_writes_49 rfl (lv_at hl 2 rfl) ?_
    replace h := zc_some h
    obtain ⟨r9, z10, hc11, h⟩ := h
    refine zr_callv (zrun_V (As := [.int (zgI z8 14 44 x1), .int x2]) (rest := []) zq_3037 zq_3039 zs_X19_writeDown zq_3040 zq_4 hdX19_writeDown (by decide) (T := TX19) (N := 32) rfl (okX19_writeDown l D cy B ids hst N x0 hx0 (zgI z8 14 44 x1)  x2  hr.2.2 hc11) F hr hx0 hl.1 rfl (by decide) dX19_writes_50 rfl rfl hroX19_writes_X19_writeDown ⟨Nat.zero_le _, Nat.zero_le _⟩) F hA hr (fun H locs hw12 hr => ?_)
    clear hc11
    refine lv_iconst (v := (1 : Int32)) F.1 F.2.1 dX19_writes_53 (by decide) ?_
    obtain ⟨rfl, rfl⟩ := zret h
    exact E _ _ _ _ dX19_writes_54 (by decide) hr
  · replace h := zi_f (fun q => q c5) h
    refine lv_iconst (v := (0 : Int32)) F.1 F.2.1 dX19_writes_10 (by decide) ?_
    obtain ⟨rfl, rfl⟩ := zret h
    exact E _ _ _ _ dX19_writes_11 (by decide) hr
end SX19_writes
set_option maxRecDepth 100000 in
theorem okX19_writes (l : Launch) (D : va_G) (cy : Nat → ClassId) (B : Nat → Nat → Nat) (ids : List (Nat × Nat)) (hst : zSt B ids) (N : Nat) (x0 : Nat) (hx0 : (19, x0) ∈ ids) (x1 : Nat) (hx1 : (14, x1) ∈ ids) (x2 : Int32) {z : St} {r : Int32} {z' : St} (hW : zWf ids z) (h : fX19_writes N x0 x1 x2 z = some (r, z')) : zM l yX19_writes (zws yX19_writes cX19_writes 3 (some .boolean)) rmX19_writes D cy B ids [.ref (B 19 x0), .ref (B 14 x1), .int x2] (some (.int r)) (r = 0 ∨ r = 1) z z' :=
  zM_of hst hW (by decide +kernel) (Nat.le_of_ble_eq_true rfl) (fun p e s m args below meth c A ls F hA hret hlocks hr hl => bX19_writes_0 hst F hA (zEnd_z F hret hlocks) x0 x1 x2 hx0 hx1 hr hl h)
abbrev rmX19_write : Room := { frames := 4, cells := 0, slots := 0, locals := 86 }
theorem hdX19_write : yX19_write.cls ≠ "java/lang/invoke/MethodHandle" ∧ yX19_write.cls ≠ "java/lang/invoke/VarHandle" ∧ (parseMethodDescriptor yX19_write.desc).map (fun d => d.parameters.length) = some 4 := by decide +kernel
theorem hroX19_write_X14_canWrite : rmX14_canWrite.frames + 1 ≤ rmX19_write.frames ∧ 8 + (1 + 11) + rmX14_canWrite.locals ≤ rmX19_write.locals := by decide
theorem hroX19_write_X14_persist : rmX14_persist.frames + 1 ≤ rmX19_write.frames ∧ 8 + (2 + 11) + rmX14_persist.locals ≤ rmX19_write.locals := by decide
theorem hroX19_write_X19_endAt : rmX19_endAt.frames + 1 ≤ rmX19_write.frames ∧ 8 + (3 + 11) + rmX19_endAt.locals ≤ rmX19_write.locals := by decide
theorem hroX19_write_X19_fails : rmX19_fails.frames + 1 ≤ rmX19_write.frames ∧ 8 + (3 + 11) + rmX19_fails.locals ≤ rmX19_write.locals := by decide
theorem hroX19_write_X19_isDoor : rmX19_isDoor.frames + 1 ≤ rmX19_write.frames ∧ 8 + (3 + 11) + rmX19_isDoor.locals ≤ rmX19_write.locals := by decide
theorem hroX19_write_X19_stir : rmX19_stir.frames + 1 ≤ rmX19_write.frames ∧ 8 + (1 + 11) + rmX19_stir.locals ≤ rmX19_write.locals := by decide
theorem hroX19_write_X19_writes : rmX19_writes.frames + 1 ≤ rmX19_write.frames ∧ 8 + (3 + 11) + rmX19_writes.locals ≤ rmX19_write.locals := by decide
section SX19_write
variable {p : Program} {l : Launch} {e : Env} {s : State} {m : MethodId} {args : Array Value} {below : List Frame} {meth : Method} {c : Code} {Q : State → Prop} {D : va_G} {cy : Nat → ClassId} {B : Nat → Nat → Nat} {ids : List (Nat × Nat)} {A : Nat → Prop}
def fX19_write_100 (N : Nat)  (x0 : Nat) (x6 : Option Nat) (x7 : Int32) (z : St) : Option (Int32 × St) := zd x6 fun a1 => zc (fX14_persist N a1 (zgI z 19 24 x0) z) fun _ z3 => zc (fX19_stir N x0 z3) fun _ z7 => some (x7, z7)
set_option maxHeartbeats 4000000 in
set_option maxRecDepth 100000 in
theorem bX19_write_100 (hst : zSt B ids) (F : zFx p m c cX19_write 8 s args RX19 D cy B ids A) (hA : ∀ q : Nat, s.heap.size ≤ q → A q) {r : Int32} {z' : St} (E : zEnd p l e rmX19_write s m args below meth c cX19_write D cy B ids A Q (some (.int r)) z' .ireturn True) {N : Nat}  (x0 : Nat) (x6 : Option Nat) (x7 : Int32) (hx0 : (19, x0) ∈ ids) (hx6 : ∀ t, x6 = some t → (14, t) ∈ ids) {z : St} {H : Heap} {locs : List Loc} {ls : Array Slot} (hr : zRep D cy B ids A s.heap z H locs) (hl : lv_has ls 8 [(0, .ref (B 19 x0)), (6, va_rf (Option.map (B 14) x6)), (7, .int x7)]) (h : fX19_write_100 N x0 x6 x7 z = some (r, z')) : W p l e rmX19_write s m args below meth c H locs 0 0 Q (F0 m 100 ls []) := by
  unfold fX19_write_100 at h
  refine zr_aload F.1 F.2.1 dX19_write_100 (lv_at hl 1 rfl) ?_
  refine lv_aload_n F.1 F.2.1 dX19_write_102 rfl (lv_at hl 0 rfl) ?_
  refine gf19_143 F hx0 hr dX19_write_103 ?_
  replace h := zd_some h
  obtain ⟨a1, rfl, h⟩ := h
  replace h := zc_some h
  obtain ⟨r2, z3, hc4, h⟩ := h
  refine zr_callv (zrun_VN (As := [.int (zgI z 19 24 x0)]) (rest := []) zn_2973 zq_2975 zs_X14_persist zq_2976 zq_21 hdX14_persist (by decide) (T := TX14) (N := 47) rfl (okX14_persist l D cy B ids hst N a1 (hx6 _ rfl) (zgI z 19 24 x0)  hr.2.2 hc4) F hr (hx6 _ rfl) hl.1 rfl (by decide) dX19_write_106 rfl rfl hroX19_write_X14_persist ⟨Nat.zero_le _, Nat.zero_le _⟩) F hA hr (fun H locs hw5 hr => ?_)
  clear hc4
  refine lv_aload_n F.1 F.2.1 dX19_write_109 rfl (lv_at hl 0 rfl) ?_
  replace h := zc_some h
  obtain ⟨r6, z7, hc8, h⟩ := h
  refine zr_callv (zrun_V (As := []) (rest := []) zq_2394 zq_2396 zs_X19_stir zq_2397 zq_4 hdX19_stir (by decide) (T := TX19) (N := 32) rfl (okX19_stir l D cy B ids hst N x0 hx0 hr.2.2 hc8) F hr hx0 hl.1 rfl (by decide) dX19_write_110 rfl rfl hroX19_write_X19_stir ⟨Nat.zero_le _, Nat.zero_le _⟩) F hA hr (fun H locs hw9 hr => ?_)
  clear hc8
  refine lv_iload F.1 F.2.1 dX19_write_113 (lv_at hl 2 rfl) ?_
  obtain ⟨rfl, rfl⟩ := zret h
  exact E _ _ _ _ dX19_write_115 trivial hr
def fX19_write_65b (N : Nat) (K65 : Nat → Int64 → Int32 → Option Nat → Int32 → St → Option (Int32 × St)) (x0 : Nat) (x3 : Int64) (x5 : Int32) (x6 : Option Nat) (x7 : Int32) (z : St) : Option (Int32 × St) := if x5 ≤ x7 then (fX19_write_100 N x0 x6 x7 z) else (zd x6 fun a2 => zc (fX19_writes N x0 a2 (Int64.toInt32 (x3 >>> ((((8 : Int32) * ((x5 - (1 : Int32)) - x7))).toInt64 &&& 63))) z) fun r3 z4 => if r3 = 0 then (fX19_write_100 N x0 (some a2) x7 z4) else (zl (x7 + 1) fun v8 => K65 x0 x3 x5 (some a2) v8 z4))
def fX19_write_65 (N : Nat)  : Nat → Nat → Int64 → Int32 → Option Nat → Int32 → St → Option (Int32 × St)
  | 0 => fun _ _ _ _ _ _ => none
  | n + 1 => fX19_write_65b N (fX19_write_65 N  n)
set_option maxHeartbeats 4000000 in
set_option maxRecDepth 100000 in
theorem bX19_write_65 (hst : zSt B ids) (F : zFx p m c cX19_write 8 s args RX19 D cy B ids A) (hA : ∀ q : Nat, s.heap.size ≤ q → A q) {r : Int32} {z' : St} (E : zEnd p l e rmX19_write s m args below meth c cX19_write D cy B ids A Q (some (.int r)) z' .ireturn True) {N : Nat} {K65 : Nat → Int64 → Int32 → Option Nat → Int32 → St → Option (Int32 × St)} (hK65 : ∀ (x0 : Nat) (x3 : Int64) (x5 : Int32) (x6 : Option Nat) (x7 : Int32) (hx0 : (19, x0) ∈ ids) (hx6 : ∀ t, x6 = some t → (14, t) ∈ ids) {z : St} {H : Heap} {locs : List Loc} {ls : Array Slot} (hr : zRep D cy B ids A s.heap z H locs) (hl : lv_has ls 8 [(0, .ref (B 19 x0)), (3, .long x3), (5, .int x5), (6, va_rf (Option.map (B 14) x6)), (7, .int x7)]), K65 x0 x3 x5 x6 x7 z = some (r, z') → W p l e rmX19_write s m args below meth c H locs 0 0 Q (F0 m 65 ls [])) (x0 : Nat) (x3 : Int64) (x5 : Int32) (x6 : Option Nat) (x7 : Int32) (hx0 : (19, x0) ∈ ids) (hx6 : ∀ t, x6 = some t → (14, t) ∈ ids) {z : St} {H : Heap} {locs : List Loc} {ls : Array Slot} (hr : zRep D cy B ids A s.heap z H locs) (hl : lv_has ls 8 [(0, .ref (B 19 x0)), (3, .long x3), (5, .int x5), (6, va_rf (Option.map (B 14) x6)), (7, .int x7)]) (h : fX19_write_65b N K65 x0 x3 x5 x6 x7 z = some (r, z')) : W p l e rmX19_write s m args below meth c H locs 0 0 Q (F0 m 65 ls []) := by
  unfold fX19_write_65b at h
  refine lv_iload F.1 F.2.1 dX19_write_65 (lv_at hl 4 rfl) ?_
  refine lv_iload F.1 F.2.1 dX19_write_67 (lv_at hl 2 rfl) ?_
  refine lv_icmp_ge (tgt := 100) F.1 F.2.1 dX19_write_69 (by decide) (fun c1 => ?_) (fun c1 => ?_)
  · replace h := zi_t c1 h
    exact bX19_write_100 hst F hA E  x0 x6 x7 hx0 hx6 hr (lv_sub hl [0, 3, 4] rfl) h
  · replace h := zi_f c1 h
    refine lv_aload_n F.1 F.2.1 dX19_write_72 rfl (lv_at hl 0 rfl) ?_
    refine zr_aload F.1 F.2.1 dX19_write_73 (lv_at hl 3 rfl) ?_
    refine lv_lload_n F.1 F.2.1 dX19_write_75 rfl (lv_at hl 1 rfl) ?_
    refine lv_bipush (v := (8 : Int32)) F.1 F.2.1 dX19_write_76 (by decide) ?_
    refine lv_iload F.1 F.2.1 dX19_write_78 (lv_at hl 2 rfl) ?_
    refine lv_iconst (v := (1 : Int32)) F.1 F.2.1 dX19_write_80 (by decide) ?_
    refine lv_isub F.1 F.2.1 dX19_write_81 ?_
    refine lv_iload F.1 F.2.1 dX19_write_82 (lv_at hl 4 rfl) ?_
    refine lv_isub F.1 F.2.1 dX19_write_84 ?_
    refine lv_imul F.1 F.2.1 dX19_write_85 ?_
    refine lv_lshr F.1 F.2.1 dX19_write_86 rfl ?_
    refine lv_l2i F.1 F.2.1 dX19_write_87 rfl ?_
    replace h := zd_some h
    obtain ⟨a2, rfl, h⟩ := h
    replace h := zc_some h
    obtain ⟨r3, z4, hc5, h⟩ := h
    refine zr_calli (zrun_V (As := [.ref (B 14 a2), .int (Int64.toInt32 (x3 >>> ((((8 : Int32) * ((x5 - (1 : Int32)) - x7))).toInt64 &&& 63)))]) (rest := []) zq_3029 zq_3031 zs_X19_writes zq_3032 zq_4 hdX19_writes (by decide) (T := TX19) (N := 32) rfl (okX19_writes l D cy B ids hst N x0 hx0 a2 (hx6 _ rfl) (Int64.toInt32 (x3 >>> ((((8 : Int32) * ((x5 - (1 : Int32)) - x7))).toInt64 &&& 63)))  hr.2.2 hc5) F hr hx0 hl.1 rfl (by decide) dX19_write_88 rfl rfl hroX19_write_X19_writes ⟨Nat.zero_le _, Nat.zero_le _⟩) F hA hr (fun H locs hw6 hr => ?_)
    clear hc5
    refine lv_if_eq (tgt := 100) F.1 F.2.1 dX19_write_91 (by decide) (fun c7 => ?_) (fun c7 => ?_)
    · replace h := zi_t c7 h
      exact bX19_write_100 hst F hA E  x0 (some a2) x7 hx0 (zal_s (hx6 _ rfl)) hr (lv_sub hl [0, 3, 4] rfl) h
    · replace h := zi_f c7 h
      obtain ⟨v8, ev8⟩ : ∃ y : Int32, y = (x7 + 1) := ⟨_, rfl⟩
      replace h := zl_sub ev8 h
      refine lv_iinc (v := v8) (lv' := [(7, .int v8), (0, .ref (B 19 x0)), (3, .long x3), (5, .int x5), (6, .ref (B 14 a2))]) F.1 F.2.1 dX19_write_94 hl (k := 4) rfl (by rw [ev8]; rfl) (by decide) rfl (fun ls hl => ?_)
      refine lv_goto (tgt := 65) F.1 F.2.1 dX19_write_97 (by decide) ?_
      exact hK65 x0 x3 x5 (some a2) v8 hx0 (zal_s (hx6 _ rfl)) hr (lv_sub hl [1, 2, 3, 4, 0] rfl) h
theorem lX19_write_65 (hst : zSt B ids) (F : zFx p m c cX19_write 8 s args RX19 D cy B ids A) (hA : ∀ q : Nat, s.heap.size ≤ q → A q) {r : Int32} {z' : St} (E : zEnd p l e rmX19_write s m args below meth c cX19_write D cy B ids A Q (some (.int r)) z' .ireturn True) {N : Nat}  : ∀ (n : Nat) (x0 : Nat) (x3 : Int64) (x5 : Int32) (x6 : Option Nat) (x7 : Int32) (hx0 : (19, x0) ∈ ids) (hx6 : ∀ t, x6 = some t → (14, t) ∈ ids) {z : St} {H : Heap} {locs : List Loc} {ls : Array Slot} (hr : zRep D cy B ids A s.heap z H locs) (hl : lv_has ls 8 [(0, .ref (B 19 x0)), (3, .long x3), (5, .int x5), (6, va_rf (Option.map (B 14) x6)), (7, .int x7)]), fX19_write_65 N  n x0 x3 x5 x6 x7 z = some (r, z') → W p l e rmX19_write s m args below meth c H locs 0 0 Q (F0 m 65 ls []) := by
  intro n
  induction n with
  | zero => intro x0 x3 x5 x6 x7 hx0 hx6 z H locs ls hr hl h; cases h
  | succ n ih => intro x0 x3 x5 x6 x7 hx0 hx6 z H locs ls hr hl h; exact bX19_write_65 hst F hA E ih x0 x3 x5 x6 x7 hx0 hx6 hr hl h
def fX19_write_54 (N : Nat)  (x0 : Nat) (x3 : Int64) (x5 : Int32) (x6 : Option Nat) (s0 : Nat) (s1 : Int32) (s2 : Int32) (z : St) : Option (Int32 × St) := zc (fX19_fails N s0 s1 s2 z) fun r1 z2 => if r1 = 0 then (fX19_write_65 N N x0 x3 x5 x6 (0 : Int32) z2) else (some ((0 : Int32), z2))
set_option maxHeartbeats 4000000 in
set_option maxRecDepth 100000 in
theorem bX19_write_54 (hst : zSt B ids) (F : zFx p m c cX19_write 8 s args RX19 D cy B ids A) (hA : ∀ q : Nat, s.heap.size ≤ q → A q) {r : Int32} {z' : St} (E : zEnd p l e rmX19_write s m args below meth c cX19_write D cy B ids A Q (some (.int r)) z' .ireturn True) {N : Nat}  (x0 : Nat) (x3 : Int64) (x5 : Int32) (x6 : Option Nat) (s0 : Nat) (s1 : Int32) (s2 : Int32) (hx0 : (19, x0) ∈ ids) (hx6 : ∀ t, x6 = some t → (14, t) ∈ ids) (hs0 : (19, s0) ∈ ids) {z : St} {H : Heap} {locs : List Loc} {ls : Array Slot} (hr : zRep D cy B ids A s.heap z H locs) (hl : lv_has ls 8 [(0, .ref (B 19 x0)), (3, .long x3), (5, .int x5), (6, va_rf (Option.map (B 14) x6))]) (h : fX19_write_54 N x0 x3 x5 x6 s0 s1 s2 z = some (r, z')) : W p l e rmX19_write s m args below meth c H locs 0 0 Q (F0 m 54 ls [.int s2, .int s1, .ref (B 19 s0)]) := by
  unfold fX19_write_54 at h
  replace h := zc_some h
  obtain ⟨r1, z2, hc3, h⟩ := h
  refine zr_calli (zrun_V (As := [.int s1, .int s2]) (rest := []) zq_2402 zq_2404 zs_X19_fails zq_2405 zq_4 hdX19_fails (by decide) (T := TX19) (N := 32) rfl (okX19_fails l D cy B ids hst N s0 hs0 s1  s2  hr.2.2 hc3) F hr hs0 hl.1 rfl (by decide) dX19_write_54 rfl rfl hroX19_write_X19_fails ⟨Nat.zero_le _, Nat.zero_le _⟩) F hA hr (fun H locs hw4 hr => ?_)
  clear hc3
  refine lv_if_eq (tgt := 62) F.1 F.2.1 dX19_write_57 (by decide) (fun c5 => ?_) (fun c5 => ?_)
  · replace h := zi_t c5 h
    refine lv_iconst (v := (0 : Int32)) F.1 F.2.1 dX19_write_62 (by decide) ?_
    refine lv_istore (lv' := [(7, .int (0 : Int32)), (0, .ref (B 19 x0)), (3, .long x3), (5, .int x5), (6, va_rf (Option.map (B 14) x6))]) F.1 F.2.1 dX19_write_63 hl (by decide) (by simp only [List.filter, zrf_cat]; rfl) (fun ls hl => ?_)
    exact lX19_write_65 hst F hA E  _ x0 x3 x5 x6 (0 : Int32) hx0 hx6 hr (lv_sub hl [1, 2, 3, 4, 0] rfl) h
  · replace h := zi_f c5 h
    refine lv_iconst (v := (0 : Int32)) F.1 F.2.1 dX19_write_60 (by decide) ?_
    obtain ⟨rfl, rfl⟩ := zret h
    exact E _ _ _ _ dX19_write_61 trivial hr
def fX19_write_49 (N : Nat)  (x0 : Nat) (x3 : Int64) (x5 : Int32) (x6 : Option Nat) (s0 : Nat) (s1 : Int32) (z : St) : Option (Int32 × St) := fX19_write_54 N x0 x3 x5 x6 s0 s1 (1 : Int32) z
set_option maxHeartbeats 4000000 in
set_option maxRecDepth 100000 in
theorem bX19_write_49 (hst : zSt B ids) (F : zFx p m c cX19_write 8 s args RX19 D cy B ids A) (hA : ∀ q : Nat, s.heap.size ≤ q → A q) {r : Int32} {z' : St} (E : zEnd p l e rmX19_write s m args below meth c cX19_write D cy B ids A Q (some (.int r)) z' .ireturn True) {N : Nat}  (x0 : Nat) (x3 : Int64) (x5 : Int32) (x6 : Option Nat) (s0 : Nat) (s1 : Int32) (hx0 : (19, x0) ∈ ids) (hx6 : ∀ t, x6 = some t → (14, t) ∈ ids) (hs0 : (19, s0) ∈ ids) {z : St} {H : Heap} {locs : List Loc} {ls : Array Slot} (hr : zRep D cy B ids A s.heap z H locs) (hl : lv_has ls 8 [(0, .ref (B 19 x0)), (3, .long x3), (5, .int x5), (6, va_rf (Option.map (B 14) x6))]) (h : fX19_write_49 N x0 x3 x5 x6 s0 s1 z = some (r, z')) : W p l e rmX19_write s m args below meth c H locs 0 0 Q (F0 m 49 ls [.int s1, .ref (B 19 s0)]) := by
  unfold fX19_write_49 at h
  refine lv_iconst (v := (1 : Int32)) F.1 F.2.1 dX19_write_49 (by decide) ?_
  refine lv_goto (tgt := 54) F.1 F.2.1 dX19_write_50 (by decide) ?_
  exact bX19_write_54 hst F hA E  x0 x3 x5 x6 s0 s1 (1 : Int32) hx0 hx6 hs0 hr (lv_sub hl [0, 1, 2, 3] rfl) h
def fX19_write_36 (N : Nat)  (x0 : Nat) (x3 : Int64) (x5 : Int32) (x6 : Option Nat) (s0 : Nat) (s1 : Int32) (z : St) : Option (Int32 × St) := zo x6 (fX19_write_49 N x0 x3 x5 none s0 s1 z) fun a2 => zc (fX14_canWrite N a2 z) fun r3 z4 => if ¬ r3 = 0 then (fX19_write_54 N x0 x3 x5 (some a2) s0 s1 (0 : Int32) z4) else (fX19_write_49 N x0 x3 x5 (some a2) s0 s1 z4)
set_option maxHeartbeats 4000000 in
set_option maxRecDepth 100000 in
theorem bX19_write_36 (hst : zSt B ids) (F : zFx p m c cX19_write 8 s args RX19 D cy B ids A) (hA : ∀ q : Nat, s.heap.size ≤ q → A q) {r : Int32} {z' : St} (E : zEnd p l e rmX19_write s m args below meth c cX19_write D cy B ids A Q (some (.int r)) z' .ireturn True) {N : Nat}  (x0 : Nat) (x3 : Int64) (x5 : Int32) (x6 : Option Nat) (s0 : Nat) (s1 : Int32) (hx0 : (19, x0) ∈ ids) (hx6 : ∀ t, x6 = some t → (14, t) ∈ ids) (hs0 : (19, s0) ∈ ids) {z : St} {H : Heap} {locs : List Loc} {ls : Array Slot} (hr : zRep D cy B ids A s.heap z H locs) (hl : lv_has ls 8 [(0, .ref (B 19 x0)), (3, .long x3), (5, .int x5), (6, va_rf (Option.map (B 14) x6))]) (h : fX19_write_36 N x0 x3 x5 x6 s0 s1 z = some (r, z')) : W p l e rmX19_write s m args below meth c H locs 0 0 Q (F0 m 36 ls [.int s1, .ref (B 19 s0)]) := by
  unfold fX19_write_36 at h
  refine zr_aload F.1 F.2.1 dX19_write_36 (lv_at hl 3 rfl) ?_
  refine zr_ifnull (tgt := 49) F.1 F.2.1 dX19_write_38 (by decide) (fun e1 => ?_) (fun a2 e1 => ?_)
  · replace h := zo_n e1 h
    subst e1
    exact bX19_write_49 hst F hA E  x0 x3 x5 none s0 s1 hx0 zal_0 hs0 hr (lv_sub hl [0, 1, 2, 3] rfl) h
  · replace h := zo_s e1 h
    subst e1
    refine lv_aload F.1 F.2.1 dX19_write_41 (lv_at hl 3 rfl) ?_
    replace h := zc_some h
    obtain ⟨r3, z4, hc5, h⟩ := h
    refine zr_calli (zrun_VN (As := []) (rest := [.int s1, .ref (B 19 s0)]) zn_3024 zq_3026 zs_X14_canWrite zq_3027 zq_21 hdX14_canWrite (by decide) (T := TX14) (N := 47) rfl (okX14_canWrite l D cy B ids hst N a2 (hx6 _ rfl) hr.2.2 hc5) F hr (hx6 _ rfl) hl.1 rfl (Nat.le_of_ble_eq_true rfl) dX19_write_43 rfl rfl hroX19_write_X14_canWrite ⟨Nat.zero_le _, Nat.zero_le _⟩) F hA hr (fun H locs hw6 hr => ?_)
    clear hc5
    refine lv_if_ne (tgt := 53) F.1 F.2.1 dX19_write_46 (by decide) (fun c7 => ?_) (fun c7 => ?_)
    · replace h := zi_t c7 h
      refine lv_iconst (v := (0 : Int32)) F.1 F.2.1 dX19_write_53 (by decide) ?_
      exact bX19_write_54 hst F hA E  x0 x3 x5 (some a2) s0 s1 (0 : Int32) hx0 (zal_s (hx6 _ rfl)) hs0 hr (lv_sub hl [0, 1, 2, 3] rfl) h
    · replace h := zi_f (fun q => q c7) h
      exact bX19_write_49 hst F hA E  x0 x3 x5 (some a2) s0 s1 hx0 (zal_s (hx6 _ rfl)) hs0 hr (lv_sub hl [0, 1, 2, 3] rfl) h
def fX19_write_31 (N : Nat)  (x0 : Nat) (x3 : Int64) (x5 : Int32) (x6 : Option Nat) (s0 : Nat) (z : St) : Option (Int32 × St) := fX19_write_36 N x0 x3 x5 x6 s0 (1 : Int32) z
set_option maxHeartbeats 4000000 in
set_option maxRecDepth 100000 in
theorem bX19_write_31 (hst : zSt B ids) (F : zFx p m c cX19_write 8 s args RX19 D cy B ids A) (hA : ∀ q : Nat, s.heap.size ≤ q → A q) {r : Int32} {z' : St} (E : zEnd p l e rmX19_write s m args below meth c cX19_write D cy B ids A Q (some (.int r)) z' .ireturn True) {N : Nat}  (x0 : Nat) (x3 : Int64) (x5 : Int32) (x6 : Option Nat) (s0 : Nat) (hx0 : (19, x0) ∈ ids) (hx6 : ∀ t, x6 = some t → (14, t) ∈ ids) (hs0 : (19, s0) ∈ ids) {z : St} {H : Heap} {locs : List Loc} {ls : Array Slot} (hr : zRep D cy B ids A s.heap z H locs) (hl : lv_has ls 8 [(0, .ref (B 19 x0)), (3, .long x3), (5, .int x5), (6, va_rf (Option.map (B 14) x6))]) (h : fX19_write_31 N x0 x3 x5 x6 s0 z = some (r, z')) : W p l e rmX19_write s m args below meth c H locs 0 0 Q (F0 m 31 ls [.ref (B 19 s0)]) := by
  unfold fX19_write_31 at h
  refine lv_iconst (v := (1 : Int32)) F.1 F.2.1 dX19_write_31 (by decide) ?_
  refine lv_goto (tgt := 36) F.1 F.2.1 dX19_write_32 (by decide) ?_
  exact bX19_write_36 hst F hA E  x0 x3 x5 x6 s0 (1 : Int32) hx0 hx6 hs0 hr (lv_sub hl [0, 1, 2, 3] rfl) h
def fX19_write (N : Nat)  (x0 : Nat) (x1 : Int32) (x2 : Int32) (x3 : Int64) (x5 : Int32) (z : St) : Option (Int32 × St) := zc (fX19_endAt N x0 x1 x2 z) fun r1 z2 => zc (fX19_isDoor N x0 x1 x2 z2) fun r5 z6 => if r5 = 0 then (fX19_write_31 N x0 x3 x5 r1 x0 z6) else (if x5 < (1 : Int32) then (fX19_write_31 N x0 x3 x5 r1 x0 z6) else (if x5 ≤ (8 : Int32) then (fX19_write_36 N x0 x3 x5 r1 x0 (0 : Int32) z6) else (fX19_write_31 N x0 x3 x5 r1 x0 z6)))
set_option maxHeartbeats 4000000 in
set_option maxRecDepth 100000 in
theorem bX19_write_0 (hst : zSt B ids) (F : zFx p m c cX19_write 8 s args RX19 D cy B ids A) (hA : ∀ q : Nat, s.heap.size ≤ q → A q) {r : Int32} {z' : St} (E : zEnd p l e rmX19_write s m args below meth c cX19_write D cy B ids A Q (some (.int r)) z' .ireturn True) {N : Nat}  (x0 : Nat) (x1 : Int32) (x2 : Int32) (x3 : Int64) (x5 : Int32) (hx0 : (19, x0) ∈ ids) {z : St} {H : Heap} {locs : List Loc} {ls : Array Slot} (hr : zRep D cy B ids A s.heap z H locs) (hl : lv_has ls 8 [(0, .ref (B 19 x0)), (1, .int x1), (2, .int x2), (3, .long x3), (5, .int x5)]) (h : fX19_write N x0 x1 x2 x3 x5 z = some (r, z')) : W p l e rmX19_write s m args below meth c H locs 0 0 Q (F0 m 0 ls []) := by
  unfold fX19_write at h
  refine lv_aload_n F.1 F.2.1 dX19_write_0 rfl (lv_at hl 0 rfl) ?_
  refine lv_iload_n F.1 F.2.1 dX19_write_1 rfl (lv_at hl 1 rfl) ?_
  refine lv_iload_n F.1 F.2.1 dX19_write_2 rfl (lv_at hl 2 rfl) ?_
  replace h := zc_some h
  obtain ⟨r1, z2, hc3, h⟩ := h
  refine zr_callr (zrun_V (As := [.int x1, .int x2]) (rest := []) zq_3020 zq_3022 zs_X19_endAt zq_3023 zq_4 hdX19_endAt (by decide) (T := TX19) (N := 32) rfl (okX19_endAt l D cy B ids hst N x0 hx0 x1  x2  hr.2.2 hc3) F hr hx0 hl.1 rfl (by decide) dX19_write_3 rfl rfl hroX19_write_X19_endAt ⟨Nat.zero_le _, Nat.zero_le _⟩) F hA hr (fun H locs hw4 hr => ?_)
  clear hc3
  refine zr_astore (lv' := [(6, va_rf (Option.map (B 14) r1)), (0, .ref (B 19 x0)), (1, .int x1), (2, .int x2), (3, .long x3), (5, .int x5)]) F.1 F.2.1 dX19_write_6 hl (by decide) rfl (fun ls hl => ?_)
  refine lv_aload_n F.1 F.2.1 dX19_write_8 rfl (lv_at hl 1 rfl) ?_
  refine lv_aload_n F.1 F.2.1 dX19_write_9 rfl (lv_at hl 1 rfl) ?_
  refine lv_iload_n F.1 F.2.1 dX19_write_10 rfl (lv_at hl 2 rfl) ?_
  refine lv_iload_n F.1 F.2.1 dX19_write_11 rfl (lv_at hl 3 rfl) ?_
  replace h := zc_some h
  obtain ⟨r5, z6, hc7, h⟩ := h
  refine zr_calli (zrun_V (As := [.int x1, .int x2]) (rest := [.ref (B 19 x0)]) zq_3012 zq_3014 zs_X19_isDoor zq_3015 zq_4 hdX19_isDoor (by decide) (T := TX19) (N := 32) rfl (okX19_isDoor l D cy B ids hst N x0 hx0 x1  x2  hr.2.2 hc7) F hr hx0 hl.1 rfl (Nat.le_of_ble_eq_true rfl) dX19_write_12 rfl rfl hroX19_write_X19_isDoor ⟨Nat.zero_le _, Nat.zero_le _⟩) F hA hr (fun H locs hw8 hr => ?_)
  clear hc7
  refine lv_if_eq (tgt := 31) F.1 F.2.1 dX19_write_15 (by decide) (fun c9 => ?_) (fun c9 => ?_)
  · replace h := zi_t c9 h
    exact bX19_write_31 hst F hA E  x0 x3 x5 r1 x0 hx0 hw4 hx0 hr (lv_sub hl [1, 4, 5, 0] rfl) h
  · replace h := zi_f c9 h
    refine lv_iload F.1 F.2.1 dX19_write_18 (lv_at hl 5 rfl) ?_
    refine lv_iconst (v := (1 : Int32)) F.1 F.2.1 dX19_write_20 (by decide) ?_
    refine lv_icmp_lt (tgt := 31) F.1 F.2.1 dX19_write_21 (by decide) (fun c10 => ?_) (fun c10 => ?_)
    · replace h := zi_t c10 h
      exact bX19_write_31 hst F hA E  x0 x3 x5 r1 x0 hx0 hw4 hx0 hr (lv_sub hl [1, 4, 5, 0] rfl) h
    · replace h := zi_f c10 h
      refine lv_iload F.1 F.2.1 dX19_write_24 (lv_at hl 5 rfl) ?_
      refine lv_bipush (v := (8 : Int32)) F.1 F.2.1 dX19_write_26 (by decide) ?_
      refine lv_icmp_le (tgt := 35) F.1 F.2.1 dX19_write_28 (by decide) (fun c11 => ?_) (fun c11 => ?_)
      · replace h := zi_t c11 h
        refine lv_iconst (v := (0 : Int32)) F.1 F.2.1 dX19_write_35 (by decide) ?_
        exact bX19_write_36 hst F hA E  x0 x3 x5 r1 x0 (0 : Int32) hx0 hw4 hx0 hr (lv_sub hl [1, 4, 5, 0] rfl) h
      · replace h := zi_f c11 h
        exact bX19_write_31 hst F hA E  x0 x3 x5 r1 x0 hx0 hw4 hx0 hr (lv_sub hl [1, 4, 5, 0] rfl) h
end SX19_write
set_option maxRecDepth 100000 in
theorem okX19_write (l : Launch) (D : va_G) (cy : Nat → ClassId) (B : Nat → Nat → Nat) (ids : List (Nat × Nat)) (hst : zSt B ids) (N : Nat) (x0 : Nat) (hx0 : (19, x0) ∈ ids) (x1 : Int32) (x2 : Int32) (x3 : Int64) (x5 : Int32) {z : St} {r : Int32} {z' : St} (hW : zWf ids z) (h : fX19_write N x0 x1 x2 x3 x5 z = some (r, z')) : zM l yX19_write (zws yX19_write cX19_write 8 (some .int)) rmX19_write D cy B ids [.ref (B 19 x0), .int x1, .int x2, .long x3, .int x5] (some (.int r)) True z z' :=
  zM_of hst hW (by decide +kernel) (Nat.le_of_ble_eq_true rfl) (fun p e s m args below meth c A ls F hA hret hlocks hr hl => bX19_write_0 hst F hA (zEnd_i F hret hlocks) x0 x1 x2 x3 x5 hx0 hr hl h)
abbrev rmX19_fill : Room := { frames := 4, cells := 0, slots := 0, locals := 86 }
theorem hdX19_fill : yX19_fill.cls ≠ "java/lang/invoke/MethodHandle" ∧ yX19_fill.cls ≠ "java/lang/invoke/VarHandle" ∧ (parseMethodDescriptor yX19_fill.desc).map (fun d => d.parameters.length) = some 5 := by decide +kernel
theorem hroX19_fill_X14_canWrite : rmX14_canWrite.frames + 1 ≤ rmX19_fill.frames ∧ 8 + (1 + 11) + rmX14_canWrite.locals ≤ rmX19_fill.locals := by decide
theorem hroX19_fill_X14_persist : rmX14_persist.frames + 1 ≤ rmX19_fill.frames ∧ 8 + (2 + 11) + rmX14_persist.locals ≤ rmX19_fill.locals := by decide
theorem hroX19_fill_X19_endAt : rmX19_endAt.frames + 1 ≤ rmX19_fill.frames ∧ 8 + (3 + 11) + rmX19_endAt.locals ≤ rmX19_fill.locals := by decide
theorem hroX19_fill_X19_fails : rmX19_fails.frames + 1 ≤ rmX19_fill.frames ∧ 8 + (3 + 11) + rmX19_fails.locals ≤ rmX19_fill.locals := by decide
theorem hroX19_fill_X19_isDoor : rmX19_isDoor.frames + 1 ≤ rmX19_fill.frames ∧ 8 + (3 + 11) + rmX19_isDoor.locals ≤ rmX19_fill.locals := by decide
theorem hroX19_fill_X19_stir : rmX19_stir.frames + 1 ≤ rmX19_fill.frames ∧ 8 + (1 + 11) + rmX19_stir.locals ≤ rmX19_fill.locals := by decide
theorem hroX19_fill_X19_writes : rmX19_writes.frames + 1 ≤ rmX19_fill.frames ∧ 8 + (3 + 11) + rmX19_writes.locals ≤ rmX19_fill.locals := by decide
section SX19_fill
variable {p : Program} {l : Launch} {e : Env} {s : State} {m : MethodId} {args : Array Value} {below : List Frame} {meth : Method} {c : Code} {Q : State → Prop} {D : va_G} {cy : Nat → ClassId} {B : Nat → Nat → Nat} {ids : List (Nat × Nat)} {A : Nat → Prop}
def fX19_fill_95 (N : Nat)  (x0 : Nat) (x6 : Option Nat) (x7 : Int32) (z : St) : Option (Int32 × St) := zd x6 fun a1 => zc (fX14_persist N a1 (zgI z 19 24 x0) z) fun _ z3 => zc (fX19_stir N x0 z3) fun _ z7 => some (x7, z7)
set_option maxHeartbeats 4000000 in
set_option maxRecDepth 100000 in
theorem bX19_fill_95 (hst : zSt B ids) (F : zFx p m c cX19_fill 8 s args RX19 D cy B ids A) (hA : ∀ q : Nat, s.heap.size ≤ q → A q) {r : Int32} {z' : St} (E : zEnd p l e rmX19_fill s m args below meth c cX19_fill D cy B ids A Q (some (.int r)) z' .ireturn True) {N : Nat}  (x0 : Nat) (x6 : Option Nat) (x7 : Int32) (hx0 : (19, x0) ∈ ids) (hx6 : ∀ t, x6 = some t → (14, t) ∈ ids) {z : St} {H : Heap} {locs : List Loc} {ls : Array Slot} (hr : zRep D cy B ids A s.heap z H locs) (hl : lv_has ls 8 [(0, .ref (B 19 x0)), (6, va_rf (Option.map (B 14) x6)), (7, .int x7)]) (h : fX19_fill_95 N x0 x6 x7 z = some (r, z')) : W p l e rmX19_fill s m args below meth c H locs 0 0 Q (F0 m 95 ls []) := by
  unfold fX19_fill_95 at h
  refine zr_aload F.1 F.2.1 dX19_fill_95 (lv_at hl 1 rfl) ?_
  refine lv_aload_n F.1 F.2.1 dX19_fill_97 rfl (lv_at hl 0 rfl) ?_
  refine gf19_143 F hx0 hr dX19_fill_98 ?_
  replace h := zd_some h
  obtain ⟨a1, rfl, h⟩ := h
  replace h := zc_some h
  obtain ⟨r2, z3, hc4, h⟩ := h
  refine zr_callv (zrun_VN (As := [.int (zgI z 19 24 x0)]) (rest := []) zn_2973 zq_2975 zs_X14_persist zq_2976 zq_21 hdX14_persist (by decide) (T := TX14) (N := 47) rfl (okX14_persist l D cy B ids hst N a1 (hx6 _ rfl) (zgI z 19 24 x0)  hr.2.2 hc4) F hr (hx6 _ rfl) hl.1 rfl (by decide) dX19_fill_101 rfl rfl hroX19_fill_X14_persist ⟨Nat.zero_le _, Nat.zero_le _⟩) F hA hr (fun H locs hw5 hr => ?_)
  clear hc4
  refine lv_aload_n F.1 F.2.1 dX19_fill_104 rfl (lv_at hl 0 rfl) ?_
  replace h := zc_some h
  obtain ⟨r6, z7, hc8, h⟩ := h
  refine zr_callv (zrun_V (As := []) (rest := []) zq_2394 zq_2396 zs_X19_stir zq_2397 zq_4 hdX19_stir (by decide) (T := TX19) (N := 32) rfl (okX19_stir l D cy B ids hst N x0 hx0 hr.2.2 hc8) F hr hx0 hl.1 rfl (by decide) dX19_fill_105 rfl rfl hroX19_fill_X19_stir ⟨Nat.zero_le _, Nat.zero_le _⟩) F hA hr (fun H locs hw9 hr => ?_)
  clear hc8
  refine lv_iload F.1 F.2.1 dX19_fill_108 (lv_at hl 2 rfl) ?_
  obtain ⟨rfl, rfl⟩ := zret h
  exact E _ _ _ _ dX19_fill_110 trivial hr
def fX19_fill_66b (N : Nat) (K66 : Nat → Int32 → Int32 → Int32 → Option Nat → Int32 → St → Option (Int32 × St)) (x0 : Nat) (x3 : Int32) (x4 : Int32) (x5 : Int32) (x6 : Option Nat) (x7 : Int32) (z : St) : Option (Int32 × St) := if x5 ≤ x7 then (fX19_fill_95 N x0 x6 x7 z) else (zd x6 fun a2 => zc (fX19_writes N x0 a2 (x3 + (x4 * x7)) z) fun r3 z4 => if r3 = 0 then (fX19_fill_95 N x0 (some a2) x7 z4) else (zl (x7 + 1) fun v8 => K66 x0 x3 x4 x5 (some a2) v8 z4))
def fX19_fill_66 (N : Nat)  : Nat → Nat → Int32 → Int32 → Int32 → Option Nat → Int32 → St → Option (Int32 × St)
  | 0 => fun _ _ _ _ _ _ _ => none
  | n + 1 => fX19_fill_66b N (fX19_fill_66 N  n)
set_option maxHeartbeats 4000000 in
set_option maxRecDepth 100000 in
theorem bX19_fill_66 (hst : zSt B ids) (F : zFx p m c cX19_fill 8 s args RX19 D cy B ids A) (hA : ∀ q : Nat, s.heap.size ≤ q → A q) {r : Int32} {z' : St} (E : zEnd p l e rmX19_fill s m args below meth c cX19_fill D cy B ids A Q (some (.int r)) z' .ireturn True) {N : Nat} {K66 : Nat → Int32 → Int32 → Int32 → Option Nat → Int32 → St → Option (Int32 × St)} (hK66 : ∀ (x0 : Nat) (x3 : Int32) (x4 : Int32) (x5 : Int32) (x6 : Option Nat) (x7 : Int32) (hx0 : (19, x0) ∈ ids) (hx6 : ∀ t, x6 = some t → (14, t) ∈ ids) {z : St} {H : Heap} {locs : List Loc} {ls : Array Slot} (hr : zRep D cy B ids A s.heap z H locs) (hl : lv_has ls 8 [(0, .ref (B 19 x0)), (3, .int x3), (4, .int x4), (5, .int x5), (6, va_rf (Option.map (B 14) x6)), (7, .int x7)]), K66 x0 x3 x4 x5 x6 x7 z = some (r, z') → W p l e rmX19_fill s m args below meth c H locs 0 0 Q (F0 m 66 ls [])) (x0 : Nat) (x3 : Int32) (x4 : Int32) (x5 : Int32) (x6 : Option Nat) (x7 : Int32) (hx0 : (19, x0) ∈ ids) (hx6 : ∀ t, x6 = some t → (14, t) ∈ ids) {z : St} {H : Heap} {locs : List Loc} {ls : Array Slot} (hr : zRep D cy B ids A s.heap z H locs) (hl : lv_has ls 8 [(0, .ref (B 19 x0)), (3, .int x3), (4, .int x4), (5, .int x5), (6, va_rf (Option.map (B 14) x6)), (7, .int x7)]) (h : fX19_fill_66b N K66 x0 x3 x4 x5 x6 x7 z = some (r, z')) : W p l e rmX19_fill s m args below meth c H locs 0 0 Q (F0 m 66 ls []) := by
  unfold fX19_fill_66b at h
  refine lv_iload F.1 F.2.1 dX19_fill_66 (lv_at hl 5 rfl) ?_
  refine lv_iload F.1 F.2.1 dX19_fill_68 (lv_at hl 3 rfl) ?_
  refine lv_icmp_ge (tgt := 95) F.1 F.2.1 dX19_fill_70 (by decide) (fun c1 => ?_) (fun c1 => ?_)
  · replace h := zi_t c1 h
    exact bX19_fill_95 hst F hA E  x0 x6 x7 hx0 hx6 hr (lv_sub hl [0, 4, 5] rfl) h
  · replace h := zi_f c1 h
    refine lv_aload_n F.1 F.2.1 dX19_fill_73 rfl (lv_at hl 0 rfl) ?_
    refine zr_aload F.1 F.2.1 dX19_fill_74 (lv_at hl 4 rfl) ?_
    refine lv_iload_n F.1 F.2.1 dX19_fill_76 rfl (lv_at hl 1 rfl) ?_
    refine lv_iload F.1 F.2.1 dX19_fill_77 (lv_at hl 2 rfl) ?_
    refine lv_iload F.1 F.2.1 dX19_fill_79 (lv_at hl 5 rfl) ?_
    refine lv_imul F.1 F.2.1 dX19_fill_81 ?_
    refine lv_iadd F.1 F.2.1 dX19_fill_82 ?_
    replace h := zd_some h
    obtain ⟨a2, rfl, h⟩ := h
    replace h := zc_some h
    obtain ⟨r3, z4, hc5, h⟩ := h
    refine zr_calli (zrun_V (As := [.ref (B 14 a2), .int (x3 + (x4 * x7))]) (rest := []) zq_3029 zq_3031 zs_X19_writes zq_3032 zq_4 hdX19_writes (by decide) (T := TX19) (N := 32) rfl (okX19_writes l D cy B ids hst N x0 hx0 a2 (hx6 _ rfl) (x3 + (x4 * x7))  hr.2.2 hc5) F hr hx0 hl.1 rfl (by decide) dX19_fill_83 rfl rfl hroX19_fill_X19_writes ⟨Nat.zero_le _, Nat.zero_le _⟩) F hA hr (fun H locs hw6 hr => ?_)
    clear hc5
    refine lv_if_eq (tgt := 95) F.1 F.2.1 dX19_fill_86 (by decide) (fun c7 => ?_) (fun c7 => ?_)
    · replace h := zi_t c7 h
      exact bX19_fill_95 hst F hA E  x0 (some a2) x7 hx0 (zal_s (hx6 _ rfl)) hr (lv_sub hl [0, 4, 5] rfl) h
    · replace h := zi_f c7 h
      obtain ⟨v8, ev8⟩ : ∃ y : Int32, y = (x7 + 1) := ⟨_, rfl⟩
      replace h := zl_sub ev8 h
      refine lv_iinc (v := v8) (lv' := [(7, .int v8), (0, .ref (B 19 x0)), (3, .int x3), (4, .int x4), (5, .int x5), (6, .ref (B 14 a2))]) F.1 F.2.1 dX19_fill_89 hl (k := 5) rfl (by rw [ev8]; rfl) (by decide) rfl (fun ls hl => ?_)
      refine lv_goto (tgt := 66) F.1 F.2.1 dX19_fill_92 (by decide) ?_
      exact hK66 x0 x3 x4 x5 (some a2) v8 hx0 (zal_s (hx6 _ rfl)) hr (lv_sub hl [1, 2, 3, 4, 5, 0] rfl) h
theorem lX19_fill_66 (hst : zSt B ids) (F : zFx p m c cX19_fill 8 s args RX19 D cy B ids A) (hA : ∀ q : Nat, s.heap.size ≤ q → A q) {r : Int32} {z' : St} (E : zEnd p l e rmX19_fill s m args below meth c cX19_fill D cy B ids A Q (some (.int r)) z' .ireturn True) {N : Nat}  : ∀ (n : Nat) (x0 : Nat) (x3 : Int32) (x4 : Int32) (x5 : Int32) (x6 : Option Nat) (x7 : Int32) (hx0 : (19, x0) ∈ ids) (hx6 : ∀ t, x6 = some t → (14, t) ∈ ids) {z : St} {H : Heap} {locs : List Loc} {ls : Array Slot} (hr : zRep D cy B ids A s.heap z H locs) (hl : lv_has ls 8 [(0, .ref (B 19 x0)), (3, .int x3), (4, .int x4), (5, .int x5), (6, va_rf (Option.map (B 14) x6)), (7, .int x7)]), fX19_fill_66 N  n x0 x3 x4 x5 x6 x7 z = some (r, z') → W p l e rmX19_fill s m args below meth c H locs 0 0 Q (F0 m 66 ls []) := by
  intro n
  induction n with
  | zero => intro x0 x3 x4 x5 x6 x7 hx0 hx6 z H locs ls hr hl h; cases h
  | succ n ih => intro x0 x3 x4 x5 x6 x7 hx0 hx6 z H locs ls hr hl h; exact bX19_fill_66 hst F hA E ih x0 x3 x4 x5 x6 x7 hx0 hx6 hr hl h
def fX19_fill_55 (N : Nat)  (x0 : Nat) (x3 : Int32) (x4 : Int32) (x5 : Int32) (x6 : Option Nat) (s0 : Nat) (s1 : Int32) (s2 : Int32) (z : St) : Option (Int32 × St) := zc (fX19_fails N s0 s1 s2 z) fun r1 z2 => if r1 = 0 then (fX19_fill_66 N N x0 x3 x4 x5 x6 (0 : Int32) z2) else (some ((0 : Int32), z2))
set_option maxHeartbeats 4000000 in
set_option maxRecDepth 100000 in
theorem bX19_fill_55 (hst : zSt B ids) (F : zFx p m c cX19_fill 8 s args RX19 D cy B ids A) (hA : ∀ q : Nat, s.heap.size ≤ q → A q) {r : Int32} {z' : St} (E : zEnd p l e rmX19_fill s m args below meth c cX19_fill D cy B ids A Q (some (.int r)) z' .ireturn True) {N : Nat}  (x0 : Nat) (x3 : Int32) (x4 : Int32) (x5 : Int32) (x6 : Option Nat) (s0 : Nat) (s1 : Int32) (s2 : Int32) (hx0 : (19, x0) ∈ ids) (hx6 : ∀ t, x6 = some t → (14, t) ∈ ids) (hs0 : (19, s0) ∈ ids) {z : St} {H : Heap} {locs : List Loc} {ls : Array Slot} (hr : zRep D cy B ids A s.heap z H locs) (hl : lv_has ls 8 [(0, .ref (B 19 x0)), (3, .int x3), (4, .int x4), (5, .int x5), (6, va_rf (Option.map (B 14) x6))]) (h : fX19_fill_55 N x0 x3 x4 x5 x6 s0 s1 s2 z = some (r, z')) : W p l e rmX19_fill s m args below meth c H locs 0 0 Q (F0 m 55 ls [.int s2, .int s1, .ref (B 19 s0)]) := by
  unfold fX19_fill_55 at h
  replace h := zc_some h
  obtain ⟨r1, z2, hc3, h⟩ := h
  refine zr_calli (zrun_V (As := [.int s1, .int s2]) (rest := []) zq_2402 zq_2404 zs_X19_fails zq_2405 zq_4 hdX19_fails (by decide) (T := TX19) (N := 32) rfl (okX19_fails l D cy B ids hst N s0 hs0 s1  s2  hr.2.2 hc3) F hr hs0 hl.1 rfl (by decide) dX19_fill_55 rfl rfl hroX19_fill_X19_fails ⟨Nat.zero_le _, Nat.zero_le _⟩) F hA hr (fun H locs hw4 hr => ?_)
  clear hc3
  refine lv_if_eq (tgt := 63) F.1 F.2.1 dX19_fill_58 (by decide) (fun c5 => ?_) (fun c5 => ?_)
  · replace h := zi_t c5 h
    refine lv_iconst (v := (0 : Int32)) F.1 F.2.1 dX19_fill_63 (by decide) ?_
    refine lv_istore (lv' := [(7, .int (0 : Int32)), (0, .ref (B 19 x0)), (3, .int x3), (4, .int x4), (5, .int x5), (6, va_rf (Option.map (B 14) x6))]) F.1 F.2.1 dX19_fill_64 hl (by decide) (by simp only [List.filter, zrf_cat]; rfl) (fun ls hl => ?_)
    exact lX19_fill_66 hst F hA E  _ x0 x3 x4 x5 x6 (0 : Int32) hx0 hx6 hr (lv_sub hl [1, 2, 3, 4, 5, 0] rfl) h
  · replace h := zi_f c5 h
    refine lv_iconst (v := (0 : Int32)) F.1 F.2.1 dX19_fill_61 (by decide) ?_
    obtain ⟨rfl, rfl⟩ := zret h
    exact E _ _ _ _ dX19_fill_62 trivial hr
def fX19_fill_50 (N : Nat)  (x0 : Nat) (x3 : Int32) (x4 : Int32) (x5 : Int32) (x6 : Option Nat) (s0 : Nat) (s1 : Int32) (z : St) : Option (Int32 × St) := fX19_fill_55 N x0 x3 x4 x5 x6 s0 s1 (1 : Int32) z
set_option maxHeartbeats 4000000 in
set_option maxRecDepth 100000 in
theorem bX19_fill_50 (hst : zSt B ids) (F : zFx p m c cX19_fill 8 s args RX19 D cy B ids A) (hA : ∀ q : Nat, s.heap.size ≤ q → A q) {r : Int32} {z' : St} (E : zEnd p l e rmX19_fill s m args below meth c cX19_fill D cy B ids A Q (some (.int r)) z' .ireturn True) {N : Nat}  (x0 : Nat) (x3 : Int32) (x4 : Int32) (x5 : Int32) (x6 : Option Nat) (s0 : Nat) (s1 : Int32) (hx0 : (19, x0) ∈ ids) (hx6 : ∀ t, x6 = some t → (14, t) ∈ ids) (hs0 : (19, s0) ∈ ids) {z : St} {H : Heap} {locs : List Loc} {ls : Array Slot} (hr : zRep D cy B ids A s.heap z H locs) (hl : lv_has ls 8 [(0, .ref (B 19 x0)), (3, .int x3), (4, .int x4), (5, .int x5), (6, va_rf (Option.map (B 14) x6))]) (h : fX19_fill_50 N x0 x3 x4 x5 x6 s0 s1 z = some (r, z')) : W p l e rmX19_fill s m args below meth c H locs 0 0 Q (F0 m 50 ls [.int s1, .ref (B 19 s0)]) := by
  unfold fX19_fill_50 at h
  refine lv_iconst (v := (1 : Int32)) F.1 F.2.1 dX19_fill_50 (by decide) ?_
  refine lv_goto (tgt := 55) F.1 F.2.1 dX19_fill_51 (by decide) ?_
  exact bX19_fill_55 hst F hA E  x0 x3 x4 x5 x6 s0 s1 (1 : Int32) hx0 hx6 hs0 hr (lv_sub hl [0, 1, 2, 3, 4] rfl) h
def fX19_fill_37 (N : Nat)  (x0 : Nat) (x3 : Int32) (x4 : Int32) (x5 : Int32) (x6 : Option Nat) (s0 : Nat) (s1 : Int32) (z : St) : Option (Int32 × St) := zo x6 (fX19_fill_50 N x0 x3 x4 x5 none s0 s1 z) fun a2 => zc (fX14_canWrite N a2 z) fun r3 z4 => if ¬ r3 = 0 then (fX19_fill_55 N x0 x3 x4 x5 (some a2) s0 s1 (0 : Int32) z4) else (fX19_fill_50 N x0 x3 x4 x5 (some a2) s0 s1 z4)
set_option maxHeartbeats 4000000 in
set_option maxRecDepth 100000 in
theorem bX19_fill_37 (hst : zSt B ids) (F : zFx p m c cX19_fill 8 s args RX19 D cy B ids A) (hA : ∀ q : Nat, s.heap.size ≤ q → A q) {r : Int32} {z' : St} (E : zEnd p l e rmX19_fill s m args below meth c cX19_fill D cy B ids A Q (some (.int r)) z' .ireturn True) {N : Nat}  (x0 : Nat) (x3 : Int32) (x4 : Int32) (x5 : Int32) (x6 : Option Nat) (s0 : Nat) (s1 : Int32) (hx0 : (19, x0) ∈ ids) (hx6 : ∀ t, x6 = some t → (14, t) ∈ ids) (hs0 : (19, s0) ∈ ids) {z : St} {H : Heap} {locs : List Loc} {ls : Array Slot} (hr : zRep D cy B ids A s.heap z H locs) (hl : lv_has ls 8 [(0, .ref (B 19 x0)), (3, .int x3), (4, .int x4), (5, .int x5), (6, va_rf (Option.map (B 14) x6))]) (h : fX19_fill_37 N x0 x3 x4 x5 x6 s0 s1 z = some (r, z')) : W p l e rmX19_fill s m args below meth c H locs 0 0 Q (F0 m 37 ls [.int s1, .ref (B 19 s0)]) := by
  unfold fX19_fill_37 at h
  refine zr_aload F.1 F.2.1 dX19_fill_37 (lv_at hl 4 rfl) ?_
  refine zr_ifnull (tgt := 50) F.1 F.2.1 dX19_fill_39 (by decide) (fun e1 => ?_) (fun a2 e1 => ?_)
  · replace h := zo_n e1 h
    subst e1
    exact bX19_fill_50 hst F hA E  x0 x3 x4 x5 none s0 s1 hx0 zal_0 hs0 hr (lv_sub hl [0, 1, 2, 3, 4] rfl) h
  · replace h := zo_s e1 h
    subst e1
    refine lv_aload F.1 F.2.1 dX19_fill_42 (lv_at hl 4 rfl) ?_
    replace h := zc_some h
    obtain ⟨r3, z4, hc5, h⟩ := h
    refine zr_calli (zrun_VN (As := []) (rest := [.int s1, .ref (B 19 s0)]) zn_3024 zq_3026 zs_X14_canWrite zq_3027 zq_21 hdX14_canWrite (by decide) (T := TX14) (N := 47) rfl (okX14_canWrite l D cy B ids hst N a2 (hx6 _ rfl) hr.2.2 hc5) F hr (hx6 _ rfl) hl.1 rfl (Nat.le_of_ble_eq_true rfl) dX19_fill_44 rfl rfl hroX19_fill_X14_canWrite ⟨Nat.zero_le _, Nat.zero_le _⟩) F hA hr (fun H locs hw6 hr => ?_)
    clear hc5
    refine lv_if_ne (tgt := 54) F.1 F.2.1 dX19_fill_47 (by decide) (fun c7 => ?_) (fun c7 => ?_)
    · replace h := zi_t c7 h
      refine lv_iconst (v := (0 : Int32)) F.1 F.2.1 dX19_fill_54 (by decide) ?_
      exact bX19_fill_55 hst F hA E  x0 x3 x4 x5 (some a2) s0 s1 (0 : Int32) hx0 (zal_s (hx6 _ rfl)) hs0 hr (lv_sub hl [0, 1, 2, 3, 4] rfl) h
    · replace h := zi_f (fun q => q c7) h
      exact bX19_fill_50 hst F hA E  x0 x3 x4 x5 (some a2) s0 s1 hx0 (zal_s (hx6 _ rfl)) hs0 hr (lv_sub hl [0, 1, 2, 3, 4] rfl) h
def fX19_fill_32 (N : Nat)  (x0 : Nat) (x3 : Int32) (x4 : Int32) (x5 : Int32) (x6 : Option Nat) (s0 : Nat) (z : St) : Option (Int32 × St) := fX19_fill_37 N x0 x3 x4 x5 x6 s0 (1 : Int32) z
set_option maxHeartbeats 4000000 in
set_option maxRecDepth 100000 in
theorem bX19_fill_32 (hst : zSt B ids) (F : zFx p m c cX19_fill 8 s args RX19 D cy B ids A) (hA : ∀ q : Nat, s.heap.size ≤ q → A q) {r : Int32} {z' : St} (E : zEnd p l e rmX19_fill s m args below meth c cX19_fill D cy B ids A Q (some (.int r)) z' .ireturn True) {N : Nat}  (x0 : Nat) (x3 : Int32) (x4 : Int32) (x5 : Int32) (x6 : Option Nat) (s0 : Nat) (hx0 : (19, x0) ∈ ids) (hx6 : ∀ t, x6 = some t → (14, t) ∈ ids) (hs0 : (19, s0) ∈ ids) {z : St} {H : Heap} {locs : List Loc} {ls : Array Slot} (hr : zRep D cy B ids A s.heap z H locs) (hl : lv_has ls 8 [(0, .ref (B 19 x0)), (3, .int x3), (4, .int x4), (5, .int x5), (6, va_rf (Option.map (B 14) x6))]) (h : fX19_fill_32 N x0 x3 x4 x5 x6 s0 z = some (r, z')) : W p l e rmX19_fill s m args below meth c H locs 0 0 Q (F0 m 32 ls [.ref (B 19 s0)]) := by
  unfold fX19_fill_32 at h
  refine lv_iconst (v := (1 : Int32)) F.1 F.2.1 dX19_fill_32 (by decide) ?_
  refine lv_goto (tgt := 37) F.1 F.2.1 dX19_fill_33 (by decide) ?_
  exact bX19_fill_37 hst F hA E  x0 x3 x4 x5 x6 s0 (1 : Int32) hx0 hx6 hs0 hr (lv_sub hl [0, 1, 2, 3, 4] rfl) h
def fX19_fill (N : Nat)  (x0 : Nat) (x1 : Int32) (x2 : Int32) (x3 : Int32) (x4 : Int32) (x5 : Int32) (z : St) : Option (Int32 × St) := zc (fX19_endAt N x0 x1 x2 z) fun r1 z2 => zc (fX19_isDoor N x0 x1 x2 z2) fun r5 z6 => if r5 = 0 then (fX19_fill_32 N x0 x3 x4 x5 r1 x0 z6) else (if x5 < (1 : Int32) then (fX19_fill_32 N x0 x3 x4 x5 r1 x0 z6) else (if x5 ≤ (2048 : Int32) then (fX19_fill_37 N x0 x3 x4 x5 r1 x0 (0 : Int32) z6) else (fX19_fill_32 N x0 x3 x4 x5 r1 x0 z6)))
set_option maxHeartbeats 4000000 in
set_option maxRecDepth 100000 in
theorem bX19_fill_0 (hst : zSt B ids) (F : zFx p m c cX19_fill 8 s args RX19 D cy B ids A) (hA : ∀ q : Nat, s.heap.size ≤ q → A q) {r : Int32} {z' : St} (E : zEnd p l e rmX19_fill s m args below meth c cX19_fill D cy B ids A Q (some (.int r)) z' .ireturn True) {N : Nat}  (x0 : Nat) (x1 : Int32) (x2 : Int32) (x3 : Int32) (x4 : Int32) (x5 : Int32) (hx0 : (19, x0) ∈ ids) {z : St} {H : Heap} {locs : List Loc} {ls : Array Slot} (hr : zRep D cy B ids A s.heap z H locs) (hl : lv_has ls 8 [(0, .ref (B 19 x0)), (1, .int x1), (2, .int x2), (3, .int x3), (4, .int x4), (5, .int x5)]) (h : fX19_fill N x0 x1 x2 x3 x4 x5 z = some (r, z')) : W p l e rmX19_fill s m args below meth c H locs 0 0 Q (F0 m 0 ls []) := by
  unfold fX19_fill at h
  refine lv_aload_n F.1 F.2.1 dX19_fill_0 rfl (lv_at hl 0 rfl) ?_
  refine lv_iload_n F.1 F.2.1 dX19_fill_1 rfl (lv_at hl 1 rfl) ?_
  refine lv_iload_n F.1 F.2.1 dX19_fill_2 rfl (lv_at hl 2 rfl) ?_
  replace h := zc_some h
  obtain ⟨r1, z2, hc3, h⟩ := h
  refine zr_callr (zrun_V (As := [.int x1, .int x2]) (rest := []) zq_3020 zq_3022 zs_X19_endAt zq_3023 zq_4 hdX19_endAt (by decide) (T := TX19) (N := 32) rfl (okX19_endAt l D cy B ids hst N x0 hx0 x1  x2  hr.2.2 hc3) F hr hx0 hl.1 rfl (by decide) dX19_fill_3 rfl rfl hroX19_fill_X19_endAt ⟨Nat.zero_le _, Nat.zero_le _⟩) F hA hr (fun H locs hw4 hr => ?_)
  clear hc3
  refine zr_astore (lv' := [(6, va_rf (Option.map (B 14) r1)), (0, .ref (B 19 x0)), (1, .int x1), (2, .int x2), (3, .int x3), (4, .int x4), (5, .int x5)]) F.1 F.2.1 dX19_fill_6 hl (by decide) rfl (fun ls hl => ?_)
  refine lv_aload_n F.1 F.2.1 dX19_fill_8 rfl (lv_at hl 1 rfl) ?_
  refine lv_aload_n F.1 F.2.1 dX19_fill_9 rfl (lv_at hl 1 rfl) ?_
  refine lv_iload_n F.1 F.2.1 dX19_fill_10 rfl (lv_at hl 2 rfl) ?_
  refine lv_iload_n F.1 F.2.1 dX19_fill_11 rfl (lv_at hl 3 rfl) ?_
  replace h := zc_some h
  obtain ⟨r5, z6, hc7, h⟩ := h
  refine zr_calli (zrun_V (As := [.int x1, .int x2]) (rest := [.ref (B 19 x0)]) zq_3012 zq_3014 zs_X19_isDoor zq_3015 zq_4 hdX19_isDoor (by decide) (T := TX19) (N := 32) rfl (okX19_isDoor l D cy B ids hst N x0 hx0 x1  x2  hr.2.2 hc7) F hr hx0 hl.1 rfl (Nat.le_of_ble_eq_true rfl) dX19_fill_12 rfl rfl hroX19_fill_X19_isDoor ⟨Nat.zero_le _, Nat.zero_le _⟩) F hA hr (fun H locs hw8 hr => ?_)
  clear hc7
  refine lv_if_eq (tgt := 32) F.1 F.2.1 dX19_fill_15 (by decide) (fun c9 => ?_) (fun c9 => ?_)
  · replace h := zi_t c9 h
    exact bX19_fill_32 hst F hA E  x0 x3 x4 x5 r1 x0 hx0 hw4 hx0 hr (lv_sub hl [1, 4, 5, 6, 0] rfl) h
  · replace h := zi_f c9 h
    refine lv_iload F.1 F.2.1 dX19_fill_18 (lv_at hl 6 rfl) ?_
    refine lv_iconst (v := (1 : Int32)) F.1 F.2.1 dX19_fill_20 (by decide) ?_
    refine lv_icmp_lt (tgt := 32) F.1 F.2.1 dX19_fill_21 (by decide) (fun c10 => ?_) (fun c10 => ?_)
    · replace h := zi_t c10 h
      exact bX19_fill_32 hst F hA E  x0 x3 x4 x5 r1 x0 hx0 hw4 hx0 hr (lv_sub hl [1, 4, 5, 6, 0] rfl) h
    · replace h := zi_f c10 h
      refine lv_iload F.1 F.2.1 dX19_fill_24 (lv_at hl 6 rfl) ?_
      refine lv_sipush (v := (2048 : Int32)) F.1 F.2.1 dX19_fill_26 (by decide) ?_
      refine lv_icmp_le (tgt := 36) F.1 F.2.1 dX19_fill_29 (by decide) (fun c11 => ?_) (fun c11 => ?_)
      · replace h := zi_t c11 h
        refine lv_iconst (v := (0 : Int32)) F.1 F.2.1 dX19_fill_36 (by decide) ?_
        exact bX19_fill_37 hst F hA E  x0 x3 x4 x5 r1 x0 (0 : Int32) hx0 hw4 hx0 hr (lv_sub hl [1, 4, 5, 6, 0] rfl) h
      · replace h := zi_f c11 h
        exact bX19_fill_32 hst F hA E  x0 x3 x4 x5 r1 x0 hx0 hw4 hx0 hr (lv_sub hl [1, 4, 5, 6, 0] rfl) h
end SX19_fill
set_option maxRecDepth 100000 in
theorem okX19_fill (l : Launch) (D : va_G) (cy : Nat → ClassId) (B : Nat → Nat → Nat) (ids : List (Nat × Nat)) (hst : zSt B ids) (N : Nat) (x0 : Nat) (hx0 : (19, x0) ∈ ids) (x1 : Int32) (x2 : Int32) (x3 : Int32) (x4 : Int32) (x5 : Int32) {z : St} {r : Int32} {z' : St} (hW : zWf ids z) (h : fX19_fill N x0 x1 x2 x3 x4 x5 z = some (r, z')) : zM l yX19_fill (zws yX19_fill cX19_fill 8 (some .int)) rmX19_fill D cy B ids [.ref (B 19 x0), .int x1, .int x2, .int x3, .int x4, .int x5] (some (.int r)) True z z' :=
  zM_of hst hW (by decide +kernel) (Nat.le_of_ble_eq_true rfl) (fun p e s m args below meth c A ls F hA hret hlocks hr hl => bX19_fill_0 hst F hA (zEnd_i F hret hlocks) x0 x1 x2 x3 x4 x5 hx0 hr hl h)
abbrev rmX19_canRead : Room := { frames := 1, cells := 0, slots := 0, locals := 20 }
theorem hdX19_canRead : yX19_canRead.cls ≠ "java/lang/invoke/MethodHandle" ∧ yX19_canRead.cls ≠ "java/lang/invoke/VarHandle" ∧ (parseMethodDescriptor yX19_canRead.desc).map (fun d => d.parameters.length) = some 1 := by decide +kernel
theorem hroX19_canRead_X14_isDead : rmX14_isDead.frames + 1 ≤ rmX19_canRead.frames ∧ 8 + (1 + 11) + rmX14_isDead.locals ≤ rmX19_canRead.locals := by decide
theorem hroX19_canRead_X14_readable : rmX14_readable.frames + 1 ≤ rmX19_canRead.frames ∧ 8 + (1 + 11) + rmX14_readable.locals ≤ rmX19_canRead.locals := by decide
section SX19_canRead
variable {p : Program} {l : Launch} {e : Env} {s : State} {m : MethodId} {args : Array Value} {below : List Frame} {meth : Method} {c : Code} {Q : State → Prop} {D : va_G} {cy : Nat → ClassId} {B : Nat → Nat → Nat} {ids : List (Nat × Nat)} {A : Nat → Prop}
def fX19_canRead_33 (N : Nat)   (z : St) : Option (Int32 × St) := some ((1 : Int32), z)
set_option maxHeartbeats 4000000 in
set_option maxRecDepth 100000 in
theorem bX19_canRead_33 (hst : zSt B ids) (F : zFx p m c cX19_canRead 1 s args RX19 D cy B ids A) (hA : ∀ q : Nat, s.heap.size ≤ q → A q) {r : Int32} {z' : St} (E : zEnd p l e rmX19_canRead s m args below meth c cX19_canRead D cy B ids A Q (some (.int r)) z' .ireturn (r = 0 ∨ r = 1)) {N : Nat}    {z : St} {H : Heap} {locs : List Loc} {ls : Array Slot} (hr : zRep D cy B ids A s.heap z H locs) (hl : lv_has ls 1 []) (h : fX19_canRead_33 N z = some (r, z')) : W p l e rmX19_canRead s m args below meth c H locs 0 0 Q (F0 m 33 ls []) := by
  unfold fX19_canRead_33 at h
  refine lv_iconst (v := (1 : Int32)) F.1 F.2.1 dX19_canRead_33 (by decide) ?_
  refine lv_goto (tgt := 38) F.1 F.2.1 dX19_canRead_34 (by decide) ?_
  obtain ⟨rfl, rfl⟩ := zret h
  exact E _ _ _ _ dX19_canRead_38 (by decide) hr
def fX19_canRead (N : Nat)  (x0 : Option Nat) (z : St) : Option (Int32 × St) := zo x0 (some ((0 : Int32), z)) fun a2 => zc (fX14_readable N a2 z) fun r3 z4 => if 0 < r3 then (fX19_canRead_33 N z4) else (if ¬ (zgI z4 14 23 a2) = 0 then (fX19_canRead_33 N z4) else (zc (fX14_isDead N a2 z4) fun r9 z10 => if ¬ r9 = 0 then (some ((0 : Int32), z10)) else (if (zgI z10 14 0 a2) = (1 : Int32) then (some ((0 : Int32), z10)) else (fX19_canRead_33 N z10))))
set_option maxHeartbeats 4000000 in
set_option maxRecDepth 100000 in
theorem bX19_canRead_0 (hst : zSt B ids) (F : zFx p m c cX19_canRead 1 s args RX19 D cy B ids A) (hA : ∀ q : Nat, s.heap.size ≤ q → A q) {r : Int32} {z' : St} (E : zEnd p l e rmX19_canRead s m args below meth c cX19_canRead D cy B ids A Q (some (.int r)) z' .ireturn (r = 0 ∨ r = 1)) {N : Nat}  (x0 : Option Nat) (hx0 : ∀ t, x0 = some t → (14, t) ∈ ids) {z : St} {H : Heap} {locs : List Loc} {ls : Array Slot} (hr : zRep D cy B ids A s.heap z H locs) (hl : lv_has ls 1 [(0, va_rf (Option.map (B 14) x0))]) (h : fX19_canRead N x0 z = some (r, z')) : W p l e rmX19_canRead s m args below meth c H locs 0 0 Q (F0 m 0 ls []) := by
  unfold fX19_canRead at h
  refine zr_aload_n F.1 F.2.1 dX19_canRead_0 rfl (lv_at hl 0 rfl) ?_
  refine zr_ifnull (tgt := 37) F.1 F.2.1 dX19_canRead_1 (by decide) (fun e1 => ?_) (fun a2 e1 => ?_)
  · replace h := zo_n e1 h
    subst e1
    refine lv_iconst (v := (0 : Int32)) F.1 F.2.1 dX19_canRead_37 (by decide) ?_
    obtain ⟨rfl, rfl⟩ := zret h
    exact E _ _ _ _ dX19_canRead_38 (by decide) hr
  · replace h := zo_s e1 h
    subst e1
    refine lv_aload_n F.1 F.2.1 dX19_canRead_4 rfl (lv_at hl 0 rfl) ?_
    replace h := zc_some h
    obtain ⟨r3, z4, hc5, h⟩ := h
    refine zr_calli (zrun_VN (As := []) (rest := []) zn_2728 zq_2712 zs_X14_readable zq_2713 zq_21 hdX14_readable (by decide) (T := TX14) (N := 47) rfl (okX14_readable l D cy B ids hst N a2 (hx0 _ rfl) hr.2.2 hc5) F hr (hx0 _ rfl) hl.1 rfl (by decide) dX19_canRead_5 rfl rfl hroX19_canRead_X14_readable ⟨Nat.zero_le _, Nat.zero_le _⟩) F hA hr (fun H locs hw6 hr => ?_)
    clear hc5
    refine lv_if_gt (tgt := 33) F.1 F.2.1 dX19_canRead_8 (by decide) (fun c7 => ?_) (fun c7 => ?_)
    · replace h := zi_t c7 h
      exact bX19_canRead_33 hst F hA E   hr (lv_sub hl [] rfl) h
    · replace h := zi_f c7 h
      refine lv_aload_n F.1 F.2.1 dX19_canRead_11 rfl (lv_at hl 0 rfl) ?_
      refine gf19_682 F (hx0 _ rfl) hr dX19_canRead_12 ?_
      refine lv_if_ne (tgt := 33) F.1 F.2.1 dX19_canRead_15 (by decide) (fun c8 => ?_) (fun c8 => ?_)
      · replace h := zi_t c8 h
        exact bX19_canRead_33 hst F hA E   hr (lv_sub hl [] rfl) h
      · replace h := zi_f (fun q => q c8) h
        refine lv_aload_n F.1 F.2.1 dX19_canRead_18 rfl (lv_at hl 0 rfl) ?_
        replace h := zc_some h
        obtain ⟨r9, z10, hc11, h⟩ := h
        refine zr_calli (zrun_VN (As := []) (rest := []) zn_2651 zq_2653 zs_X14_isDead zq_2654 zq_21 hdX14_isDead (by decide) (T := TX14) (N := 47) rfl (okX14_isDead l D cy B ids hst N a2 (hx0 _ rfl) hr.2.2 hc11) F hr (hx0 _ rfl) hl.1 rfl (by decide) dX19_canRead_19 rfl rfl hroX19_canRead_X14_isDead ⟨Nat.zero_le _, Nat.zero_le _⟩) F hA hr (fun H locs hw12 hr => ?_)
        clear hc11
        refine lv_if_ne (tgt := 37) F.1 F.2.1 dX19_canRead_22 (by decide) (fun c13 => ?_) (fun c13 => ?_)
        · replace h := zi_t c13 h
          refine lv_iconst (v := (0 : Int32)) F.1 F.2.1 dX19_canRead_37 (by decide) ?_
          obtain ⟨rfl, rfl⟩ := zret h
          exact E _ _ _ _ dX19_canRead_38 (by decide) hr
        · replace h := zi_f (fun q => q c13) h
          refine lv_aload_n F.1 F.2.1 dX19_canRead_25 rfl (lv_at hl 0 rfl) ?_
          refine gf19_353 F (hx0 _ rfl) hr dX19_canRead_26 ?_
          refine lv_iconst (v := (1 : Int32)) F.1 F.2.1 dX19_canRead_29 (by decide) ?_
          refine lv_icmp_eq (tgt := 37) F.1 F.2.1 dX19_canRead_30 (by decide) (fun c14 => ?_) (fun c14 => ?_)
          · replace h := zi_t c14 h
            refine lv_iconst (v := (0 : Int32)) F.1 F.2.1 dX19_canRead_37 (by decide) ?_
            obtain ⟨rfl, rfl⟩ := zret h
            exact E _ _ _ _ dX19_canRead_38 (by decide) hr
          · replace h := zi_f c14 h
            exact bX19_canRead_33 hst F hA E   hr (lv_sub hl [] rfl) h
end SX19_canRead
set_option maxRecDepth 100000 in
theorem okX19_canRead (l : Launch) (D : va_G) (cy : Nat → ClassId) (B : Nat → Nat → Nat) (ids : List (Nat × Nat)) (hst : zSt B ids) (N : Nat) (x0 : Option Nat) (hx0 : ∀ t, x0 = some t → (14, t) ∈ ids) {z : St} {r : Int32} {z' : St} (hW : zWf ids z) (h : fX19_canRead N x0 z = some (r, z')) : zM l yX19_canRead (zws yX19_canRead cX19_canRead 1 (some .boolean)) rmX19_canRead D cy B ids [va_rf (Option.map (B 14) x0)] (some (.int r)) (r = 0 ∨ r = 1) z z' :=
  zM_of hst hW (by decide +kernel) (by simp only [lg_sl, List.flatMap_cons, List.flatMap_nil, zrf_cat]; exact Nat.le_of_ble_eq_true rfl) (fun p e s m args below meth c A ls F hA hret hlocks hr hl => bX19_canRead_0 hst F hA (zEnd_z F hret hlocks) x0 hx0 hr hl h)
abbrev rmX19_read_ : Room := { frames := 4, cells := 0, slots := 0, locals := 86 }
theorem hdX19_read_ : yX19_read_.cls ≠ "java/lang/invoke/MethodHandle" ∧ yX19_read_.cls ≠ "java/lang/invoke/VarHandle" ∧ (parseMethodDescriptor yX19_read_.desc).map (fun d => d.parameters.length) = some 2 := by decide +kernel
theorem hroX19_read__X14_readable : rmX14_readable.frames + 1 ≤ rmX19_read_.frames ∧ 8 + (1 + 11) + rmX14_readable.locals ≤ rmX19_read_.locals := by decide
theorem hroX19_read__X19_canRead : rmX19_canRead.frames + 1 ≤ rmX19_read_.frames ∧ 8 + (1 + 11) + rmX19_canRead.locals ≤ rmX19_read_.locals := by decide
theorem hroX19_read__X19_endAt : rmX19_endAt.frames + 1 ≤ rmX19_read_.frames ∧ 8 + (3 + 11) + rmX19_endAt.locals ≤ rmX19_read_.locals := by decide
theorem hroX19_read__X19_fails : rmX19_fails.frames + 1 ≤ rmX19_read_.frames ∧ 8 + (3 + 11) + rmX19_fails.locals ≤ rmX19_read_.locals := by decide
theorem hroX19_read__X19_isDoor : rmX19_isDoor.frames + 1 ≤ rmX19_read_.frames ∧ 8 + (3 + 11) + rmX19_isDoor.locals ≤ rmX19_read_.locals := by decide
theorem hroX19_read__X19_read : rmX19_read.frames + 1 ≤ rmX19_read_.frames ∧ 8 + (4 + 11) + rmX19_read.locals ≤ rmX19_read_.locals := by decide
section SX19_read_
variable {p : Program} {l : Launch} {e : Env} {s : State} {m : MethodId} {args : Array Value} {below : List Frame} {meth : Method} {c : Code} {Q : State → Prop} {D : va_G} {cy : Nat → ClassId} {B : Nat → Nat → Nat} {ids : List (Nat × Nat)} {A : Nat → Prop}
def fX19_read__34 (N : Nat)  (x0 : Nat) (x3 : Option Nat) (s0 : Nat) (s1 : Int32) (s2 : Int32) (z : St) : Option (Int32 × St) := zc (fX19_fails N s0 s1 s2 z) fun r1 z2 => if r1 = 0 then (zd x3 fun a6 => zc (fX14_readable N a6 z2) fun r7 z8 => if r7 ≤ 0 then (if (zgI z8 14 23 a6) = 0 then (some ((-1 : Int32), z8)) else (some ((-2 : Int32), z8))) else (zc (fX19_read N x0 a6 z8) fun r13 z14 => some (r13, z14))) else (some ((0 : Int32), z2))
set_option maxHeartbeats 4000000 in
set_option maxRecDepth 100000 in
theorem bX19_read__34 (hst : zSt B ids) (F : zFx p m c cX19_read_ 4 s args RX19 D cy B ids A) (hA : ∀ q : Nat, s.heap.size ≤ q → A q) {r : Int32} {z' : St} (E : zEnd p l e rmX19_read_ s m args below meth c cX19_read_ D cy B ids A Q (some (.int r)) z' .ireturn True) {N : Nat}  (x0 : Nat) (x3 : Option Nat) (s0 : Nat) (s1 : Int32) (s2 : Int32) (hx0 : (19, x0) ∈ ids) (hx3 : ∀ t, x3 = some t → (14, t) ∈ ids) (hs0 : (19, s0) ∈ ids) {z : St} {H : Heap} {locs : List Loc} {ls : Array Slot} (hr : zRep D cy B ids A s.heap z H locs) (hl : lv_has ls 4 [(0, .ref (B 19 x0)), (3, va_rf (Option.map (B 14) x3))]) (h : fX19_read__34 N x0 x3 s0 s1 s2 z = some (r, z')) : W p l e rmX19_read_ s m args below meth c H locs 0 0 Q (F0 m 34 ls [.int s2, .int s1, .ref (B 19 s0)]) := by
  unfold fX19_read__34 at h
  replace h := zc_some h
  obtain ⟨r1, z2, hc3, h⟩ := h
  refine zr_calli (zrun_V (As := [.int s1, .int s2]) (rest := []) zq_2402 zq_2404 zs_X19_fails zq_2405 zq_4 hdX19_fails (by decide) (T := TX19) (N := 32) rfl (okX19_fails l D cy B ids hst N s0 hs0 s1  s2  hr.2.2 hc3) F hr hs0 hl.1 rfl (by decide) dX19_read__34 rfl rfl hroX19_read__X19_fails ⟨Nat.zero_le _, Nat.zero_le _⟩) F hA hr (fun H locs hw4 hr => ?_)
  clear hc3
  refine lv_if_eq (tgt := 42) F.1 F.2.1 dX19_read__37 (by decide) (fun c5 => ?_) (fun c5 => ?_)
  · replace h := zi_t c5 h
    refine zr_aload_n F.1 F.2.1 dX19_read__42 rfl (lv_at hl 1 rfl) ?_
    replace h := zd_some h
    obtain ⟨a6, rfl, h⟩ := h
    replace h := zc_some h
    obtain ⟨r7, z8, hc9, h⟩ := h
    refine zr_calli (zrun_VN (As := []) (rest := []) zn_2728 zq_2712 zs_X14_readable zq_2713 zq_21 hdX14_readable (by decide) (T := TX14) (N := 47) rfl (okX14_readable l D cy B ids hst N a6 (hx3 _ rfl) hr.2.2 hc9) F hr (hx3 _ rfl) hl.1 rfl (by decide) dX19_read__43 rfl rfl hroX19_read__X14_readable ⟨Nat.zero_le _, Nat.zero_le _⟩) F hA hr (fun H locs hw10 hr => ?_)
    clear hc9
    refine lv_if_le (tgt := 57) F.1 F.2.1 dX19_read__46 (by decide) (fun c11 => ?_) (fun c11 => ?_)
    · replace h := zi_t c11 h
      refine lv_aload_n F.1 F.2.1 dX19_read__57 rfl (lv_at hl 1 rfl) ?_
      refine gf19_682 F (hx3 _ rfl) hr dX19_read__58 ?_
      refine lv_if_eq (tgt := 69) F.1 F.2.1 dX19_read__61 (by decide) (fun c12 => ?_) (fun c12 => ?_)
      · replace h := zi_t c12 h
        refine lv_iconst (v := (-1 : Int32)) F.1 F.2.1 dX19_read__69 (by decide) ?_
        obtain ⟨rfl, rfl⟩ := zret h
        exact E _ _ _ _ dX19_read__70 trivial hr
      · replace h := zi_f c12 h
        refine lv_bipush (v := (-2 : Int32)) F.1 F.2.1 dX19_read__64 (by decide) ?_
        refine lv_goto (tgt := 70) F.1 F.2.1 dX19_read__66 (by decide) ?_
        obtain ⟨rfl, rfl⟩ := zret h
        exact E _ _ _ _ dX19_read__70 trivial hr
    · replace h := zi_f c11 h
      refine lv_aload_n F.1 F.2.1 dX19_read__49 rfl (lv_at hl 0 rfl) ?_
      refine lv_aload_n F.1 F.2.1 dX19_read__50 rfl (lv_at hl 1 rfl) ?_
      replace h := zc_some h
      obtain ⟨r13, z14, hc15, h⟩ := h
      refine zr_calli (zrun_V (As := [.ref (B 14 a6)]) (rest := []) zq_2978 zq_2980 zs_X19_read zq_2981 zq_4 hdX19_read (by decide) (T := TX19) (N := 32) rfl (okX19_read l D cy B ids hst N x0 hx0 a6 (hx3 _ rfl) hr.2.2 hc15) F hr hx0 hl.1 rfl (by decide) dX19_read__51 rfl rfl hroX19_read__X19_read ⟨Nat.zero_le _, Nat.zero_le _⟩) F hA hr (fun H locs hw16 hr => ?_)
      clear hc15
      refine lv_goto (tgt := 70) F.1 F.2.1 dX19_read__54 (by decide) ?_
      obtain ⟨rfl, rfl⟩ := zret h
      exact E _ _ _ _ dX19_read__70 trivial hr
  · replace h := zi_f c5 h
    refine lv_iconst (v := (0 : Int32)) F.1 F.2.1 dX19_read__40 (by decide) ?_
    obtain ⟨rfl, rfl⟩ := zret h
    exact E _ _ _ _ dX19_read__41 trivial hr
def fX19_read__22 (N : Nat)  (x0 : Nat) (x3 : Option Nat) (s0 : Nat) (s1 : Int32) (z : St) : Option (Int32 × St) := zc (fX19_canRead N x3 z) fun r1 z2 => if ¬ r1 = 0 then (fX19_read__34 N x0 x3 s0 s1 (0 : Int32) z2) else (fX19_read__34 N x0 x3 s0 s1 (1 : Int32) z2)
set_option maxHeartbeats 4000000 in
set_option maxRecDepth 100000 in
theorem bX19_read__22 (hst : zSt B ids) (F : zFx p m c cX19_read_ 4 s args RX19 D cy B ids A) (hA : ∀ q : Nat, s.heap.size ≤ q → A q) {r : Int32} {z' : St} (E : zEnd p l e rmX19_read_ s m args below meth c cX19_read_ D cy B ids A Q (some (.int r)) z' .ireturn True) {N : Nat}  (x0 : Nat) (x3 : Option Nat) (s0 : Nat) (s1 : Int32) (hx0 : (19, x0) ∈ ids) (hx3 : ∀ t, x3 = some t → (14, t) ∈ ids) (hs0 : (19, s0) ∈ ids) {z : St} {H : Heap} {locs : List Loc} {ls : Array Slot} (hr : zRep D cy B ids A s.heap z H locs) (hl : lv_has ls 4 [(0, .ref (B 19 x0)), (3, va_rf (Option.map (B 14) x3))]) (h : fX19_read__22 N x0 x3 s0 s1 z = some (r, z')) : W p l e rmX19_read_ s m args below meth c H locs 0 0 Q (F0 m 22 ls [.int s1, .ref (B 19 s0)]) := by
  unfold fX19_read__22 at h
  refine zr_aload_n F.1 F.2.1 dX19_read__22 rfl (lv_at hl 1 rfl) ?_
  replace h := zc_some h
  obtain ⟨r1, z2, hc3, h⟩ := h
  refine zr_calli (zrun_S (As := [va_rf (Option.map (B 14) x3)]) (rest := [.int s1, .ref (B 19 s0)]) zq_3049 zq_3050 zq_3051 zq_4 hdX19_canRead (okX19_canRead l D cy B ids hst N x3 hx3 hr.2.2 hc3) F hr hl.1 rfl (Nat.le_of_ble_eq_true rfl) dX19_read__23 rfl rfl hroX19_read__X19_canRead ⟨Nat.zero_le _, Nat.zero_le _⟩) F hA hr (fun H locs hw4 hr => ?_)
  clear hc3
  refine lv_if_ne (tgt := 33) F.1 F.2.1 dX19_read__26 (by decide) (fun c5 => ?_) (fun c5 => ?_)
  · replace h := zi_t c5 h
    refine lv_iconst (v := (0 : Int32)) F.1 F.2.1 dX19_read__33 (by decide) ?_
    exact bX19_read__34 hst F hA E  x0 x3 s0 s1 (0 : Int32) hx0 hx3 hs0 hr (lv_sub hl [0, 1] rfl) h
  · replace h := zi_f (fun q => q c5) h
    refine lv_iconst (v := (1 : Int32)) F.1 F.2.1 dX19_read__29 (by decide) ?_
    refine lv_goto (tgt := 34) F.1 F.2.1 dX19_read__30 (by decide) ?_
    exact bX19_read__34 hst F hA E  x0 x3 s0 s1 (1 : Int32) hx0 hx3 hs0 hr (lv_sub hl [0, 1] rfl) h
def fX19_read_ (N : Nat)  (x0 : Nat) (x1 : Int32) (x2 : Int32) (z : St) : Option (Int32 × St) := zc (fX19_endAt N x0 x1 x2 z) fun r1 z2 => zc (fX19_isDoor N x0 x1 x2 z2) fun r5 z6 => if ¬ r5 = 0 then (fX19_read__22 N x0 r1 x0 (0 : Int32) z6) else (fX19_read__22 N x0 r1 x0 (1 : Int32) z6)
set_option maxHeartbeats 4000000 in
set_option maxRecDepth 100000 in
theorem bX19_read__0 (hst : zSt B ids) (F : zFx p m c cX19_read_ 4 s args RX19 D cy B ids A) (hA : ∀ q : Nat, s.heap.size ≤ q → A q) {r : Int32} {z' : St} (E : zEnd p l e rmX19_read_ s m args below meth c cX19_read_ D cy B ids A Q (some (.int r)) z' .ireturn True) {N : Nat}  (x0 : Nat) (x1 : Int32) (x2 : Int32) (hx0 : (19, x0) ∈ ids) {z : St} {H : Heap} {locs : List Loc} {ls : Array Slot} (hr : zRep D cy B ids A s.heap z H locs) (hl : lv_has ls 4 [(0, .ref (B 19 x0)), (1, .int x1), (2, .int x2)]) (h : fX19_read_ N x0 x1 x2 z = some (r, z')) : W p l e rmX19_read_ s m args below meth c H locs 0 0 Q (F0 m 0 ls []) := by
  unfold fX19_read_ at h
  refine lv_aload_n F.1 F.2.1 dX19_read__0 rfl (lv_at hl 0 rfl) ?_
  refine lv_iload_n F.1 F.2.1 dX19_read__1 rfl (lv_at hl 1 rfl) ?_
  refine lv_iload_n F.1 F.2.1 dX19_read__2 rfl (lv_at hl 2 rfl) ?_
  replace h := zc_some h
  obtain ⟨r1, z2, hc3, h⟩ := h
  refine zr_callr (zrun_V (As := [.int x1, .int x2]) (rest := []) zq_3020 zq_3022 zs_X19_endAt zq_3023 zq_4 hdX19_endAt (by decide) (T := TX19) (N := 32) rfl (okX19_endAt l D cy B ids hst N x0 hx0 x1  x2  hr.2.2 hc3) F hr hx0 hl.1 rfl (by decide) dX19_read__3 rfl rfl hroX19_read__X19_endAt ⟨Nat.zero_le _, Nat.zero_le _⟩) F hA hr (fun H locs hw4 hr => ?_)
  clear hc3
  refine zr_astore_n (lv' := [(3, va_rf (Option.map (B 14) r1)), (0, .ref (B 19 x0)), (1, .int x1), (2, .int x2)]) F.1 F.2.1 dX19_read__6 rfl hl (by decide) rfl (fun ls hl => ?_)
  refine lv_aload_n F.1 F.2.1 dX19_read__7 rfl (lv_at hl 1 rfl) ?_
  refine lv_aload_n F.1 F.2.1 dX19_read__8 rfl (lv_at hl 1 rfl) ?_
  refine lv_iload_n F.1 F.2.1 dX19_read__9 rfl (lv_at hl 2 rfl) ?_
  refine lv_iload_n F.1 F.2.1 dX19_read__10 rfl (lv_at hl 3 rfl) ?_
  replace h := zc_some h
  obtain ⟨r5, z6, hc7, h⟩ := h
  refine zr_calli (zrun_V (As := [.int x1, .int x2]) (rest := [.ref (B 19 x0)]) zq_3012 zq_3014 zs_X19_isDoor zq_3015 zq_4 hdX19_isDoor (by decide) (T := TX19) (N := 32) rfl (okX19_isDoor l D cy B ids hst N x0 hx0 x1  x2  hr.2.2 hc7) F hr hx0 hl.1 rfl (Nat.le_of_ble_eq_true rfl) dX19_read__11 rfl rfl hroX19_read__X19_isDoor ⟨Nat.zero_le _, Nat.zero_le _⟩) F hA hr (fun H locs hw8 hr => ?_)
  clear hc7
  refine lv_if_ne (tgt := 21) F.1 F.2.1 dX19_read__14 (by decide) (fun c9 => ?_) (fun c9 => ?_)
  · replace h := zi_t c9 h
    refine lv_iconst (v := (0 : Int32)) F.1 F.2.1 dX19_read__21 (by decide) ?_
    exact bX19_read__22 hst F hA E  x0 r1 x0 (0 : Int32) hx0 hw4 hx0 hr (lv_sub hl [1, 0] rfl) h
  · replace h := zi_f (fun q => q c9) h
    refine lv_iconst (v := (1 : Int32)) F.1 F.2.1 dX19_read__17 (by decide) ?_
    refine lv_goto (tgt := 22) F.1 F.2.1 dX19_read__18 (by decide) ?_
    exact bX19_read__22 hst F hA E  x0 r1 x0 (1 : Int32) hx0 hw4 hx0 hr (lv_sub hl [1, 0] rfl) h
end SX19_read_
set_option maxRecDepth 100000 in
theorem okX19_read_ (l : Launch) (D : va_G) (cy : Nat → ClassId) (B : Nat → Nat → Nat) (ids : List (Nat × Nat)) (hst : zSt B ids) (N : Nat) (x0 : Nat) (hx0 : (19, x0) ∈ ids) (x1 : Int32) (x2 : Int32) {z : St} {r : Int32} {z' : St} (hW : zWf ids z) (h : fX19_read_ N x0 x1 x2 z = some (r, z')) : zM l yX19_read_ (zws yX19_read_ cX19_read_ 4 (some .int)) rmX19_read_ D cy B ids [.ref (B 19 x0), .int x1, .int x2] (some (.int r)) True z z' :=
  zM_of hst hW (by decide +kernel) (Nat.le_of_ble_eq_true rfl) (fun p e s m args below meth c A ls F hA hret hlocks hr hl => bX19_read__0 hst F hA (zEnd_i F hret hlocks) x0 x1 x2 hx0 hr hl h)
abbrev rmX19_readAll : Room := { frames := 4, cells := 0, slots := 0, locals := 86 }
theorem hdX19_readAll : yX19_readAll.cls ≠ "java/lang/invoke/MethodHandle" ∧ yX19_readAll.cls ≠ "java/lang/invoke/VarHandle" ∧ (parseMethodDescriptor yX19_readAll.desc).map (fun d => d.parameters.length) = some 3 := by decide +kernel
theorem hroX19_readAll_X14_readable : rmX14_readable.frames + 1 ≤ rmX19_readAll.frames ∧ 8 + (1 + 11) + rmX14_readable.locals ≤ rmX19_readAll.locals := by decide
theorem hroX19_readAll_X19_canRead : rmX19_canRead.frames + 1 ≤ rmX19_readAll.frames ∧ 8 + (1 + 11) + rmX19_canRead.locals ≤ rmX19_readAll.locals := by decide
theorem hroX19_readAll_X19_endAt : rmX19_endAt.frames + 1 ≤ rmX19_readAll.frames ∧ 8 + (3 + 11) + rmX19_endAt.locals ≤ rmX19_readAll.locals := by decide
theorem hroX19_readAll_X19_fails : rmX19_fails.frames + 1 ≤ rmX19_readAll.frames ∧ 8 + (3 + 11) + rmX19_fails.locals ≤ rmX19_readAll.locals := by decide
theorem hroX19_readAll_X19_isDoor : rmX19_isDoor.frames + 1 ≤ rmX19_readAll.frames ∧ 8 + (3 + 11) + rmX19_isDoor.locals ≤ rmX19_readAll.locals := by decide
theorem hroX19_readAll_X19_read : rmX19_read.frames + 1 ≤ rmX19_readAll.frames ∧ 8 + (4 + 11) + rmX19_read.locals ≤ rmX19_readAll.locals := by decide
section SX19_readAll
variable {p : Program} {l : Launch} {e : Env} {s : State} {m : MethodId} {args : Array Value} {below : List Frame} {meth : Method} {c : Code} {Q : State → Prop} {D : va_G} {cy : Nat → ClassId} {B : Nat → Nat → Nat} {ids : List (Nat × Nat)} {A : Nat → Prop}
def fX19_readAll_62b (N : Nat) (K62 : Nat → Int32 → Option Nat → Int32 → Int32 → St → Option (Int32 × St)) (x0 : Nat) (x3 : Int32) (x4 : Option Nat) (x5 : Int32) (x6 : Int32) (z : St) : Option (Int32 × St) := if x3 ≤ x6 then (some (x5, z)) else (zd x4 fun a2 => zc (fX14_readable N a2 z) fun r3 z4 => if r3 ≤ 0 then (some (x5, z4)) else (zc (fX19_read N x0 a2 z4) fun r8 z9 => zl (((31 : Int32) * x5) + r8) fun v12 => zl (x6 + 1) fun v13 => K62 x0 x3 (some a2) v12 v13 z9))
def fX19_readAll_62 (N : Nat)  : Nat → Nat → Int32 → Option Nat → Int32 → Int32 → St → Option (Int32 × St)
  | 0 => fun _ _ _ _ _ _ => none
  | n + 1 => fX19_readAll_62b N (fX19_readAll_62 N  n)
set_option maxHeartbeats 4000000 in
set_option maxRecDepth 100000 in
theorem bX19_readAll_62 (hst : zSt B ids) (F : zFx p m c cX19_readAll 7 s args RX19 D cy B ids A) (hA : ∀ q : Nat, s.heap.size ≤ q → A q) {r : Int32} {z' : St} (E : zEnd p l e rmX19_readAll s m args below meth c cX19_readAll D cy B ids A Q (some (.int r)) z' .ireturn True) {N : Nat} {K62 : Nat → Int32 → Option Nat → Int32 → Int32 → St → Option (Int32 × St)} (hK62 : ∀ (x0 : Nat) (x3 : Int32) (x4 : Option Nat) (x5 : Int32) (x6 : Int32) (hx0 : (19, x0) ∈ ids) (hx4 : ∀ t, x4 = some t → (14, t) ∈ ids) {z : St} {H : Heap} {locs : List Loc} {ls : Array Slot} (hr : zRep D cy B ids A s.heap z H locs) (hl : lv_has ls 7 [(0, .ref (B 19 x0)), (3, .int x3), (4, va_rf (Option.map (B 14) x4)), (5, .int x5), (6, .int x6)]), K62 x0 x3 x4 x5 x6 z = some (r, z') → W p l e rmX19_readAll s m args below meth c H locs 0 0 Q (F0 m 62 ls [])) (x0 : Nat) (x3 : Int32) (x4 : Option Nat) (x5 : Int32) (x6 : Int32) (hx0 : (19, x0) ∈ ids) (hx4 : ∀ t, x4 = some t → (14, t) ∈ ids) {z : St} {H : Heap} {locs : List Loc} {ls : Array Slot} (hr : zRep D cy B ids A s.heap z H locs) (hl : lv_has ls 7 [(0, .ref (B 19 x0)), (3, .int x3), (4, va_rf (Option.map (B 14) x4)), (5, .int x5), (6, .int x6)]) (h : fX19_readAll_62b N K62 x0 x3 x4 x5 x6 z = some (r, z')) : W p l e rmX19_readAll s m args below meth c H locs 0 0 Q (F0 m 62 ls []) := by
  unfold fX19_readAll_62b at h
  refine lv_iload F.1 F.2.1 dX19_readAll_62 (lv_at hl 4 rfl) ?_
  refine lv_iload_n F.1 F.2.1 dX19_readAll_64 rfl (lv_at hl 1 rfl) ?_
  refine lv_icmp_ge (tgt := 96) F.1 F.2.1 dX19_readAll_65 (by decide) (fun c1 => ?_) (fun c1 => ?_)
  · replace h := zi_t c1 h
    refine lv_iload F.1 F.2.1 dX19_readAll_96 (lv_at hl 3 rfl) ?_
    obtain ⟨rfl, rfl⟩ := zret h
    exact E _ _ _ _ dX19_readAll_98 trivial hr
  · replace h := zi_f c1 h
    refine zr_aload F.1 F.2.1 dX19_readAll_68 (lv_at hl 2 rfl) ?_
    replace h := zd_some h
    obtain ⟨a2, rfl, h⟩ := h
    replace h := zc_some h
    obtain ⟨r3, z4, hc5, h⟩ := h
    refine zr_calli (zrun_VN (As := []) (rest := []) zn_2728 zq_2712 zs_X14_readable zq_2713 zq_21 hdX14_readable (by decide) (T := TX14) (N := 47) rfl (okX14_readable l D cy B ids hst N a2 (hx4 _ rfl) hr.2.2 hc5) F hr (hx4 _ rfl) hl.1 rfl (by decide) dX19_readAll_70 rfl rfl hroX19_readAll_X14_readable ⟨Nat.zero_le _, Nat.zero_le _⟩) F hA hr (fun H locs hw6 hr => ?_)
    clear hc5
    refine lv_if_le (tgt := 96) F.1 F.2.1 dX19_readAll_73 (by decide) (fun c7 => ?_) (fun c7 => ?_)
    · replace h := zi_t c7 h
      refine lv_iload F.1 F.2.1 dX19_readAll_96 (lv_at hl 3 rfl) ?_
      obtain ⟨rfl, rfl⟩ := zret h
      exact E _ _ _ _ dX19_readAll_98 trivial hr
    · replace h := zi_f c7 h
      refine lv_bipush (v := (31 : Int32)) F.1 F.2.1 dX19_readAll_76 (by decide) ?_
      refine lv_iload F.1 F.2.1 dX19_readAll_78 (lv_at hl 3 rfl) ?_
      refine lv_imul F.1 F.2.1 dX19_readAll_80 ?_
      refine lv_aload_n F.1 F.2.1 dX19_readAll_81 rfl (lv_at hl 0 rfl) ?_
      refine lv_aload F.1 F.2.1 dX19_readAll_82 (lv_at hl 2 rfl) ?_
      replace h := zc_some h
      obtain ⟨r8, z9, hc10, h⟩ := h
      refine zr_calli (zrun_V (As := [.ref (B 14 a2)]) (rest := [.int ((31 : Int32) * x5)]) zq_2978 zq_2980 zs_X19_read zq_2981 zq_4 hdX19_read (by decide) (T := TX19) (N := 32) rfl (okX19_read l D cy B ids hst N x0 hx0 a2 (hx4 _ rfl) hr.2.2 hc10) F hr hx0 hl.1 rfl (Nat.le_of_ble_eq_true rfl) dX19_readAll_84 rfl rfl hroX19_readAll_X19_read ⟨Nat.zero_le _, Nat.zero_le _⟩) F hA hr (fun H locs hw11 hr => ?_)
      clear hc10
      refine lv_iadd F.1 F.2.1 dX19_readAll_87 ?_
      refine lv_topi (fun v12 ev12 => ?_)
      replace h := zl_sub ev12 h
      refine lv_istore (lv' := [(5, .int v12), (0, .ref (B 19 x0)), (3, .int x3), (4, .ref (B 14 a2)), (6, .int x6)]) F.1 F.2.1 dX19_readAll_88 hl (by decide) rfl (fun ls hl => ?_)
      obtain ⟨v13, ev13⟩ : ∃ y : Int32, y = (x6 + 1) := ⟨_, rfl⟩
      replace h := zl_sub ev13 h
      refine lv_iinc (v := v13) (lv' := [(6, .int v13), (5, .int v12), (0, .ref (B 19 x0)), (3, .int x3), (4, .ref (B 14 a2))]) F.1 F.2.1 dX19_readAll_90 hl (k := 4) rfl (by rw [ev13]; rfl) (by decide) rfl (fun ls hl => ?_)
      refine lv_goto (tgt := 62) F.1 F.2.1 dX19_readAll_93 (by decide) ?_
      exact hK62 x0 x3 (some a2) v12 v13 hx0 (zal_s (hx4 _ rfl)) hr (lv_sub hl [2, 3, 4, 1, 0] rfl) h
theorem lX19_readAll_62 (hst : zSt B ids) (F : zFx p m c cX19_readAll 7 s args RX19 D cy B ids A) (hA : ∀ q : Nat, s.heap.size ≤ q → A q) {r : Int32} {z' : St} (E : zEnd p l e rmX19_readAll s m args below meth c cX19_readAll D cy B ids A Q (some (.int r)) z' .ireturn True) {N : Nat}  : ∀ (n : Nat) (x0 : Nat) (x3 : Int32) (x4 : Option Nat) (x5 : Int32) (x6 : Int32) (hx0 : (19, x0) ∈ ids) (hx4 : ∀ t, x4 = some t → (14, t) ∈ ids) {z : St} {H : Heap} {locs : List Loc} {ls : Array Slot} (hr : zRep D cy B ids A s.heap z H locs) (hl : lv_has ls 7 [(0, .ref (B 19 x0)), (3, .int x3), (4, va_rf (Option.map (B 14) x4)), (5, .int x5), (6, .int x6)]), fX19_readAll_62 N  n x0 x3 x4 x5 x6 z = some (r, z') → W p l e rmX19_readAll s m args below meth c H locs 0 0 Q (F0 m 62 ls []) := by
  intro n
  induction n with
  | zero => intro x0 x3 x4 x5 x6 hx0 hx4 z H locs ls hr hl h; cases h
  | succ n ih => intro x0 x3 x4 x5 x6 hx0 hx4 z H locs ls hr hl h; exact bX19_readAll_62 hst F hA E ih x0 x3 x4 x5 x6 hx0 hx4 hr hl h
def fX19_readAll_48 (N : Nat)  (x0 : Nat) (x3 : Int32) (x4 : Option Nat) (s0 : Nat) (s1 : Int32) (s2 : Int32) (z : St) : Option (Int32 × St) := zc (fX19_fails N s0 s1 s2 z) fun r1 z2 => if r1 = 0 then (fX19_readAll_62 N N x0 x3 x4 (1 : Int32) (0 : Int32) z2) else (some ((0 : Int32), z2))
set_option maxHeartbeats 4000000 in
set_option maxRecDepth 100000 in
theorem bX19_readAll_48 (hst : zSt B ids) (F : zFx p m c cX19_readAll 7 s args RX19 D cy B ids A) (hA : ∀ q : Nat, s.heap.size ≤ q → A q) {r : Int32} {z' : St} (E : zEnd p l e rmX19_readAll s m args below meth c cX19_readAll D cy B ids A Q (some (.int r)) z' .ireturn True) {N : Nat}  (x0 : Nat) (x3 : Int32) (x4 : Option Nat) (s0 : Nat) (s1 : Int32) (s2 : Int32) (hx0 : (19, x0) ∈ ids) (hx4 : ∀ t, x4 = some t → (14, t) ∈ ids) (hs0 : (19, s0) ∈ ids) {z : St} {H : Heap} {locs : List Loc} {ls : Array Slot} (hr : zRep D cy B ids A s.heap z H locs) (hl : lv_has ls 7 [(0, .ref (B 19 x0)), (3, .int x3), (4, va_rf (Option.map (B 14) x4))]) (h : fX19_readAll_48 N x0 x3 x4 s0 s1 s2 z = some (r, z')) : W p l e rmX19_readAll s m args below meth c H locs 0 0 Q (F0 m 48 ls [.int s2, .int s1, .ref (B 19 s0)]) := by
  unfold fX19_readAll_48 at h
  replace h := zc_some h
  obtain ⟨r1, z2, hc3, h⟩ := h
  refine zr_calli (zrun_V (As := [.int s1, .int s2]) (rest := []) zq_2402 zq_2404 zs_X19_fails zq_2405 zq_4 hdX19_fails (by decide) (T := TX19) (N := 32) rfl (okX19_fails l D cy B ids hst N s0 hs0 s1  s2  hr.2.2 hc3) F hr hs0 hl.1 rfl (by decide) dX19_readAll_48 rfl rfl hroX19_readAll_X19_fails ⟨Nat.zero_le _, Nat.zero_le _⟩) F hA hr (fun H locs hw4 hr => ?_)
  clear hc3
  refine lv_if_eq (tgt := 56) F.1 F.2.1 dX19_readAll_51 (by decide) (fun c5 => ?_) (fun c5 => ?_)
  · replace h := zi_t c5 h
    refine lv_iconst (v := (1 : Int32)) F.1 F.2.1 dX19_readAll_56 (by decide) ?_
    refine lv_istore (lv' := [(5, .int (1 : Int32)), (0, .ref (B 19 x0)), (3, .int x3), (4, va_rf (Option.map (B 14) x4))]) F.1 F.2.1 dX19_readAll_57 hl (by decide) (by simp only [List.filter, zrf_cat]; rfl) (fun ls hl => ?_)
    refine lv_iconst (v := (0 : Int32)) F.1 F.2.1 dX19_readAll_59 (by decide) ?_
    refine lv_istore (lv' := [(6, .int (0 : Int32)), (5, .int (1 : Int32)), (0, .ref (B 19 x0)), (3, .int x3), (4, va_rf (Option.map (B 14) x4))]) F.1 F.2.1 dX19_readAll_60 hl (by decide) rfl (fun ls hl => ?_)
    exact lX19_readAll_62 hst F hA E  _ x0 x3 x4 (1 : Int32) (0 : Int32) hx0 hx4 hr (lv_sub hl [2, 3, 4, 1, 0] rfl) h
  · replace h := zi_f c5 h
    refine lv_iconst (v := (0 : Int32)) F.1 F.2.1 dX19_readAll_54 (by decide) ?_
    obtain ⟨rfl, rfl⟩ := zret h
    exact E _ _ _ _ dX19_readAll_55 trivial hr
def fX19_readAll_35 (N : Nat)  (x0 : Nat) (x3 : Int32) (x4 : Option Nat) (s0 : Nat) (s1 : Int32) (z : St) : Option (Int32 × St) := zc (fX19_canRead N x4 z) fun r1 z2 => if ¬ r1 = 0 then (fX19_readAll_48 N x0 x3 x4 s0 s1 (0 : Int32) z2) else (fX19_readAll_48 N x0 x3 x4 s0 s1 (1 : Int32) z2)
set_option maxHeartbeats 4000000 in
set_option maxRecDepth 100000 in
theorem bX19_readAll_35 (hst : zSt B ids) (F : zFx p m c cX19_readAll 7 s args RX19 D cy B ids A) (hA : ∀ q : Nat, s.heap.size ≤ q → A q) {r : Int32} {z' : St} (E : zEnd p l e rmX19_readAll s m args below meth c cX19_readAll D cy B ids A Q (some (.int r)) z' .ireturn True) {N : Nat}  (x0 : Nat) (x3 : Int32) (x4 : Option Nat) (s0 : Nat) (s1 : Int32) (hx0 : (19, x0) ∈ ids) (hx4 : ∀ t, x4 = some t → (14, t) ∈ ids) (hs0 : (19, s0) ∈ ids) {z : St} {H : Heap} {locs : List Loc} {ls : Array Slot} (hr : zRep D cy B ids A s.heap z H locs) (hl : lv_has ls 7 [(0, .ref (B 19 x0)), (3, .int x3), (4, va_rf (Option.map (B 14) x4))]) (h : fX19_readAll_35 N x0 x3 x4 s0 s1 z = some (r, z')) : W p l e rmX19_readAll s m args below meth c H locs 0 0 Q (F0 m 35 ls [.int s1, .ref (B 19 s0)]) := by
  unfold fX19_readAll_35 at h
  refine zr_aload F.1 F.2.1 dX19_readAll_35 (lv_at hl 2 rfl) ?_
  replace h := zc_some h
  obtain ⟨r1, z2, hc3, h⟩ := h
  refine zr_calli (zrun_S (As := [va_rf (Option.map (B 14) x4)]) (rest := [.int s1, .ref (B 19 s0)]) zq_3049 zq_3050 zq_3051 zq_4 hdX19_canRead (okX19_canRead l D cy B ids hst N x4 hx4 hr.2.2 hc3) F hr hl.1 rfl (Nat.le_of_ble_eq_true rfl) dX19_readAll_37 rfl rfl hroX19_readAll_X19_canRead ⟨Nat.zero_le _, Nat.zero_le _⟩) F hA hr (fun H locs hw4 hr => ?_)
  clear hc3
  refine lv_if_ne (tgt := 47) F.1 F.2.1 dX19_readAll_40 (by decide) (fun c5 => ?_) (fun c5 => ?_)
  · replace h := zi_t c5 h
    refine lv_iconst (v := (0 : Int32)) F.1 F.2.1 dX19_readAll_47 (by decide) ?_
    exact bX19_readAll_48 hst F hA E  x0 x3 x4 s0 s1 (0 : Int32) hx0 hx4 hs0 hr (lv_sub hl [0, 1, 2] rfl) h
  · replace h := zi_f (fun q => q c5) h
    refine lv_iconst (v := (1 : Int32)) F.1 F.2.1 dX19_readAll_43 (by decide) ?_
    refine lv_goto (tgt := 48) F.1 F.2.1 dX19_readAll_44 (by decide) ?_
    exact bX19_readAll_48 hst F hA E  x0 x3 x4 s0 s1 (1 : Int32) hx0 hx4 hs0 hr (lv_sub hl [0, 1, 2] rfl) h
def fX19_readAll_30 (N : Nat)  (x0 : Nat) (x3 : Int32) (x4 : Option Nat) (s0 : Nat) (z : St) : Option (Int32 × St) := fX19_readAll_35 N x0 x3 x4 s0 (1 : Int32) z
set_option maxHeartbeats 4000000 in
set_option maxRecDepth 100000 in
theorem bX19_readAll_30 (hst : zSt B ids) (F : zFx p m c cX19_readAll 7 s args RX19 D cy B ids A) (hA : ∀ q : Nat, s.heap.size ≤ q → A q) {r : Int32} {z' : St} (E : zEnd p l e rmX19_readAll s m args below meth c cX19_readAll D cy B ids A Q (some (.int r)) z' .ireturn True) {N : Nat}  (x0 : Nat) (x3 : Int32) (x4 : Option Nat) (s0 : Nat) (hx0 : (19, x0) ∈ ids) (hx4 : ∀ t, x4 = some t → (14, t) ∈ ids) (hs0 : (19, s0) ∈ ids) {z : St} {H : Heap} {locs : List Loc} {ls : Array Slot} (hr : zRep D cy B ids A s.heap z H locs) (hl : lv_has ls 7 [(0, .ref (B 19 x0)), (3, .int x3), (4, va_rf (Option.map (B 14) x4))]) (h : fX19_readAll_30 N x0 x3 x4 s0 z = some (r, z')) : W p l e rmX19_readAll s m args below meth c H locs 0 0 Q (F0 m 30 ls [.ref (B 19 s0)]) := by
  unfold fX19_readAll_30 at h
  refine lv_iconst (v := (1 : Int32)) F.1 F.2.1 dX19_readAll_30 (by decide) ?_
  refine lv_goto (tgt := 35) F.1 F.2.1 dX19_readAll_31 (by decide) ?_
  exact bX19_readAll_35 hst F hA E  x0 x3 x4 s0 (1 : Int32) hx0 hx4 hs0 hr (lv_sub hl [0, 1, 2] rfl) h
def fX19_readAll (N : Nat)  (x0 : Nat) (x1 : Int32) (x2 : Int32) (x3 : Int32) (z : St) : Option (Int32 × St) := zc (fX19_endAt N x0 x1 x2 z) fun r1 z2 => zc (fX19_isDoor N x0 x1 x2 z2) fun r5 z6 => if r5 = 0 then (fX19_readAll_30 N x0 x3 r1 x0 z6) else (if x3 < (1 : Int32) then (fX19_readAll_30 N x0 x3 r1 x0 z6) else (if x3 ≤ (2048 : Int32) then (fX19_readAll_35 N x0 x3 r1 x0 (0 : Int32) z6) else (fX19_readAll_30 N x0 x3 r1 x0 z6)))
set_option maxHeartbeats 4000000 in
set_option maxRecDepth 100000 in
theorem bX19_readAll_0 (hst : zSt B ids) (F : zFx p m c cX19_readAll 7 s args RX19 D cy B ids A) (hA : ∀ q : Nat, s.heap.size ≤ q → A q) {r : Int32} {z' : St} (E : zEnd p l e rmX19_readAll s m args below meth c cX19_readAll D cy B ids A Q (some (.int r)) z' .ireturn True) {N : Nat}  (x0 : Nat) (x1 : Int32) (x2 : Int32) (x3 : Int32) (hx0 : (19, x0) ∈ ids) {z : St} {H : Heap} {locs : List Loc} {ls : Array Slot} (hr : zRep D cy B ids A s.heap z H locs) (hl : lv_has ls 7 [(0, .ref (B 19 x0)), (1, .int x1), (2, .int x2), (3, .int x3)]) (h : fX19_readAll N x0 x1 x2 x3 z = some (r, z')) : W p l e rmX19_readAll s m args below meth c H locs 0 0 Q (F0 m 0 ls []) := by
  unfold fX19_readAll at h
  refine lv_aload_n F.1 F.2.1 dX19_readAll_0 rfl (lv_at hl 0 rfl) ?_
  refine lv_iload_n F.1 F.2.1 dX19_readAll_1 rfl (lv_at hl 1 rfl) ?_
  refine lv_iload_n F.1 F.2.1 dX19_readAll_2 rfl (lv_at hl 2 rfl) ?_
  replace h := zc_some h
  obtain ⟨r1, z2, hc3, h⟩ := h
  refine zr_callr (zrun_V (As := [.int x1, .int x2]) (rest := []) zq_3020 zq_3022 zs_X19_endAt zq_3023 zq_4 hdX19_endAt (by decide) (T := TX19) (N := 32) rfl (okX19_endAt l D cy B ids hst N x0 hx0 x1  x2  hr.2.2 hc3) F hr hx0 hl.1 rfl (by decide) dX19_readAll_3 rfl rfl hroX19_readAll_X19_endAt ⟨Nat.zero_le _, Nat.zero_le _⟩) F hA hr (fun H locs hw4 hr => ?_)
  clear hc3
  refine zr_astore (lv' := [(4, va_rf (Option.map (B 14) r1)), (0, .ref (B 19 x0)), (1, .int x1), (2, .int x2), (3, .int x3)]) F.1 F.2.1 dX19_readAll_6 hl (by decide) rfl (fun ls hl => ?_)
  refine lv_aload_n F.1 F.2.1 dX19_readAll_8 rfl (lv_at hl 1 rfl) ?_
  refine lv_aload_n F.1 F.2.1 dX19_readAll_9 rfl (lv_at hl 1 rfl) ?_
  refine lv_iload_n F.1 F.2.1 dX19_readAll_10 rfl (lv_at hl 2 rfl) ?_
  refine lv_iload_n F.1 F.2.1 dX19_readAll_11 rfl (lv_at hl 3 rfl) ?_
  replace h := zc_some h
  obtain ⟨r5, z6, hc7, h⟩ := h
  refine zr_calli (zrun_V (As := [.int x1, .int x2]) (rest := [.ref (B 19 x0)]) zq_3012 zq_3014 zs_X19_isDoor zq_3015 zq_4 hdX19_isDoor (by decide) (T := TX19) (N := 32) rfl (okX19_isDoor l D cy B ids hst N x0 hx0 x1  x2  hr.2.2 hc7) F hr hx0 hl.1 rfl (Nat.le_of_ble_eq_true rfl) dX19_readAll_12 rfl rfl hroX19_readAll_X19_isDoor ⟨Nat.zero_le _, Nat.zero_le _⟩) F hA hr (fun H locs hw8 hr => ?_)
  clear hc7
  refine lv_if_eq (tgt := 30) F.1 F.2.1 dX19_readAll_15 (by decide) (fun c9 => ?_) (fun c9 => ?_)
  · replace h := zi_t c9 h
    exact bX19_readAll_30 hst F hA E  x0 x3 r1 x0 hx0 hw4 hx0 hr (lv_sub hl [1, 4, 0] rfl) h
  · replace h := zi_f c9 h
    refine lv_iload_n F.1 F.2.1 dX19_readAll_18 rfl (lv_at hl 4 rfl) ?_
    refine lv_iconst (v := (1 : Int32)) F.1 F.2.1 dX19_readAll_19 (by decide) ?_
    refine lv_icmp_lt (tgt := 30) F.1 F.2.1 dX19_readAll_20 (by decide) (fun c10 => ?_) (fun c10 => ?_)
    · replace h := zi_t c10 h
      exact bX19_readAll_30 hst F hA E  x0 x3 r1 x0 hx0 hw4 hx0 hr (lv_sub hl [1, 4, 0] rfl) h
    · replace h := zi_f c10 h
      refine lv_iload_n F.1 F.2.1 dX19_readAll_23 rfl (lv_at hl 4 rfl) ?_
      refine lv_sipush (v := (2048 : Int32)) F.1 F.2.1 dX19_readAll_24 (by decide) ?_
      refine lv_icmp_le (tgt := 34) F.1 F.2.1 dX19_readAll_27 (by decide) (fun c11 => ?_) (fun c11 => ?_)
      · replace h := zi_t c11 h
        refine lv_iconst (v := (0 : Int32)) F.1 F.2.1 dX19_readAll_34 (by decide) ?_
        exact bX19_readAll_35 hst F hA E  x0 x3 r1 x0 (0 : Int32) hx0 hw4 hx0 hr (lv_sub hl [1, 4, 0] rfl) h
      · replace h := zi_f c11 h
        exact bX19_readAll_30 hst F hA E  x0 x3 r1 x0 hx0 hw4 hx0 hr (lv_sub hl [1, 4, 0] rfl) h
end SX19_readAll
set_option maxRecDepth 100000 in
theorem okX19_readAll (l : Launch) (D : va_G) (cy : Nat → ClassId) (B : Nat → Nat → Nat) (ids : List (Nat × Nat)) (hst : zSt B ids) (N : Nat) (x0 : Nat) (hx0 : (19, x0) ∈ ids) (x1 : Int32) (x2 : Int32) (x3 : Int32) {z : St} {r : Int32} {z' : St} (hW : zWf ids z) (h : fX19_readAll N x0 x1 x2 x3 z = some (r, z')) : zM l yX19_readAll (zws yX19_readAll cX19_readAll 7 (some .int)) rmX19_readAll D cy B ids [.ref (B 19 x0), .int x1, .int x2, .int x3] (some (.int r)) True z z' :=
  zM_of hst hW (by decide +kernel) (Nat.le_of_ble_eq_true rfl) (fun p e s m args below meth c A ls F hA hret hlocks hr hl => bX19_readAll_0 hst F hA (zEnd_i F hret hlocks) x0 x1 x2 x3 hx0 hr hl h)
