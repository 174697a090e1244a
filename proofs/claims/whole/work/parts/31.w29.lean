abbrev rmX19_newBooks : Room := { frames := 1, cells := 0, slots := 0, locals := 21 }
theorem hdX19_newBooks : yX19_newBooks.cls ≠ "java/lang/invoke/MethodHandle" ∧ yX19_newBooks.cls ≠ "java/lang/invoke/VarHandle" ∧ (parseMethodDescriptor yX19_newBooks.desc).map (fun d => d.parameters.length) = some 1 := by decide +kernel
theorem hroX19_newBooks_X19_dropBook : rmX19_dropBook.frames + 1 ≤ rmX19_newBooks.frames ∧ 8 + (2 + 11) + rmX19_dropBook.locals ≤ rmX19_newBooks.locals := by decide
theorem hroX19_newBooks_X19_newBook : rmX19_newBook.frames + 1 ≤ rmX19_newBooks.frames ∧ 8 + (2 + 11) + rmX19_newBook.locals ≤ rmX19_newBooks.locals := by decide
section SX19_newBooks
variable {p : Program} {l : Launch} {e : Env} {s : State} {m : MethodId} {args : Array Value} {below : List Frame} {meth : Method} {c : Code} {Q : State → Prop} {D : va_G} {cy : Nat → ClassId} {B : Nat → Nat → Nat} {ids : List (Nat × Nat)} {A : Nat → Prop}
def fX19_newBooks (N : Nat)  (x0 : Nat) (x1 : Nat) (z : St) : Option (Int32 × St) := zc (fX19_dropBook N x0 (zgI z 14 44 x1) z) fun _ z2 => zc (fX19_dropBook N x0 (zgI z2 14 45 x1) z2) fun _ z6 => zc (fX19_newBook N x0 z6) fun r9 z10 => zl (zsI z10 14 44 x1 r9) fun z13 => zl (zsI z13 14 45 x1 (-1 : Int32)) fun z14 => some (0, z14)
set_option maxHeartbeats 4000000 in
set_option maxRecDepth 100000 in
theorem bX19_newBooks_0 (hst : zSt B ids) (F : zFx p m c cX19_newBooks 2 s args RX19 D cy B ids A) (hA : ∀ q : Nat, s.heap.size ≤ q → A q) {r : Int32} {z' : St} (E : zEnd p l e rmX19_newBooks s m args below meth c cX19_newBooks D cy B ids A Q none z' .return_ True) {N : Nat}  (x0 : Nat) (x1 : Nat) (hx0 : (19, x0) ∈ ids) (hx1 : (14, x1) ∈ ids) {z : St} {H : Heap} {locs : List Loc} {ls : Array Slot} (hr : zRep D cy B ids A s.heap z H locs) (hl : lv_has ls 2 [(0, .ref (B 19 x0)), (1, .ref (B 14 x1))]) (h : fX19_newBooks N x0 x1 z = some (r, z')) : W p l e rmX19_newBooks s m args below meth c H locs 0 0 Q (F0 m 0 ls []) := by
  unfold fX19_newBooks at h
  refine lv_aload_n F.1 F.2.1 dX19_newBooks_0 rfl (lv_at hl 0 rfl) ?_
  refine lv_aload_n F.1 F.2.1 dX19_newBooks_1 rfl (lv_at hl 1 rfl) ?_
  refine gf19_732 F hx1 hr dX19_newBooks_2 ?_
  replace h := zc_some h
  obtain ⟨r1, z2, hc3, h⟩ := h
  refine zr_callv (zrun_V (As := [.int (zgI z 14 44 x1)]) (rest := []) zq_2561 zq_2563 zs_X19_dropBook zq_2564 zq_4 hdX19_dropBook (by decide) (T := TX19) (N := 32) rfl (okX19_dropBook l D cy B ids hst N x0 hx0 (zgI z 14 44 x1)  hr.2.2 hc3) F hr hx0 hl.1 rfl (by decide) dX19_newBooks_5 rfl rfl hroX19_newBooks_X19_dropBook ⟨Nat.zero_le _, Nat.zero_le _⟩) F hA hr (fun H locs hw4 hr => ?_)
  clear hc3
  refine lv_aload_n F.1 F.2.1 dX19_newBooks_8 rfl (lv_at hl 0 rfl) ?_
  refine lv_aload_n F.1 F.2.1 dX19_newBooks_9 rfl (lv_at hl 1 rfl) ?_
  refine gf19_594 F hx1 hr dX19_newBooks_10 ?_
  replace h := zc_some h
  obtain ⟨r5, z6, hc7, h⟩ := h
  refine zr_callv (zrun_V (As := [.int (zgI z2 14 45 x1)]) (rest := []) zq_2561 zq_2563 zs_X19_dropBook zq_2564 zq_4 hdX19_dropBook (by decide) (T := TX19) (N := 32) rfl (okX19_dropBook l D cy B ids hst N x0 hx0 (zgI z2 14 45 x1)  hr.2.2 hc7) F hr hx0 hl.1 rfl (by decide) dX19_newBooks_13 rfl rfl hroX19_newBooks_X19_dropBook ⟨Nat.zero_le _, Nat.zero_le _⟩) F hA hr (fun H locs hw8 hr => ?_)
  clear hc7
  refine lv_aload_n F.1 F.2.1 dX19_newBooks_16 rfl (lv_at hl 1 rfl) ?_
  refine lv_aload_n F.1 F.2.1 dX19_newBooks_17 rfl (lv_at hl 0 rfl) ?_
  replace h := zc_some h
  obtain ⟨r9, z10, hc11, h⟩ := h
  refine zr_calli (zrun_V (As := []) (rest := [.ref (B 14 x1)]) zq_2749 zq_2751 zs_X19_newBook zq_2752 zq_4 hdX19_newBook (by decide) (T := TX19) (N := 32) rfl (okX19_newBook l D cy B ids hst N x0 hx0 hr.2.2 hc11) F hr hx0 hl.1 rfl (Nat.le_of_ble_eq_true rfl) dX19_newBooks_18 rfl rfl hroX19_newBooks_X19_newBook ⟨Nat.zero_le _, Nat.zero_le _⟩) F hA hr (fun H locs hw12 hr => ?_)
  clear hc11
  refine pf19_732 F hx1 hr dX19_newBooks_21 r9 (fun H locs z13 ez13 hr => ?_)
  replace h := zl_sub ez13 h
  clear ez13
  refine lv_aload_n F.1 F.2.1 dX19_newBooks_24 rfl (lv_at hl 1 rfl) ?_
  refine lv_iconst (v := (-1 : Int32)) F.1 F.2.1 dX19_newBooks_25 (by decide) ?_
  refine pf19_594 F hx1 hr dX19_newBooks_26 (-1 : Int32) (fun H locs z14 ez14 hr => ?_)
  replace h := zl_sub ez14 h
  clear ez14
  obtain ⟨rfl, rfl⟩ := zret h
  exact E _ _ _ _ dX19_newBooks_29 trivial hr
end SX19_newBooks
set_option maxRecDepth 100000 in
theorem okX19_newBooks (l : Launch) (D : va_G) (cy : Nat → ClassId) (B : Nat → Nat → Nat) (ids : List (Nat × Nat)) (hst : zSt B ids) (N : Nat) (x0 : Nat) (hx0 : (19, x0) ∈ ids) (x1 : Nat) (hx1 : (14, x1) ∈ ids) {z : St} {r : Int32} {z' : St} (hW : zWf ids z) (h : fX19_newBooks N x0 x1 z = some (r, z')) : zM l yX19_newBooks (zws yX19_newBooks cX19_newBooks 2 none) rmX19_newBooks D cy B ids [.ref (B 19 x0), .ref (B 14 x1)] none True z z' :=
  zM_of hst hW (by decide +kernel) (Nat.le_of_ble_eq_true rfl) (fun p e s m args below meth c A ls F hA hret hlocks hr hl => bX19_newBooks_0 hst F hA (zEnd_v F hret hlocks) x0 x1 hx0 hx1 hr hl h)
abbrev rmX19_giveEnd : Room := { frames := 2, cells := 0, slots := 0, locals := 42 }
theorem hdX19_giveEnd : yX19_giveEnd.cls ≠ "java/lang/invoke/MethodHandle" ∧ yX19_giveEnd.cls ≠ "java/lang/invoke/VarHandle" ∧ (parseMethodDescriptor yX19_giveEnd.desc).map (fun d => d.parameters.length) = some 5 := by decide +kernel
theorem hroX19_giveEnd_X14_begin : rmX14_begin.frames + 1 ≤ rmX19_giveEnd.frames ∧ 8 + (4 + 11) + rmX14_begin.locals ≤ rmX19_giveEnd.locals := by decide
theorem hroX19_giveEnd_X19_newBooks : rmX19_newBooks.frames + 1 ≤ rmX19_giveEnd.frames ∧ 8 + (2 + 11) + rmX19_newBooks.locals ≤ rmX19_giveEnd.locals := by decide
section SX19_giveEnd
variable {p : Program} {l : Launch} {e : Env} {s : State} {m : MethodId} {args : Array Value} {below : List Frame} {meth : Method} {c : Code} {Q : State → Prop} {D : va_G} {cy : Nat → ClassId} {B : Nat → Nat → Nat} {ids : List (Nat × Nat)} {A : Nat → Prop}
def fX19_giveEnd (N : Nat)  (x0 : Nat) (x1 : Nat) (x2 : Nat) (x3 : Int32) (x4 : Int32) (x5 : Int32) (z : St) : Option (Int32 × St) := zl (zgR z 13 4 x2) fun y1 => zk (0 : Int32) 6 <| zl (zgQ z 147 x1 (Int32.toNatClampNeg (0 : Int32))) fun y3 => zd y3 fun a4 => zl (zgR z 18 2 a4) fun y5 => zd y5 fun a6 => zd y1 fun a7 => zc (fX14_begin N a7 (((64000 : Int32) * (zgI z 19 24 x0)) + ((977 : Int32) * (zgI z 12 0 x1))) ((zgI z 16 1 a6) - (40 : Int32)) z) fun _ z9 => zl (zsI z9 14 24 a7 (0 : Int32)) fun z12 => zc (fX19_newBooks N x0 a7 z12) fun _ z14 => zl (zsI z14 14 2 a7 x3) fun z17 => zl (zsI z17 14 3 a7 x4) fun z18 => zl (zsI z18 14 4 a7 x5) fun z19 => zl (zsI z19 13 3 x2 (1 : Int32)) fun z20 => zl (zsI z20 13 5 x2 (-1 : Int32)) fun z21 => zl (zsI z21 13 6 x2 (0 : Int32)) fun z22 => zl (zsI z22 13 7 x2 (0 : Int32)) fun z23 => zl (zsI z23 13 8 x2 (0 : Int32)) fun z24 => zl (zsI z24 13 9 x2 (1 : Int32)) fun z25 => some (0, z25)
set_option maxHeartbeats 4000000 in
set_option maxRecDepth 100000 in
theorem bX19_giveEnd_0 (hst : zSt B ids) (F : zFx p m c cX19_giveEnd 7 s args RX19 D cy B ids A) (hA : ∀ q : Nat, s.heap.size ≤ q → A q) {r : Int32} {z' : St} (E : zEnd p l e rmX19_giveEnd s m args below meth c cX19_giveEnd D cy B ids A Q none z' .return_ True) {N : Nat}  (x0 : Nat) (x1 : Nat) (x2 : Nat) (x3 : Int32) (x4 : Int32) (x5 : Int32) (hx0 : (19, x0) ∈ ids) (hx1 : (12, x1) ∈ ids) (hx2 : (13, x2) ∈ ids) {z : St} {H : Heap} {locs : List Loc} {ls : Array Slot} (hr : zRep D cy B ids A s.heap z H locs) (hl : lv_has ls 7 [(0, .ref (B 19 x0)), (1, .ref (B 12 x1)), (2, .ref (B 13 x2)), (3, .int x3), (4, .int x4), (5, .int x5)]) (h : fX19_giveEnd N x0 x1 x2 x3 x4 x5 z = some (r, z')) : W p l e rmX19_giveEnd s m args below meth c H locs 0 0 Q (F0 m 0 ls []) := by
  unfold fX19_giveEnd at h
  refine lv_aload_n F.1 F.2.1 dX19_giveEnd_0 rfl (lv_at hl 2 rfl) ?_
  refine gf19_344 F hx2 hr dX19_giveEnd_1 (fun y1 ey1 => ?_)
  replace h := zl_sub ey1 h
  have hy1 := zal_g hr hx2 (j := 4) rfl ey1
  clear ey1
  refine zr_astore (lv' := [(6, va_rf (Option.map (B 14) y1)), (0, .ref (B 19 x0)), (1, .ref (B 12 x1)), (2, .ref (B 13 x2)), (3, .int x3), (4, .int x4), (5, .int x5)]) F.1 F.2.1 dX19_giveEnd_4 hl (by decide) rfl (fun ls hl => ?_)
  refine zr_aload F.1 F.2.1 dX19_giveEnd_6 (lv_at hl 0 rfl) ?_
  refine lv_ldcw (v := (64000)) F.1 F.2.1 F.2.2.2.1 (F.2.2.2.2.1 _ zq_2744) dX19_giveEnd_8 ?_
  refine lv_aload_n F.1 F.2.1 dX19_giveEnd_11 rfl (lv_at hl 1 rfl) ?_
  refine gf19_143 F hx0 hr dX19_giveEnd_12 ?_
  refine lv_imul F.1 F.2.1 dX19_giveEnd_15 ?_
  refine lv_sipush (v := (977 : Int32)) F.1 F.2.1 dX19_giveEnd_16 (by decide) ?_
  refine lv_aload_n F.1 F.2.1 dX19_giveEnd_19 rfl (lv_at hl 2 rfl) ?_
  refine gf19_310 F hx1 hr dX19_giveEnd_20 ?_
  refine lv_imul F.1 F.2.1 dX19_giveEnd_23 ?_
  refine lv_iadd F.1 F.2.1 dX19_giveEnd_24 ?_
  refine lv_aload_n F.1 F.2.1 dX19_giveEnd_25 rfl (lv_at hl 2 rfl) ?_
  refine gf19_276 F hx1 hr dX19_giveEnd_26 ?_
  refine lv_iconst (v := (0 : Int32)) F.1 F.2.1 dX19_giveEnd_29 (by decide) ?_
  replace h := zk_some h
  obtain ⟨c2, h⟩ := h
  refine zr_aaldv (k := 147) (by decide) rfl rfl (zlen_d (by decide)) F (zal_a F hx1 (j := 2) rfl) hr dX19_giveEnd_30 c2 (fun y3 ey3 => ?_)
  replace h := zl_sub ey3 h
  have hy3 := zal_q hr (zal_a F hx1 (j := 2) rfl) rfl ey3
  clear ey3
  replace h := zd_some h
  obtain ⟨a4, rfl, h⟩ := h
  refine gf19_149 F (hy3 _ rfl) hr dX19_giveEnd_31 (fun y5 ey5 => ?_)
  replace h := zl_sub ey5 h
  have hy5 := zal_g hr (hy3 _ rfl) (j := 2) rfl ey5
  clear ey5
  replace h := zd_some h
  obtain ⟨a6, rfl, h⟩ := h
  refine gf19_191 F (hy5 _ rfl) hr dX19_giveEnd_34 ?_
  refine lv_bipush (v := (40 : Int32)) F.1 F.2.1 dX19_giveEnd_37 (by decide) ?_
  refine lv_isub F.1 F.2.1 dX19_giveEnd_39 ?_
  replace h := zd_some h
  obtain ⟨a7, rfl, h⟩ := h
  replace h := zc_some h
  obtain ⟨r8, z9, hc10, h⟩ := h
  refine zr_callv (zrun_VN (As := [.int (((64000 : Int32) * (zgI z 19 24 x0)) + ((977 : Int32) * (zgI z 12 0 x1))), .int ((zgI z 16 1 a6) - (40 : Int32))]) (rest := []) zn_2729 zq_2731 zs_X14_begin zq_2732 zq_21 hdX14_begin (by decide) (T := TX14) (N := 47) rfl (okX14_begin l D cy B ids hst N a7 (hy1 _ rfl) (((64000 : Int32) * (zgI z 19 24 x0)) + ((977 : Int32) * (zgI z 12 0 x1)))  ((zgI z 16 1 a6) - (40 : Int32))  hr.2.2 hc10) F hr (hy1 _ rfl) hl.1 rfl (by decide) dX19_giveEnd_40 rfl rfl hroX19_giveEnd_X14_begin ⟨Nat.zero_le _, Nat.zero_le _⟩) F hA hr (fun H locs hw11 hr => ?_)
  clear hc10
  refine lv_aload F.1 F.2.1 dX19_giveEnd_43 (lv_at hl 0 rfl) ?_
  refine lv_iconst (v := (0 : Int32)) F.1 F.2.1 dX19_giveEnd_45 (by decide) ?_
  refine pf19_694 F (hy1 _ rfl) hr dX19_giveEnd_46 (0 : Int32) (by decide) (fun H locs z12 ez12 hr => ?_)
  replace h := zl_sub ez12 h
  clear ez12
  refine lv_aload_n F.1 F.2.1 dX19_giveEnd_49 rfl (lv_at hl 1 rfl) ?_
  refine lv_aload F.1 F.2.1 dX19_giveEnd_50 (lv_at hl 0 rfl) ?_
  replace h := zc_some h
  obtain ⟨r13, z14, hc15, h⟩ := h
  refine zr_callv (zrun_V (As := [.ref (B 14 a7)]) (rest := []) zq_2745 zq_2747 zs_X19_newBooks zq_2748 zq_4 hdX19_newBooks (by decide) (T := TX19) (N := 32) rfl (okX19_newBooks l D cy B ids hst N x0 hx0 a7 (hy1 _ rfl) hr.2.2 hc15) F hr hx0 hl.1 rfl (by decide) dX19_giveEnd_52 rfl rfl hroX19_giveEnd_X19_newBooks ⟨Nat.zero_le _, Nat.zero_le _⟩) F hA hr (fun H locs hw16 hr => ?_)
  clear hc15
  refine lv_aload F.1 F.2.1 dX19_giveEnd_55 (lv_at hl 0 rfl) ?_
  refine lv_iload_n F.1 F.2.1 dX19_giveEnd_57 rfl (lv_at hl 4 rfl) ?_
  refine pf19_358 F (hy1 _ rfl) hr dX19_giveEnd_58 x3 (fun H locs z17 ez17 hr => ?_)
  replace h := zl_sub ez17 h
  clear ez17
  refine lv_aload F.1 F.2.1 dX19_giveEnd_61 (lv_at hl 0 rfl) ?_
  refine lv_iload F.1 F.2.1 dX19_giveEnd_63 (lv_at hl 5 rfl) ?_
  refine pf19_361 F (hy1 _ rfl) hr dX19_giveEnd_65 x4 (fun H locs z18 ez18 hr => ?_)
  replace h := zl_sub ez18 h
  clear ez18
  refine lv_aload F.1 F.2.1 dX19_giveEnd_68 (lv_at hl 0 rfl) ?_
  refine lv_iload F.1 F.2.1 dX19_giveEnd_70 (lv_at hl 6 rfl) ?_
  refine pf19_364 F (hy1 _ rfl) hr dX19_giveEnd_72 x5 (fun H locs z19 ez19 hr => ?_)
  replace h := zl_sub ez19 h
  clear ez19
  refine lv_aload_n F.1 F.2.1 dX19_giveEnd_75 rfl (lv_at hl 3 rfl) ?_
  refine lv_iconst (v := (1 : Int32)) F.1 F.2.1 dX19_giveEnd_76 (by decide) ?_
  refine pf19_350 F hx2 hr dX19_giveEnd_77 (1 : Int32) (by decide) (fun H locs z20 ez20 hr => ?_)
  replace h := zl_sub ez20 h
  clear ez20
  refine lv_aload_n F.1 F.2.1 dX19_giveEnd_80 rfl (lv_at hl 3 rfl) ?_
  refine lv_iconst (v := (-1 : Int32)) F.1 F.2.1 dX19_giveEnd_81 (by decide) ?_
  refine pf19_761 F hx2 hr dX19_giveEnd_82 (-1 : Int32) (fun H locs z21 ez21 hr => ?_)
  replace h := zl_sub ez21 h
  clear ez21
  refine lv_aload_n F.1 F.2.1 dX19_giveEnd_85 rfl (lv_at hl 3 rfl) ?_
  refine lv_iconst (v := (0 : Int32)) F.1 F.2.1 dX19_giveEnd_86 (by decide) ?_
  refine pf19_764 F hx2 hr dX19_giveEnd_87 (0 : Int32) (by decide) (fun H locs z22 ez22 hr => ?_)
  replace h := zl_sub ez22 h
  clear ez22
  refine lv_aload_n F.1 F.2.1 dX19_giveEnd_90 rfl (lv_at hl 3 rfl) ?_
  refine lv_iconst (v := (0 : Int32)) F.1 F.2.1 dX19_giveEnd_91 (by decide) ?_
  refine pf19_767 F hx2 hr dX19_giveEnd_92 (0 : Int32) (by decide) (fun H locs z23 ez23 hr => ?_)
  replace h := zl_sub ez23 h
  clear ez23
  refine lv_aload_n F.1 F.2.1 dX19_giveEnd_95 rfl (lv_at hl 3 rfl) ?_
  refine lv_iconst (v := (0 : Int32)) F.1 F.2.1 dX19_giveEnd_96 (by decide) ?_
  refine pf19_770 F hx2 hr dX19_giveEnd_97 (0 : Int32) (by decide) (fun H locs z24 ez24 hr => ?_)
  replace h := zl_sub ez24 h
  clear ez24
  refine lv_aload_n F.1 F.2.1 dX19_giveEnd_100 rfl (lv_at hl 3 rfl) ?_
  refine lv_iconst (v := (1 : Int32)) F.1 F.2.1 dX19_giveEnd_101 (by decide) ?_
  refine pf19_773 F hx2 hr dX19_giveEnd_102 (1 : Int32) (fun H locs z25 ez25 hr => ?_)
  replace h := zl_sub ez25 h
  clear ez25
  obtain ⟨rfl, rfl⟩ := zret h
  exact E _ _ _ _ dX19_giveEnd_105 trivial hr
end SX19_giveEnd
set_option maxRecDepth 100000 in
theorem okX19_giveEnd (l : Launch) (D : va_G) (cy : Nat → ClassId) (B : Nat → Nat → Nat) (ids : List (Nat × Nat)) (hst : zSt B ids) (N : Nat) (x0 : Nat) (hx0 : (19, x0) ∈ ids) (x1 : Nat) (hx1 : (12, x1) ∈ ids) (x2 : Nat) (hx2 : (13, x2) ∈ ids) (x3 : Int32) (x4 : Int32) (x5 : Int32) {z : St} {r : Int32} {z' : St} (hW : zWf ids z) (h : fX19_giveEnd N x0 x1 x2 x3 x4 x5 z = some (r, z')) : zM l yX19_giveEnd (zws yX19_giveEnd cX19_giveEnd 7 none) rmX19_giveEnd D cy B ids [.ref (B 19 x0), .ref (B 12 x1), .ref (B 13 x2), .int x3, .int x4, .int x5] none True z z' :=
  zM_of hst hW (by decide +kernel) (Nat.le_of_ble_eq_true rfl) (fun p e s m args below meth c A ls F hA hret hlocks hr hl => bX19_giveEnd_0 hst F hA (zEnd_v F hret hlocks) x0 x1 x2 x3 x4 x5 hx0 hx1 hx2 hr hl h)
abbrev rmX19_leastFree : Room := { frames := 0, cells := 0, slots := 0, locals := 0 }
theorem hdX19_leastFree : yX19_leastFree.cls ≠ "java/lang/invoke/MethodHandle" ∧ yX19_leastFree.cls ≠ "java/lang/invoke/VarHandle" ∧ (parseMethodDescriptor yX19_leastFree.desc).map (fun d => d.parameters.length) = some 1 := by decide +kernel
section SX19_leastFree
variable {p : Program} {l : Launch} {e : Env} {s : State} {m : MethodId} {args : Array Value} {below : List Frame} {meth : Method} {c : Code} {Q : State → Prop} {D : va_G} {cy : Nat → ClassId} {B : Nat → Nat → Nat} {ids : List (Nat × Nat)} {A : Nat → Prop}
def fX19_leastFree_34 (N : Nat) (K2 : Nat → Int32 → St → Option (Int32 × St)) (x0 : Nat) (x1 : Int32) (z : St) : Option (Int32 × St) := zl (x1 + 1) fun v1 => K2 x0 v1 z
set_option maxHeartbeats 4000000 in
set_option maxRecDepth 100000 in
theorem bX19_leastFree_34 (hst : zSt B ids) (F : zFx p m c cX19_leastFree 2 s args RX19 D cy B ids A) (hA : ∀ q : Nat, s.heap.size ≤ q → A q) {r : Int32} {z' : St} (E : zEnd p l e rmX19_leastFree s m args below meth c cX19_leastFree D cy B ids A Q (some (.int r)) z' .ireturn True) {N : Nat} {K2 : Nat → Int32 → St → Option (Int32 × St)} (hK2 : ∀ (x0 : Nat) (x1 : Int32) (hx0 : (12, x0) ∈ ids) {z : St} {H : Heap} {locs : List Loc} {ls : Array Slot} (hr : zRep D cy B ids A s.heap z H locs) (hl : lv_has ls 2 [(0, .ref (B 12 x0)), (1, .int x1)]), K2 x0 x1 z = some (r, z') → W p l e rmX19_leastFree s m args below meth c H locs 0 0 Q (F0 m 2 ls [])) (x0 : Nat) (x1 : Int32) (hx0 : (12, x0) ∈ ids) {z : St} {H : Heap} {locs : List Loc} {ls : Array Slot} (hr : zRep D cy B ids A s.heap z H locs) (hl : lv_has ls 2 [(0, .ref (B 12 x0)), (1, .int x1)]) (h : fX19_leastFree_34 N K2 x0 x1 z = some (r, z')) : W p l e rmX19_leastFree s m args below meth c H locs 0 0 Q (F0 m 34 ls []) := by
  unfold fX19_leastFree_34 at h
  obtain ⟨v1, ev1⟩ : ∃ y : Int32, y = (x1 + 1) := ⟨_, rfl⟩
  replace h := zl_sub ev1 h
  refine lv_iinc (v := v1) (lv' := [(1, .int v1), (0, .ref (B 12 x0))]) F.1 F.2.1 dX19_leastFree_34 hl (k := 1) rfl (by rw [ev1]; rfl) (by decide) rfl (fun ls hl => ?_)
  refine lv_goto (tgt := 2) F.1 F.2.1 dX19_leastFree_37 (by decide) ?_
  exact hK2 x0 v1 hx0 hr (lv_sub hl [1, 0] rfl) h
def fX19_leastFree_2b (N : Nat) (K2 : Nat → Int32 → St → Option (Int32 × St)) (x0 : Nat) (x1 : Int32) (z : St) : Option (Int32 × St) := if (6 : Int32) ≤ x1 then (some ((-1 : Int32), z)) else (zk x1 6 <| zl (zgQ z 158 x0 (Int32.toNatClampNeg x1)) fun y3 => zd y3 fun a4 => if ¬ (zgI z 13 3 a4) = 0 then (fX19_leastFree_34 N K2 x0 x1 z) else (zk x1 6 <| zl (zgQ z 158 x0 (Int32.toNatClampNeg x1)) fun y7 => zd y7 fun a8 => if ¬ (zgI z 13 0 a8) = 0 then (fX19_leastFree_34 N K2 x0 x1 z) else (some (x1, z))))
def fX19_leastFree_2 (N : Nat)  : Nat → Nat → Int32 → St → Option (Int32 × St)
  | 0 => fun _ _ _ => none
  | n + 1 => fX19_leastFree_2b N (fX19_leastFree_2 N  n)
set_option maxHeartbeats 4000000 in
set_option maxRecDepth 100000 in
theorem bX19_leastFree_2 (hst : zSt B ids) (F : zFx p m c cX19_leastFree 2 s args RX19 D cy B ids A) (hA : ∀ q : Nat, s.heap.size ≤ q → A q) {r : Int32} {z' : St} (E : zEnd p l e rmX19_leastFree s m args below meth c cX19_leastFree D cy B ids A Q (some (.int r)) z' .ireturn True) {N : Nat} {K2 : Nat → Int32 → St → Option (Int32 × St)} (hK2 : ∀ (x0 : Nat) (x1 : Int32) (hx0 : (12, x0) ∈ ids) {z : St} {H : Heap} {locs : List Loc} {ls : Array Slot} (hr : zRep D cy B ids A s.heap z H locs) (hl : lv_has ls 2 [(0, .ref (B 12 x0)), (1, .int x1)]), K2 x0 x1 z = some (r, z') → W p l e rmX19_leastFree s m args below meth c H locs 0 0 Q (F0 m 2 ls [])) (x0 : Nat) (x1 : Int32) (hx0 : (12, x0) ∈ ids) {z : St} {H : Heap} {locs : List Loc} {ls : Array Slot} (hr : zRep D cy B ids A s.heap z H locs) (hl : lv_has ls 2 [(0, .ref (B 12 x0)), (1, .int x1)]) (h : fX19_leastFree_2b N K2 x0 x1 z = some (r, z')) : W p l e rmX19_leastFree s m args below meth c H locs 0 0 Q (F0 m 2 ls []) := by
  unfold fX19_leastFree_2b at h
  refine lv_iload_n F.1 F.2.1 dX19_leastFree_2 rfl (lv_at hl 1 rfl) ?_
  refine lv_bipush (v := (6 : Int32)) F.1 F.2.1 dX19_leastFree_3 (by decide) ?_
  refine lv_icmp_ge (tgt := 40) F.1 F.2.1 dX19_leastFree_5 (by decide) (fun c1 => ?_) (fun c1 => ?_)
  · replace h := zi_t c1 h
    refine lv_iconst (v := (-1 : Int32)) F.1 F.2.1 dX19_leastFree_40 (by decide) ?_
    obtain ⟨rfl, rfl⟩ := zret h
    exact E _ _ _ _ dX19_leastFree_41 trivial hr
  · replace h := zi_f c1 h
    refine lv_aload_n F.1 F.2.1 dX19_leastFree_8 rfl (lv_at hl 0 rfl) ?_
    refine gf19_340 F hx0 hr dX19_leastFree_9 ?_
    refine lv_iload_n F.1 F.2.1 dX19_leastFree_12 rfl (lv_at hl 1 rfl) ?_
    replace h := zk_some h
    obtain ⟨c2, h⟩ := h
    refine zr_aaldv (k := 158) (by decide) rfl rfl (zlen_d (by decide)) F (zal_a F hx0 (j := 28) rfl) hr dX19_leastFree_13 c2 (fun y3 ey3 => ?_)
    replace h := zl_sub ey3 h
    have hy3 := zal_q hr (zal_a F hx0 (j := 28) rfl) rfl ey3
    clear ey3
    replace h := zd_some h
    obtain ⟨a4, rfl, h⟩ := h
    refine gf19_350 F (hy3 _ rfl) hr dX19_leastFree_14 ?_
    refine lv_if_ne (tgt := 34) F.1 F.2.1 dX19_leastFree_17 (by decide) (fun c5 => ?_) (fun c5 => ?_)
    · replace h := zi_t c5 h
      exact bX19_leastFree_34 hst F hA E hK2 x0 x1 hx0 hr (lv_sub hl [0, 1] rfl) h
    · replace h := zi_f (fun q => q c5) h
      refine lv_aload_n F.1 F.2.1 dX19_leastFree_20 rfl (lv_at hl 0 rfl) ?_
      refine gf19_340 F hx0 hr dX19_leastFree_21 ?_
      refine lv_iload_n F.1 F.2.1 dX19_leastFree_24 rfl (lv_at hl 1 rfl) ?_
      replace h := zk_some h
      obtain ⟨c6, h⟩ := h
      refine zr_aaldv (k := 158) (by decide) rfl rfl (zlen_d (by decide)) F (zal_a F hx0 (j := 28) rfl) hr dX19_leastFree_25 c6 (fun y7 ey7 => ?_)
      replace h := zl_sub ey7 h
      have hy7 := zal_q hr (zal_a F hx0 (j := 28) rfl) rfl ey7
      clear ey7
      replace h := zd_some h
      obtain ⟨a8, rfl, h⟩ := h
      refine gf19_747 F (hy7 _ rfl) hr dX19_leastFree_26 ?_
      refine lv_if_ne (tgt := 34) F.1 F.2.1 dX19_leastFree_29 (by decide) (fun c9 => ?_) (fun c9 => ?_)
      · replace h := zi_t c9 h
        exact bX19_leastFree_34 hst F hA E hK2 x0 x1 hx0 hr (lv_sub hl [0, 1] rfl) h
      · replace h := zi_f (fun q => q c9) h
        refine lv_iload_n F.1 F.2.1 dX19_leastFree_32 rfl (lv_at hl 1 rfl) ?_
        obtain ⟨rfl, rfl⟩ := zret h
        exact E _ _ _ _ dX19_leastFree_33 trivial hr
theorem lX19_leastFree_2 (hst : zSt B ids) (F : zFx p m c cX19_leastFree 2 s args RX19 D cy B ids A) (hA : ∀ q : Nat, s.heap.size ≤ q → A q) {r : Int32} {z' : St} (E : zEnd p l e rmX19_leastFree s m args below meth c cX19_leastFree D cy B ids A Q (some (.int r)) z' .ireturn True) {N : Nat}  : ∀ (n : Nat) (x0 : Nat) (x1 : Int32) (hx0 : (12, x0) ∈ ids) {z : St} {H : Heap} {locs : List Loc} {ls : Array Slot} (hr : zRep D cy B ids A s.heap z H locs) (hl : lv_has ls 2 [(0, .ref (B 12 x0)), (1, .int x1)]), fX19_leastFree_2 N  n x0 x1 z = some (r, z') → W p l e rmX19_leastFree s m args below meth c H locs 0 0 Q (F0 m 2 ls []) := by
  intro n
  induction n with
  | zero => intro x0 x1 hx0 z H locs ls hr hl h; cases h
  | succ n ih => intro x0 x1 hx0 z H locs ls hr hl h; exact bX19_leastFree_2 hst F hA E ih x0 x1 hx0 hr hl h
def fX19_leastFree (N : Nat)  (x0 : Nat) (z : St) : Option (Int32 × St) := fX19_leastFree_2 N N x0 (0 : Int32) z
set_option maxHeartbeats 4000000 in
set_option maxRecDepth 100000 in
theorem bX19_leastFree_0 (hst : zSt B ids) (F : zFx p m c cX19_leastFree 2 s args RX19 D cy B ids A) (hA : ∀ q : Nat, s.heap.size ≤ q → A q) {r : Int32} {z' : St} (E : zEnd p l e rmX19_leastFree s m args below meth c cX19_leastFree D cy B ids A Q (some (.int r)) z' .ireturn True) {N : Nat}  (x0 : Nat) (hx0 : (12, x0) ∈ ids) {z : St} {H : Heap} {locs : List Loc} {ls : Array Slot} (hr : zRep D cy B ids A s.heap z H locs) (hl : lv_has ls 2 [(0, .ref (B 12 x0))]) (h : fX19_leastFree N x0 z = some (r, z')) : W p l e rmX19_leastFree s m args below meth c H locs 0 0 Q (F0 m 0 ls []) := by
  unfold fX19_leastFree at h
  refine lv_iconst (v := (0 : Int32)) F.1 F.2.1 dX19_leastFree_0 (by decide) ?_
  refine lv_istore_n (lv' := [(1, .int (0 : Int32)), (0, .ref (B 12 x0))]) F.1 F.2.1 dX19_leastFree_1 rfl hl (by decide) rfl (fun ls hl => ?_)
  exact lX19_leastFree_2 hst F hA E  _ x0 (0 : Int32) hx0 hr (lv_sub hl [1, 0] rfl) h
end SX19_leastFree
set_option maxRecDepth 100000 in
theorem okX19_leastFree (l : Launch) (D : va_G) (cy : Nat → ClassId) (B : Nat → Nat → Nat) (ids : List (Nat × Nat)) (hst : zSt B ids) (N : Nat) (x0 : Nat) (hx0 : (12, x0) ∈ ids) {z : St} {r : Int32} {z' : St} (hW : zWf ids z) (h : fX19_leastFree N x0 z = some (r, z')) : zM l yX19_leastFree (zws yX19_leastFree cX19_leastFree 2 (some .int)) rmX19_leastFree D cy B ids [.ref (B 12 x0)] (some (.int r)) True z z' :=
  zM_of hst hW (by decide +kernel) (Nat.le_of_ble_eq_true rfl) (fun p e s m args below meth c A ls F hA hret hlocks hr hl => bX19_leastFree_0 hst F hA (zEnd_i F hret hlocks) x0 hx0 hr hl h)
abbrev rmX19_knock : Room := { frames := 6, cells := 0, slots := 0, locals := 131 }
theorem hdX19_knock : yX19_knock.cls ≠ "java/lang/invoke/MethodHandle" ∧ yX19_knock.cls ≠ "java/lang/invoke/VarHandle" ∧ (parseMethodDescriptor yX19_knock.desc).map (fun d => d.parameters.length) = some 6 := by decide +kernel
theorem hroX19_knock_X19_arrives : rmX19_arrives.frames + 1 ≤ rmX19_knock.frames ∧ 8 + (3 + 11) + rmX19_arrives.locals ≤ rmX19_knock.locals := by decide
theorem hroX19_knock_X19_giveEnd : rmX19_giveEnd.frames + 1 ≤ rmX19_knock.frames ∧ 8 + (7 + 11) + rmX19_giveEnd.locals ≤ rmX19_knock.locals := by decide
theorem hroX19_knock_X19_leastFree : rmX19_leastFree.frames + 1 ≤ rmX19_knock.frames ∧ 8 + (2 + 11) + rmX19_leastFree.locals ≤ rmX19_knock.locals := by decide
section SX19_knock
variable {p : Program} {l : Launch} {e : Env} {s : State} {m : MethodId} {args : Array Value} {below : List Frame} {meth : Method} {c : Code} {Q : State → Prop} {D : va_G} {cy : Nat → ClassId} {B : Nat → Nat → Nat} {ids : List (Nat × Nat)} {A : Nat → Prop}
def fX19_knock_58 (N : Nat) (K6 : Nat → Nat → Int32 → Int32 → Int32 → Int32 → Int32 → Int32 → Int32 → St → Option (Int32 × St)) (x0 : Nat) (x1 : Nat) (x2 : Int32) (x3 : Int32) (x4 : Int32) (x5 : Int32) (x6 : Int32) (x8 : Int32) (s0 : Int32) (s1 : Int32) (z : St) : Option (Int32 × St) := zl (s0 + s1) fun v1 => zl (x8 + 1) fun v2 => K6 x0 x1 x2 x3 x4 x5 x6 v1 v2 z
set_option maxHeartbeats 4000000 in
set_option maxRecDepth 100000 in
theorem bX19_knock_58 (hst : zSt B ids) (F : zFx p m c cX19_knock 10 s args RX19 D cy B ids A) (hA : ∀ q : Nat, s.heap.size ≤ q → A q) {r : Int32} {z' : St} (E : zEnd p l e rmX19_knock s m args below meth c cX19_knock D cy B ids A Q none z' .return_ True) {N : Nat} {K6 : Nat → Nat → Int32 → Int32 → Int32 → Int32 → Int32 → Int32 → Int32 → St → Option (Int32 × St)} (hK6 : ∀ (x0 : Nat) (x1 : Nat) (x2 : Int32) (x3 : Int32) (x4 : Int32) (x5 : Int32) (x6 : Int32) (x7 : Int32) (x8 : Int32) (hx0 : (19, x0) ∈ ids) (hx1 : (12, x1) ∈ ids) {z : St} {H : Heap} {locs : List Loc} {ls : Array Slot} (hr : zRep D cy B ids A s.heap z H locs) (hl : lv_has ls 10 [(0, .ref (B 19 x0)), (1, .ref (B 12 x1)), (2, .int x2), (3, .int x3), (4, .int x4), (5, .int x5), (6, .int x6), (7, .int x7), (8, .int x8)]), K6 x0 x1 x2 x3 x4 x5 x6 x7 x8 z = some (r, z') → W p l e rmX19_knock s m args below meth c H locs 0 0 Q (F0 m 6 ls [])) (x0 : Nat) (x1 : Nat) (x2 : Int32) (x3 : Int32) (x4 : Int32) (x5 : Int32) (x6 : Int32) (x8 : Int32) (s0 : Int32) (s1 : Int32) (hx0 : (19, x0) ∈ ids) (hx1 : (12, x1) ∈ ids) {z : St} {H : Heap} {locs : List Loc} {ls : Array Slot} (hr : zRep D cy B ids A s.heap z H locs) (hl : lv_has ls 10 [(0, .ref (B 19 x0)), (1, .ref (B 12 x1)), (2, .int x2), (3, .int x3), (4, .int x4), (5, .int x5), (6, .int x6), (8, .int x8)]) (h : fX19_knock_58 N K6 x0 x1 x2 x3 x4 x5 x6 x8 s0 s1 z = some (r, z')) : W p l e rmX19_knock s m args below meth c H locs 0 0 Q (F0 m 58 ls [.int s1, .int s0]) := by
  unfold fX19_knock_58 at h
  refine lv_iadd F.1 F.2.1 dX19_knock_58 ?_
  refine lv_topi (fun v1 ev1 => ?_)
  replace h := zl_sub ev1 h
  refine lv_istore (lv' := [(7, .int v1), (0, .ref (B 19 x0)), (1, .ref (B 12 x1)), (2, .int x2), (3, .int x3), (4, .int x4), (5, .int x5), (6, .int x6), (8, .int x8)]) F.1 F.2.1 dX19_knock_59 hl (by decide) rfl (fun ls hl => ?_)
  obtain ⟨v2, ev2⟩ : ∃ y : Int32, y = (x8 + 1) := ⟨_, rfl⟩
  replace h := zl_sub ev2 h
  refine lv_iinc (v := v2) (lv' := [(8, .int v2), (7, .int v1), (0, .ref (B 19 x0)), (1, .ref (B 12 x1)), (2, .int x2), (3, .int x3), (4, .int x4), (5, .int x5), (6, .int x6)]) F.1 F.2.1 dX19_knock_61 hl (k := 8) rfl (by rw [ev2]; rfl) (by decide) rfl (fun ls hl => ?_)
  refine lv_goto (tgt := 6) F.1 F.2.1 dX19_knock_64 (by decide) ?_
  exact hK6 x0 x1 x2 x3 x4 x5 x6 v1 v2 hx0 hx1 hr (lv_sub hl [2, 3, 4, 5, 6, 7, 8, 1, 0] rfl) h
def fX19_knock_57 (N : Nat) (K6 : Nat → Nat → Int32 → Int32 → Int32 → Int32 → Int32 → Int32 → Int32 → St → Option (Int32 × St)) (x0 : Nat) (x1 : Nat) (x2 : Int32) (x3 : Int32) (x4 : Int32) (x5 : Int32) (x6 : Int32) (x8 : Int32) (s0 : Int32) (z : St) : Option (Int32 × St) := fX19_knock_58 N K6 x0 x1 x2 x3 x4 x5 x6 x8 s0 (0 : Int32) z
set_option maxHeartbeats 4000000 in
set_option maxRecDepth 100000 in
theorem bX19_knock_57 (hst : zSt B ids) (F : zFx p m c cX19_knock 10 s args RX19 D cy B ids A) (hA : ∀ q : Nat, s.heap.size ≤ q → A q) {r : Int32} {z' : St} (E : zEnd p l e rmX19_knock s m args below meth c cX19_knock D cy B ids A Q none z' .return_ True) {N : Nat} {K6 : Nat → Nat → Int32 → Int32 → Int32 → Int32 → Int32 → Int32 → Int32 → St → Option (Int32 × St)} (hK6 : ∀ (x0 : Nat) (x1 : Nat) (x2 : Int32) (x3 : Int32) (x4 : Int32) (x5 : Int32) (x6 : Int32) (x7 : Int32) (x8 : Int32) (hx0 : (19, x0) ∈ ids) (hx1 : (12, x1) ∈ ids) {z : St} {H : Heap} {locs : List Loc} {ls : Array Slot} (hr : zRep D cy B ids A s.heap z H locs) (hl : lv_has ls 10 [(0, .ref (B 19 x0)), (1, .ref (B 12 x1)), (2, .int x2), (3, .int x3), (4, .int x4), (5, .int x5), (6, .int x6), (7, .int x7), (8, .int x8)]), K6 x0 x1 x2 x3 x4 x5 x6 x7 x8 z = some (r, z') → W p l e rmX19_knock s m args below meth c H locs 0 0 Q (F0 m 6 ls [])) (x0 : Nat) (x1 : Nat) (x2 : Int32) (x3 : Int32) (x4 : Int32) (x5 : Int32) (x6 : Int32) (x8 : Int32) (s0 : Int32) (hx0 : (19, x0) ∈ ids) (hx1 : (12, x1) ∈ ids) {z : St} {H : Heap} {locs : List Loc} {ls : Array Slot} (hr : zRep D cy B ids A s.heap z H locs) (hl : lv_has ls 10 [(0, .ref (B 19 x0)), (1, .ref (B 12 x1)), (2, .int x2), (3, .int x3), (4, .int x4), (5, .int x5), (6, .int x6), (8, .int x8)]) (h : fX19_knock_57 N K6 x0 x1 x2 x3 x4 x5 x6 x8 s0 z = some (r, z')) : W p l e rmX19_knock s m args below meth c H locs 0 0 Q (F0 m 57 ls [.int s0]) := by
  unfold fX19_knock_57 at h
  refine lv_iconst (v := (0 : Int32)) F.1 F.2.1 dX19_knock_57 (by decide) ?_
  exact bX19_knock_58 hst F hA E hK6 x0 x1 x2 x3 x4 x5 x6 x8 s0 (0 : Int32) hx0 hx1 hr (lv_sub hl [0, 1, 2, 3, 4, 5, 6, 7] rfl) h
def fX19_knock_6b (N : Nat) (K6 : Nat → Nat → Int32 → Int32 → Int32 → Int32 → Int32 → Int32 → Int32 → St → Option (Int32 × St)) (x0 : Nat) (x1 : Nat) (x2 : Int32) (x3 : Int32) (x4 : Int32) (x5 : Int32) (x6 : Int32) (x7 : Int32) (x8 : Int32) (z : St) : Option (Int32 × St) := if (6 : Int32) ≤ x8 then (zc (fX19_leastFree N x1 z) fun r2 z3 => zk x2 6 <| zl (zgQ z3 158 x1 (Int32.toNatClampNeg x2)) fun y7 => zd y7 fun a8 => if (zgI z3 13 2 a8) ≤ x7 then (some (0, z3)) else (if ¬ r2 = (-1 : Int32) then (zk r2 6 <| zl (zgQ z3 158 x1 (Int32.toNatClampNeg r2)) fun y12 => zd y12 fun a13 => zc (fX19_giveEnd N x0 x1 a13 x4 x5 x6 z3) fun _ z15 => zl (zsI z15 13 5 a13 x2) fun z18 => zl (zsI z18 13 6 a13 (1 : Int32)) fun z19 => zl (zgR z19 13 4 a13) fun y20 => zd y20 fun a21 => zl (zsI z19 14 0 a21 (1 : Int32)) fun z22 => zl (zgR z22 13 4 a13) fun y23 => zd y23 fun a24 => zl (zsI z22 14 1 a24 (1 : Int32)) fun z25 => zl (zgR z25 13 4 a13) fun y26 => zd y26 fun a27 => zc (fX19_arrives N x0 a27 x3 z25) fun r28 z29 => some (0, z29)) else (some (0, z3)))) else (zk x8 6 <| zl (zgQ z 158 x1 (Int32.toNatClampNeg x8)) fun y33 => zd y33 fun a34 => if (zgI z 13 3 a34) = 0 then (fX19_knock_57 N K6 x0 x1 x2 x3 x4 x5 x6 x8 x7 z) else (if ¬ (zgI z 13 5 a34) = x2 then (fX19_knock_57 N K6 x0 x1 x2 x3 x4 x5 x6 x8 x7 z) else (zl (zgR z 13 4 a34) fun y37 => zd y37 fun a38 => if ¬ (zgI z 14 0 a38) = (3 : Int32) then (fX19_knock_57 N K6 x0 x1 x2 x3 x4 x5 x6 x8 x7 z) else (fX19_knock_58 N K6 x0 x1 x2 x3 x4 x5 x6 x8 x7 (1 : Int32) z))))
def fX19_knock_6 (N : Nat)  : Nat → Nat → Nat → Int32 → Int32 → Int32 → Int32 → Int32 → Int32 → Int32 → St → Option (Int32 × St)
  | 0 => fun _ _ _ _ _ _ _ _ _ _ => none
  | n + 1 => fX19_knock_6b N (fX19_knock_6 N  n)
set_option maxHeartbeats 4000000 in
set_option maxRecDepth 100000 in
theorem bX19_knock_6 (hst : zSt B ids) (F : zFx p m c cX19_knock 10 s args RX19 D cy B ids A) (hA : ∀ q : Nat, s.heap.size ≤ q → A q) {r : Int32} {z' : St} (E : zEnd p l e rmX19_knock s m args below meth c cX19_knock D cy B ids A Q none z' .return_ True) {N : Nat} {K6 : Nat → Nat → Int32 → Int32 → Int32 → Int32 → Int32 → Int32 → Int32 → St → Option (Int32 × St)} (hK6 : ∀ (x0 : Nat) (x1 : Nat) (x2 : Int32) (x3 : Int32) (x4 : Int32) (x5 : Int32) (x6 : Int32) (x7 : Int32) (x8 : Int32) (hx0 : (19, x0) ∈ ids) (hx1 : (12, x1) ∈ ids) {z : St} {H : Heap} {locs : List Loc} {ls : Array Slot} (hr : zRep D cy B ids A s.heap z H locs) (hl : lv_has ls 10 [(0, .ref (B 19 x0)), (1, .ref (B 12 x1)), (2, .int x2), (3, .int x3), (4, .int x4), (5, .int x5), (6, .int x6), (7, .int x7), (8, .int x8)]), K6 x0 x1 x2 x3 x4 x5 x6 x7 x8 z = some (r, z') → W p l e rmX19_knock s m args below meth c H locs 0 0 Q (F0 m 6 ls [])) (x0 : Nat) (x1 : Nat) (x2 : Int32) (x3 : Int32) (x4 : Int32) (x5 : Int32) (x6 : Int32) (x7 : Int32) (x8 : Int32) (hx0 : (19, x0) ∈ ids) (hx1 : (12, x1) ∈ ids) {z : St} {H : Heap} {locs : List Loc} {ls : Array Slot} (hr : zRep D cy B ids A s.heap z H locs) (hl : lv_has ls 10 [(0, .ref (B 19 x0)), (1, .ref (B 12 x1)), (2, .int x2), (3, .int x3), (4, .int x4), (5, .int x5), (6, .int x6), (7, .int x7), (8, .int x8)]) (h : fX19_knock_6b N K6 x0 x1 x2 x3 x4 x5 x6 x7 x8 z = some (r, z')) : W p l e rmX19_knock s m args below meth c H locs 0 0 Q (F0 m 6 ls []) := by
  unfold fX19_knock_6b at h
  refine lv_iload F.1 F.2.1 dX19_knock_6 (lv_at hl 8 rfl) ?_
  refine lv_bipush (v := (6 : Int32)) F.1 F.2.1 dX19_knock_8 (by decide) ?_
  refine lv_icmp_ge (tgt := 67) F.1 F.2.1 dX19_knock_10 (by decide) (fun c1 => ?_) (fun c1 => ?_)
  · replace h := zi_t c1 h
    refine lv_aload_n F.1 F.2.1 dX19_knock_67 rfl (lv_at hl 1 rfl) ?_
    replace h := zc_some h
    obtain ⟨r2, z3, hc4, h⟩ := h
    refine zr_calli (zrun_S (As := [.ref (B 12 x1)]) (rest := []) zq_2737 zq_2738 zq_2739 zq_4 hdX19_leastFree (okX19_leastFree l D cy B ids hst N x1 hx1 hr.2.2 hc4) F hr hl.1 rfl (by decide) dX19_knock_68 rfl rfl hroX19_knock_X19_leastFree ⟨Nat.zero_le _, Nat.zero_le _⟩) F hA hr (fun H locs hw5 hr => ?_)
    clear hc4
    refine lv_istore (lv' := [(8, .int r2), (0, .ref (B 19 x0)), (1, .ref (B 12 x1)), (2, .int x2), (3, .int x3), (4, .int x4), (5, .int x5), (6, .int x6), (7, .int x7)]) F.1 F.2.1 dX19_knock_71 hl (by decide) rfl (fun ls hl => ?_)
    refine lv_iload F.1 F.2.1 dX19_knock_73 (lv_at hl 8 rfl) ?_
    refine lv_aload_n F.1 F.2.1 dX19_knock_75 rfl (lv_at hl 2 rfl) ?_
    refine gf19_340 F hx1 hr dX19_knock_76 ?_
    refine lv_iload_n F.1 F.2.1 dX19_knock_79 rfl (lv_at hl 3 rfl) ?_
    replace h := zk_some h
    obtain ⟨c6, h⟩ := h
    refine zr_aaldv (k := 158) (by decide) rfl rfl (zlen_d (by decide)) F (zal_a F hx1 (j := 28) rfl) hr dX19_knock_80 c6 (fun y7 ey7 => ?_)
    replace h := zl_sub ey7 h
    have hy7 := zal_q hr (zal_a F hx1 (j := 28) rfl) rfl ey7
    clear ey7
    replace h := zd_some h
    obtain ⟨a8, rfl, h⟩ := h
    refine gf19_794 F (hy7 _ rfl) hr dX19_knock_81 ?_
    refine lv_icmp_ge (tgt := 93) F.1 F.2.1 dX19_knock_84 (by decide) (fun c9 => ?_) (fun c9 => ?_)
    · replace h := zi_t c9 h
      obtain ⟨rfl, rfl⟩ := zret h
      exact E _ _ _ _ dX19_knock_93 trivial hr
    · replace h := zi_f c9 h
      refine lv_iload F.1 F.2.1 dX19_knock_87 (lv_at hl 0 rfl) ?_
      refine lv_iconst (v := (-1 : Int32)) F.1 F.2.1 dX19_knock_89 (by decide) ?_
      refine lv_icmp_ne (tgt := 94) F.1 F.2.1 dX19_knock_90 (by decide) (fun c10 => ?_) (fun c10 => ?_)
      · replace h := zi_t c10 h
        refine lv_aload_n F.1 F.2.1 dX19_knock_94 rfl (lv_at hl 2 rfl) ?_
        refine gf19_340 F hx1 hr dX19_knock_95 ?_
        refine lv_iload F.1 F.2.1 dX19_knock_98 (lv_at hl 0 rfl) ?_
        replace h := zk_some h
        obtain ⟨c11, h⟩ := h
        refine zr_aaldv (k := 158) (by decide) rfl rfl (zlen_d (by decide)) F (zal_a F hx1 (j := 28) rfl) hr dX19_knock_100 c11 (fun y12 ey12 => ?_)
        replace h := zl_sub ey12 h
        have hy12 := zal_q hr (zal_a F hx1 (j := 28) rfl) rfl ey12
        clear ey12
        refine zr_astore (lv' := [(9, va_rf (Option.map (B 13) y12)), (8, .int r2), (0, .ref (B 19 x0)), (1, .ref (B 12 x1)), (2, .int x2), (3, .int x3), (4, .int x4), (5, .int x5), (6, .int x6), (7, .int x7)]) F.1 F.2.1 dX19_knock_101 hl (by decide) rfl (fun ls hl => ?_)
        refine lv_aload_n F.1 F.2.1 dX19_knock_103 rfl (lv_at hl 2 rfl) ?_
        refine lv_aload_n F.1 F.2.1 dX19_knock_104 rfl (lv_at hl 3 rfl) ?_
        refine zr_aload F.1 F.2.1 dX19_knock_105 (lv_at hl 0 rfl) ?_
        refine lv_iload F.1 F.2.1 dX19_knock_107 (lv_at hl 6 rfl) ?_
        refine lv_iload F.1 F.2.1 dX19_knock_109 (lv_at hl 7 rfl) ?_
        refine lv_iload F.1 F.2.1 dX19_knock_111 (lv_at hl 8 rfl) ?_
        replace h := zd_some h
        obtain ⟨a13, rfl, h⟩ := h
        replace h := zc_some h
        obtain ⟨r14, z15, hc16, h⟩ := h
        refine zr_callv (zrun_V (As := [.ref (B 12 x1), .ref (B 13 a13), .int x4, .int x5, .int x6]) (rest := []) zq_2740 zq_2742 zs_X19_giveEnd zq_2743 zq_4 hdX19_giveEnd (by decide) (T := TX19) (N := 32) rfl (okX19_giveEnd l D cy B ids hst N x0 hx0 x1 hx1 a13 (hy12 _ rfl) x4  x5  x6  hr.2.2 hc16) F hr hx0 hl.1 rfl (by decide) dX19_knock_113 rfl rfl hroX19_knock_X19_giveEnd ⟨Nat.zero_le _, Nat.zero_le _⟩) F hA hr (fun H locs hw17 hr => ?_)
        clear hc16
        refine lv_aload F.1 F.2.1 dX19_knock_116 (lv_at hl 0 rfl) ?_
        refine lv_iload_n F.1 F.2.1 dX19_knock_118 rfl (lv_at hl 4 rfl) ?_
        refine pf19_761 F (hy12 _ rfl) hr dX19_knock_119 x2 (fun H locs z18 ez18 hr => ?_)
        replace h := zl_sub ez18 h
        clear ez18
        refine lv_aload F.1 F.2.1 dX19_knock_122 (lv_at hl 0 rfl) ?_
        refine lv_iconst (v := (1 : Int32)) F.1 F.2.1 dX19_knock_124 (by decide) ?_
        refine pf19_764 F (hy12 _ rfl) hr dX19_knock_125 (1 : Int32) (by decide) (fun H locs z19 ez19 hr => ?_)
        replace h := zl_sub ez19 h
        clear ez19
        refine lv_aload F.1 F.2.1 dX19_knock_128 (lv_at hl 0 rfl) ?_
        refine gf19_344 F (hy12 _ rfl) hr dX19_knock_130 (fun y20 ey20 => ?_)
        replace h := zl_sub ey20 h
        have hy20 := zal_g hr (hy12 _ rfl) (j := 4) rfl ey20
        clear ey20
        refine lv_iconst (v := (1 : Int32)) F.1 F.2.1 dX19_knock_133 (by decide) ?_
        replace h := zd_some h
        obtain ⟨a21, rfl, h⟩ := h
        refine pf19_353 F (hy20 _ rfl) hr dX19_knock_134 (1 : Int32) (fun H locs z22 ez22 hr => ?_)
        replace h := zl_sub ez22 h
        clear ez22
        refine lv_aload F.1 F.2.1 dX19_knock_137 (lv_at hl 0 rfl) ?_
        refine gf19_344 F (hy12 _ rfl) hr dX19_knock_139 (fun y23 ey23 => ?_)
        replace h := zl_sub ey23 h
        have hy23 := zal_g hr (hy12 _ rfl) (j := 4) rfl ey23
        clear ey23
        refine lv_iconst (v := (1 : Int32)) F.1 F.2.1 dX19_knock_142 (by decide) ?_
        replace h := zd_some h
        obtain ⟨a24, rfl, h⟩ := h
        refine pf19_631 F (hy23 _ rfl) hr dX19_knock_143 (1 : Int32) (by decide) (fun H locs z25 ez25 hr => ?_)
        replace h := zl_sub ez25 h
        clear ez25
        refine lv_aload_n F.1 F.2.1 dX19_knock_146 rfl (lv_at hl 2 rfl) ?_
        refine lv_aload F.1 F.2.1 dX19_knock_147 (lv_at hl 0 rfl) ?_
        refine gf19_344 F (hy12 _ rfl) hr dX19_knock_149 (fun y26 ey26 => ?_)
        replace h := zl_sub ey26 h
        have hy26 := zal_g hr (hy12 _ rfl) (j := 4) rfl ey26
        clear ey26
        refine lv_iload_n F.1 F.2.1 dX19_knock_152 rfl (lv_at hl 5 rfl) ?_
        replace h := zd_some h
        obtain ⟨a27, rfl, h⟩ := h
        replace h := zc_some h
        obtain ⟨r28, z29, hc30, h⟩ := h
        refine zr_calli (zrun_V (As := [.ref (B 14 a27), .int x3]) (rest := []) zq_2655 zq_2657 zs_X19_arrives zq_2658 zq_4 hdX19_arrives (by decide) (T := TX19) (N := 32) rfl (okX19_arrives l D cy B ids hst N x0 hx0 a27 (hy26 _ rfl) x3  hr.2.2 hc30) F hr hx0 hl.1 rfl (by decide) dX19_knock_153 rfl rfl hroX19_knock_X19_arrives ⟨Nat.zero_le _, Nat.zero_le _⟩) F hA hr (fun H locs hw31 hr => ?_)
        clear hc30
        refine lv_pop F.1 F.2.1 dX19_knock_156 rfl ?_
        obtain ⟨rfl, rfl⟩ := zret h
        exact E _ _ _ _ dX19_knock_157 trivial hr
      · replace h := zi_f (fun q => q c10) h
        obtain ⟨rfl, rfl⟩ := zret h
        exact E _ _ _ _ dX19_knock_93 trivial hr
  · replace h := zi_f c1 h
    refine lv_aload_n F.1 F.2.1 dX19_knock_13 rfl (lv_at hl 1 rfl) ?_
    refine gf19_340 F hx1 hr dX19_knock_14 ?_
    refine lv_iload F.1 F.2.1 dX19_knock_17 (lv_at hl 8 rfl) ?_
    replace h := zk_some h
    obtain ⟨c32, h⟩ := h
    refine zr_aaldv (k := 158) (by decide) rfl rfl (zlen_d (by decide)) F (zal_a F hx1 (j := 28) rfl) hr dX19_knock_19 c32 (fun y33 ey33 => ?_)
    replace h := zl_sub ey33 h
    have hy33 := zal_q hr (zal_a F hx1 (j := 28) rfl) rfl ey33
    clear ey33
    refine zr_astore (lv' := [(9, va_rf (Option.map (B 13) y33)), (0, .ref (B 19 x0)), (1, .ref (B 12 x1)), (2, .int x2), (3, .int x3), (4, .int x4), (5, .int x5), (6, .int x6), (7, .int x7), (8, .int x8)]) F.1 F.2.1 dX19_knock_20 hl (by decide) rfl (fun ls hl => ?_)
    refine lv_iload F.1 F.2.1 dX19_knock_22 (lv_at hl 8 rfl) ?_
    refine zr_aload F.1 F.2.1 dX19_knock_24 (lv_at hl 0 rfl) ?_
    replace h := zd_some h
    obtain ⟨a34, rfl, h⟩ := h
    refine gf19_350 F (hy33 _ rfl) hr dX19_knock_26 ?_
    refine lv_if_eq (tgt := 57) F.1 F.2.1 dX19_knock_29 (by decide) (fun c35 => ?_) (fun c35 => ?_)
    · replace h := zi_t c35 h
      exact bX19_knock_57 hst F hA E hK6 x0 x1 x2 x3 x4 x5 x6 x8 x7 hx0 hx1 hr (lv_sub hl [1, 2, 3, 4, 5, 6, 7, 9] rfl) h
    · replace h := zi_f c35 h
      refine lv_aload F.1 F.2.1 dX19_knock_32 (lv_at hl 0 rfl) ?_
      refine gf19_761 F (hy33 _ rfl) hr dX19_knock_34 ?_
      refine lv_iload_n F.1 F.2.1 dX19_knock_37 rfl (lv_at hl 3 rfl) ?_
      refine lv_icmp_ne (tgt := 57) F.1 F.2.1 dX19_knock_38 (by decide) (fun c36 => ?_) (fun c36 => ?_)
      · replace h := zi_t c36 h
        exact bX19_knock_57 hst F hA E hK6 x0 x1 x2 x3 x4 x5 x6 x8 x7 hx0 hx1 hr (lv_sub hl [1, 2, 3, 4, 5, 6, 7, 9] rfl) h
      · replace h := zi_f (fun q => q c36) h
        refine lv_aload F.1 F.2.1 dX19_knock_41 (lv_at hl 0 rfl) ?_
        refine gf19_344 F (hy33 _ rfl) hr dX19_knock_43 (fun y37 ey37 => ?_)
        replace h := zl_sub ey37 h
        have hy37 := zal_g hr (hy33 _ rfl) (j := 4) rfl ey37
        clear ey37
        replace h := zd_some h
        obtain ⟨a38, rfl, h⟩ := h
        refine gf19_353 F (hy37 _ rfl) hr dX19_knock_46 ?_
        refine lv_iconst (v := (3 : Int32)) F.1 F.2.1 dX19_knock_49 (by decide) ?_
        refine lv_icmp_ne (tgt := 57) F.1 F.2.1 dX19_knock_50 (by decide) (fun c39 => ?_) (fun c39 => ?_)
        · replace h := zi_t c39 h
          exact bX19_knock_57 hst F hA E hK6 x0 x1 x2 x3 x4 x5 x6 x8 x7 hx0 hx1 hr (lv_sub hl [1, 2, 3, 4, 5, 6, 7, 9] rfl) h
        · replace h := zi_f (fun q => q c39) h
          refine lv_iconst (v := (1 : Int32)) F.1 F.2.1 dX19_knock_53 (by decide) ?_
          refine lv_goto (tgt := 58) F.1 F.2.1 dX19_knock_54 (by decide) ?_
          exact bX19_knock_58 hst F hA E hK6 x0 x1 x2 x3 x4 x5 x6 x8 x7 (1 : Int32) hx0 hx1 hr (lv_sub hl [1, 2, 3, 4, 5, 6, 7, 9] rfl) h
theorem lX19_knock_6 (hst : zSt B ids) (F : zFx p m c cX19_knock 10 s args RX19 D cy B ids A) (hA : ∀ q : Nat, s.heap.size ≤ q → A q) {r : Int32} {z' : St} (E : zEnd p l e rmX19_knock s m args below meth c cX19_knock D cy B ids A Q none z' .return_ True) {N : Nat}  : ∀ (n : Nat) (x0 : Nat) (x1 : Nat) (x2 : Int32) (x3 : Int32) (x4 : Int32) (x5 : Int32) (x6 : Int32) (x7 : Int32) (x8 : Int32) (hx0 : (19, x0) ∈ ids) (hx1 : (12, x1) ∈ ids) {z : St} {H : Heap} {locs : List Loc} {ls : Array Slot} (hr : zRep D cy B ids A s.heap z H locs) (hl : lv_has ls 10 [(0, .ref (B 19 x0)), (1, .ref (B 12 x1)), (2, .int x2), (3, .int x3), (4, .int x4), (5, .int x5), (6, .int x6), (7, .int x7), (8, .int x8)]), fX19_knock_6 N  n x0 x1 x2 x3 x4 x5 x6 x7 x8 z = some (r, z') → W p l e rmX19_knock s m args below meth c H locs 0 0 Q (F0 m 6 ls []) := by
  intro n
  induction n with
  | zero => intro x0 x1 x2 x3 x4 x5 x6 x7 x8 hx0 hx1 z H locs ls hr hl h; cases h
  | succ n ih => intro x0 x1 x2 x3 x4 x5 x6 x7 x8 hx0 hx1 z H locs ls hr hl h; exact bX19_knock_6 hst F hA E ih x0 x1 x2 x3 x4 x5 x6 x7 x8 hx0 hx1 hr hl h
def fX19_knock (N : Nat)  (x0 : Nat) (x1 : Nat) (x2 : Int32) (x3 : Int32) (x4 : Int32) (x5 : Int32) (x6 : Int32) (z : St) : Option (Int32 × St) := fX19_knock_6 N N x0 x1 x2 x3 x4 x5 x6 (0 : Int32) (0 : Int32) z
set_option maxHeartbeats 4000000 in
set_option maxRecDepth 100000 in
theorem bX19_knock_0 (hst : zSt B ids) (F : zFx p m c cX19_knock 10 s args RX19 D cy B ids A) (hA : ∀ q : Nat, s.heap.size ≤ q → A q) {r : Int32} {z' : St} (E : zEnd p l e rmX19_knock s m args below meth c cX19_knock D cy B ids A Q none z' .return_ True) {N : Nat}  (x0 : Nat) (x1 : Nat) (x2 : Int32) (x3 : Int32) (x4 : Int32) (x5 : Int32) (x6 : Int32) (hx0 : (19, x0) ∈ ids) (hx1 : (12, x1) ∈ ids) {z : St} {H : Heap} {locs : List Loc} {ls : Array Slot} (hr : zRep D cy B ids A s.heap z H locs) (hl : lv_has ls 10 [(0, .ref (B 19 x0)), (1, .ref (B 12 x1)), (2, .int x2), (3, .int x3), (4, .int x4), (5, .int x5), (6, .int x6)]) (h : fX19_knock N x0 x1 x2 x3 x4 x5 x6 z = some (r, z')) : W p l e rmX19_knock s m args below meth c H locs 0 0 Q (F0 m 0 ls []) := by
  unfold fX19_knock at h
  refine lv_iconst (v := (0 : Int32)) F.1 F.2.1 dX19_knock_0 (by decide) ?_
  refine lv_istore (lv' := [(7, .int (0 : Int32)), (0, .ref (B 19 x0)), (1, .ref (B 12 x1)), (2, .int x2), (3, .int x3), (4, .int x4), (5, .int x5), (6, .int x6)]) F.1 F.2.1 dX19_knock_1 hl (by decide) rfl (fun ls hl => ?_)
  refine lv_iconst (v := (0 : Int32)) F.1 F.2.1 dX19_knock_3 (by decide) ?_
  refine lv_istore (lv' := [(8, .int (0 : Int32)), (7, .int (0 : Int32)), (0, .ref (B 19 x0)), (1, .ref (B 12 x1)), (2, .int x2), (3, .int x3), (4, .int x4), (5, .int x5), (6, .int x6)]) F.1 F.2.1 dX19_knock_4 hl (by decide) rfl (fun ls hl => ?_)
  exact lX19_knock_6 hst F hA E  _ x0 x1 x2 x3 x4 x5 x6 (0 : Int32) (0 : Int32) hx0 hx1 hr (lv_sub hl [2, 3, 4, 5, 6, 7, 8, 1, 0] rfl) h
end SX19_knock
set_option maxRecDepth 100000 in
theorem okX19_knock (l : Launch) (D : va_G) (cy : Nat → ClassId) (B : Nat → Nat → Nat) (ids : List (Nat × Nat)) (hst : zSt B ids) (N : Nat) (x0 : Nat) (hx0 : (19, x0) ∈ ids) (x1 : Nat) (hx1 : (12, x1) ∈ ids) (x2 : Int32) (x3 : Int32) (x4 : Int32) (x5 : Int32) (x6 : Int32) {z : St} {r : Int32} {z' : St} (hW : zWf ids z) (h : fX19_knock N x0 x1 x2 x3 x4 x5 x6 z = some (r, z')) : zM l yX19_knock (zws yX19_knock cX19_knock 10 none) rmX19_knock D cy B ids [.ref (B 19 x0), .ref (B 12 x1), .int x2, .int x3, .int x4, .int x5, .int x6] none True z z' :=
  zM_of hst hW (by decide +kernel) (Nat.le_of_ble_eq_true rfl) (fun p e s m args below meth c A ls F hA hret hlocks hr hl => bX19_knock_0 hst F hA (zEnd_v F hret hlocks) x0 x1 x2 x3 x4 x5 x6 hx0 hx1 hr hl h)
abbrev rmX19_say : Room := { frames := 11, cells := 0, slots := 0, locals := 286 }
theorem hdX19_say : yX19_say.cls ≠ "java/lang/invoke/MethodHandle" ∧ yX19_say.cls ≠ "java/lang/invoke/VarHandle" ∧ (parseMethodDescriptor yX19_say.desc).map (fun d => d.parameters.length) = some 5 := by decide +kernel
theorem hroX19_say_X18_address : rmX18_address.frames + 1 ≤ rmX19_say.frames ∧ 8 + (1 + 11) + rmX18_address.locals ≤ rmX19_say.locals := by decide
theorem hroX19_say_X19_drop : rmX19_drop.frames + 1 ≤ rmX19_say.frames ∧ 8 + (2 + 11) + rmX19_drop.locals ≤ rmX19_say.locals := by decide
theorem hroX19_say_X19_hostSends : rmX19_hostSends.frames + 1 ≤ rmX19_say.frames ∧ 8 + (6 + 11) + rmX19_hostSends.locals ≤ rmX19_say.locals := by decide
theorem hroX19_say_X19_make : rmX19_make.frames + 1 ≤ rmX19_say.frames ∧ 8 + (7 + 11) + rmX19_make.locals ≤ rmX19_say.locals := by decide
theorem hroX19_say_X19_seg : rmX19_seg.frames + 1 ≤ rmX19_say.frames ∧ 8 + (3 + 11) + rmX19_seg.locals ≤ rmX19_say.locals := by decide
theorem hroX19_say_X19_set : rmX19_set.frames + 1 ≤ rmX19_say.frames ∧ 8 + (4 + 11) + rmX19_set.locals ≤ rmX19_say.locals := by decide
theorem hroX19_say_X19_setSeg : rmX19_setSeg.frames + 1 ≤ rmX19_say.frames ∧ 8 + (4 + 11) + rmX19_setSeg.locals ≤ rmX19_say.locals := by decide
section SX19_say
variable {p : Program} {l : Launch} {e : Env} {s : State} {m : MethodId} {args : Array Value} {below : List Frame} {meth : Method} {c : Code} {Q : State → Prop} {D : va_G} {cy : Nat → ClassId} {B : Nat → Nat → Nat} {ids : List (Nat × Nat)} {A : Nat → Prop}
def fX19_say (N : Nat)  (x0 : Nat) (x1 : Nat) (x2 : Int32) (x3 : Int32) (x4 : Int32) (x5 : Int32) (z : St) : Option (Int32 × St) := zc (fX19_setSeg N x0 x2 (0 : Int32) x3 z) fun _ z2 => zc (fX19_setSeg N x0 x2 (1 : Int32) x5 z2) fun _ z6 => zc (fX19_seg N x0 x2 (7 : Int32) z6) fun r9 z10 => zk (0 : Int32) 6 <| zl (zgQ z10 147 x1 (Int32.toNatClampNeg (0 : Int32))) fun y14 => zd y14 fun a15 => zc (fX18_address N a15 z10) fun r16 z17 => zc (fX19_make N x0 x1 (1 : Int32) ((20 : Int32) + r9) r16 x4 z17) fun r20 z21 => zc (fX19_set N x0 r20 (10 : Int32) x2 z21) fun _ z25 => zc (fX19_hostSends N x0 x1 r20 z25) fun _ z29 => zc (fX19_drop N x0 r20 z29) fun _ z33 => some (0, z33)
set_option maxHeartbeats 4000000 in
set_option maxRecDepth 100000 in
theorem bX19_say_0 (hst : zSt B ids) (F : zFx p m c cX19_say 7 s args RX19 D cy B ids A) (hA : ∀ q : Nat, s.heap.size ≤ q → A q) {r : Int32} {z' : St} (E : zEnd p l e rmX19_say s m args below meth c cX19_say D cy B ids A Q none z' .return_ True) {N : Nat}  (x0 : Nat) (x1 : Nat) (x2 : Int32) (x3 : Int32) (x4 : Int32) (x5 : Int32) (hx0 : (19, x0) ∈ ids) (hx1 : (12, x1) ∈ ids) {z : St} {H : Heap} {locs : List Loc} {ls : Array Slot} (hr : zRep D cy B ids A s.heap z H locs) (hl : lv_has ls 7 [(0, .ref (B 19 x0)), (1, .ref (B 12 x1)), (2, .int x2), (3, .int x3), (4, .int x4), (5, .int x5)]) (h : fX19_say N x0 x1 x2 x3 x4 x5 z = some (r, z')) : W p l e rmX19_say s m args below meth c H locs 0 0 Q (F0 m 0 ls []) := by
  unfold fX19_say at h
  refine lv_aload_n F.1 F.2.1 dX19_say_0 rfl (lv_at hl 0 rfl) ?_
  refine lv_iload_n F.1 F.2.1 dX19_say_1 rfl (lv_at hl 2 rfl) ?_
  refine lv_iconst (v := (0 : Int32)) F.1 F.2.1 dX19_say_2 (by decide) ?_
  refine lv_iload_n F.1 F.2.1 dX19_say_3 rfl (lv_at hl 3 rfl) ?_
  replace h := zc_some h
  obtain ⟨r1, z2, hc3, h⟩ := h
  refine zr_callv (zrun_V (As := [.int x2, .int (0 : Int32), .int x3]) (rest := []) zq_2757 zq_2759 zs_X19_setSeg zq_2760 zq_4 hdX19_setSeg (by decide) (T := TX19) (N := 32) rfl (okX19_setSeg l D cy B ids hst N x0 hx0 x2  (0 : Int32)  x3  hr.2.2 hc3) F hr hx0 hl.1 rfl (by decide) dX19_say_4 rfl rfl hroX19_say_X19_setSeg ⟨Nat.zero_le _, Nat.zero_le _⟩) F hA hr (fun H locs hw4 hr => ?_)
  clear hc3
  refine lv_aload_n F.1 F.2.1 dX19_say_7 rfl (lv_at hl 0 rfl) ?_
  refine lv_iload_n F.1 F.2.1 dX19_say_8 rfl (lv_at hl 2 rfl) ?_
  refine lv_iconst (v := (1 : Int32)) F.1 F.2.1 dX19_say_9 (by decide) ?_
  refine lv_iload F.1 F.2.1 dX19_say_10 (lv_at hl 5 rfl) ?_
  replace h := zc_some h
  obtain ⟨r5, z6, hc7, h⟩ := h
  refine zr_callv (zrun_V (As := [.int x2, .int (1 : Int32), .int x5]) (rest := []) zq_2757 zq_2759 zs_X19_setSeg zq_2760 zq_4 hdX19_setSeg (by decide) (T := TX19) (N := 32) rfl (okX19_setSeg l D cy B ids hst N x0 hx0 x2  (1 : Int32)  x5  hr.2.2 hc7) F hr hx0 hl.1 rfl (by decide) dX19_say_12 rfl rfl hroX19_say_X19_setSeg ⟨Nat.zero_le _, Nat.zero_le _⟩) F hA hr (fun H locs hw8 hr => ?_)
  clear hc7
  refine lv_aload_n F.1 F.2.1 dX19_say_15 rfl (lv_at hl 0 rfl) ?_
  refine lv_aload_n F.1 F.2.1 dX19_say_16 rfl (lv_at hl 1 rfl) ?_
  refine lv_iconst (v := (1 : Int32)) F.1 F.2.1 dX19_say_17 (by decide) ?_
  refine lv_bipush (v := (20 : Int32)) F.1 F.2.1 dX19_say_18 (by decide) ?_
  refine lv_aload_n F.1 F.2.1 dX19_say_20 rfl (lv_at hl 0 rfl) ?_
  refine lv_iload_n F.1 F.2.1 dX19_say_21 rfl (lv_at hl 2 rfl) ?_
  refine lv_bipush (v := (7 : Int32)) F.1 F.2.1 dX19_say_22 (by decide) ?_
  replace h := zc_some h
  obtain ⟨r9, z10, hc11, h⟩ := h
  refine zr_calli (zrun_V (As := [.int x2, .int (7 : Int32)]) (rest := [.int (20 : Int32), .int (1 : Int32), .ref (B 12 x1), .ref (B 19 x0)]) zq_2557 zq_2559 zs_X19_seg zq_2560 zq_4 hdX19_seg (by decide) (T := TX19) (N := 32) rfl (okX19_seg l D cy B ids hst N x0 hx0 x2  (7 : Int32)  hr.2.2 hc11) F hr hx0 hl.1 rfl (Nat.le_of_ble_eq_true rfl) dX19_say_24 rfl rfl hroX19_say_X19_seg ⟨Nat.zero_le _, Nat.zero_le _⟩) F hA hr (fun H locs hw12 hr => ?_)
  clear hc11
  refine lv_iadd F.1 F.2.1 dX19_say_27 ?_
  refine lv_aload_n F.1 F.2.1 dX19_say_28 rfl (lv_at hl 1 rfl) ?_
  refine gf19_276 F hx1 hr dX19_say_29 ?_
  refine lv_iconst (v := (0 : Int32)) F.1 F.2.1 dX19_say_32 (by decide) ?_
  replace h := zk_some h
  obtain ⟨c13, h⟩ := h
  refine zr_aaldv (k := 147) (by decide) rfl rfl (zlen_d (by decide)) F (zal_a F hx1 (j := 2) rfl) hr dX19_say_33 c13 (fun y14 ey14 => ?_)
  replace h := zl_sub ey14 h
  have hy14 := zal_q hr (zal_a F hx1 (j := 2) rfl) rfl ey14
  clear ey14
  replace h := zd_some h
  obtain ⟨a15, rfl, h⟩ := h
  replace h := zc_some h
  obtain ⟨r16, z17, hc18, h⟩ := h
  refine zr_calli (zrun_VN (As := []) (rest := [.int ((20 : Int32) + r9), .int (1 : Int32), .ref (B 12 x1), .ref (B 19 x0)]) zn_2520 zq_2522 zs_X18_address zq_2523 zq_25 hdX18_address (by decide) (T := TX18) (N := 13) rfl (okX18_address l D cy B ids hst N a15 (hy14 _ rfl) hr.2.2 hc18) F hr (hy14 _ rfl) hl.1 rfl (Nat.le_of_ble_eq_true rfl) dX19_say_34 rfl rfl hroX19_say_X18_address ⟨Nat.zero_le _, Nat.zero_le _⟩) F hA hr (fun H locs hw19 hr => ?_)
  clear hc18
  refine lv_iload F.1 F.2.1 dX19_say_37 (lv_at hl 4 rfl) ?_
  replace h := zc_some h
  obtain ⟨r20, z21, hc22, h⟩ := h
  refine zr_calli (zrun_V (As := [.ref (B 12 x1), .int (1 : Int32), .int ((20 : Int32) + r9), .int r16, .int x4]) (rest := []) zq_2765 zq_2767 zs_X19_make zq_2768 zq_4 hdX19_make (by decide) (T := TX19) (N := 32) rfl (okX19_make l D cy B ids hst N x0 hx0 x1 hx1 (1 : Int32)  ((20 : Int32) + r9)  r16  x4  hr.2.2 hc22) F hr hx0 hl.1 rfl (by decide) dX19_say_39 rfl rfl hroX19_say_X19_make ⟨Nat.zero_le _, Nat.zero_le _⟩) F hA hr (fun H locs hw23 hr => ?_)
  clear hc22
  refine lv_istore (lv' := [(6, .int r20), (0, .ref (B 19 x0)), (1, .ref (B 12 x1)), (2, .int x2), (3, .int x3), (4, .int x4), (5, .int x5)]) F.1 F.2.1 dX19_say_42 hl (by decide) rfl (fun ls hl => ?_)
  refine lv_aload_n F.1 F.2.1 dX19_say_44 rfl (lv_at hl 1 rfl) ?_
  refine lv_iload F.1 F.2.1 dX19_say_45 (lv_at hl 0 rfl) ?_
  refine lv_bipush (v := (10 : Int32)) F.1 F.2.1 dX19_say_47 (by decide) ?_
  refine lv_iload_n F.1 F.2.1 dX19_say_49 rfl (lv_at hl 3 rfl) ?_
  replace h := zc_some h
  obtain ⟨r24, z25, hc26, h⟩ := h
  refine zr_callv (zrun_V (As := [.int r20, .int (10 : Int32), .int x2]) (rest := []) zq_2623 zq_2625 zs_X19_set zq_2626 zq_4 hdX19_set (by decide) (T := TX19) (N := 32) rfl (okX19_set l D cy B ids hst N x0 hx0 r20  (10 : Int32)  x2  hr.2.2 hc26) F hr hx0 hl.1 rfl (by decide) dX19_say_50 rfl rfl hroX19_say_X19_set ⟨Nat.zero_le _, Nat.zero_le _⟩) F hA hr (fun H locs hw27 hr => ?_)
  clear hc26
  refine lv_aload_n F.1 F.2.1 dX19_say_53 rfl (lv_at hl 1 rfl) ?_
  refine lv_aload_n F.1 F.2.1 dX19_say_54 rfl (lv_at hl 2 rfl) ?_
  refine lv_iload F.1 F.2.1 dX19_say_55 (lv_at hl 0 rfl) ?_
  replace h := zc_some h
  obtain ⟨r28, z29, hc30, h⟩ := h
  refine zr_callv (zrun_V (As := [.ref (B 12 x1), .int r20]) (rest := []) zq_2773 zq_2775 zs_X19_hostSends zq_2776 zq_4 hdX19_hostSends (by decide) (T := TX19) (N := 32) rfl (okX19_hostSends l D cy B ids hst N x0 hx0 x1 hx1 r20  hr.2.2 hc30) F hr hx0 hl.1 rfl (by decide) dX19_say_57 rfl rfl hroX19_say_X19_hostSends ⟨Nat.zero_le _, Nat.zero_le _⟩) F hA hr (fun H locs hw31 hr => ?_)
  clear hc30
  refine lv_aload_n F.1 F.2.1 dX19_say_60 rfl (lv_at hl 1 rfl) ?_
  refine lv_iload F.1 F.2.1 dX19_say_61 (lv_at hl 0 rfl) ?_
  replace h := zc_some h
  obtain ⟨r32, z33, hc34, h⟩ := h
  refine zr_callv (zrun_V (As := [.int r20]) (rest := []) zq_2545 zq_2547 zs_X19_drop zq_2548 zq_4 hdX19_drop (by decide) (T := TX19) (N := 32) rfl (okX19_drop l D cy B ids hst N x0 hx0 r20  hr.2.2 hc34) F hr hx0 hl.1 rfl (by decide) dX19_say_63 rfl rfl hroX19_say_X19_drop ⟨Nat.zero_le _, Nat.zero_le _⟩) F hA hr (fun H locs hw35 hr => ?_)
  clear hc34
  obtain ⟨rfl, rfl⟩ := zret h
  exact E _ _ _ _ dX19_say_66 trivial hr
end SX19_say
set_option maxRecDepth 100000 in
theorem okX19_say (l : Launch) (D : va_G) (cy : Nat → ClassId) (B : Nat → Nat → Nat) (ids : List (Nat × Nat)) (hst : zSt B ids) (N : Nat) (x0 : Nat) (hx0 : (19, x0) ∈ ids) (x1 : Nat) (hx1 : (12, x1) ∈ ids) (x2 : Int32) (x3 : Int32) (x4 : Int32) (x5 : Int32) {z : St} {r : Int32} {z' : St} (hW : zWf ids z) (h : fX19_say N x0 x1 x2 x3 x4 x5 z = some (r, z')) : zM l yX19_say (zws yX19_say cX19_say 7 none) rmX19_say D cy B ids [.ref (B 19 x0), .ref (B 12 x1), .int x2, .int x3, .int x4, .int x5] none True z z' :=
  zM_of hst hW (by decide +kernel) (Nat.le_of_ble_eq_true rfl) (fun p e s m args below meth c A ls F hA hret hlocks hr hl => bX19_say_0 hst F hA (zEnd_v F hret hlocks) x0 x1 x2 x3 x4 x5 hx0 hx1 hr hl h)
abbrev rmX19_segment : Room := { frames := 12, cells := 0, slots := 0, locals := 312 }
theorem hdX19_segment : yX19_segment.cls ≠ "java/lang/invoke/MethodHandle" ∧ yX19_segment.cls ≠ "java/lang/invoke/VarHandle" ∧ (parseMethodDescriptor yX19_segment.desc).map (fun d => d.parameters.length) = some 3 := by decide +kernel
theorem hroX19_segment_X14_begin : rmX14_begin.frames + 1 ≤ rmX19_segment.frames ∧ 8 + (4 + 11) + rmX14_begin.locals ≤ rmX19_segment.locals := by decide
theorem hroX19_segment_X14_isDead : rmX14_isDead.frames + 1 ≤ rmX19_segment.frames ∧ 8 + (1 + 11) + rmX14_isDead.locals ≤ rmX19_segment.locals := by decide
theorem hroX19_segment_X19_arrives : rmX19_arrives.frames + 1 ≤ rmX19_segment.frames ∧ 8 + (3 + 11) + rmX19_arrives.locals ≤ rmX19_segment.locals := by decide
theorem hroX19_segment_X19_dropBook : rmX19_dropBook.frames + 1 ≤ rmX19_segment.frames ∧ 8 + (2 + 11) + rmX19_dropBook.locals ≤ rmX19_segment.locals := by decide
theorem hroX19_segment_X19_has : rmX19_has.frames + 1 ≤ rmX19_segment.frames ∧ 8 + (3 + 11) + rmX19_has.locals ≤ rmX19_segment.locals := by decide
theorem hroX19_segment_X19_knock : rmX19_knock.frames + 1 ≤ rmX19_segment.frames ∧ 8 + (10 + 11) + rmX19_knock.locals ≤ rmX19_segment.locals := by decide
theorem hroX19_segment_X19_newSegment : rmX19_newSegment.frames + 1 ≤ rmX19_segment.frames ∧ 8 + (5 + 11) + rmX19_newSegment.locals ≤ rmX19_segment.locals := by decide
theorem hroX19_segment_X19_say : rmX19_say.frames + 1 ≤ rmX19_segment.frames ∧ 8 + (7 + 11) + rmX19_say.locals ≤ rmX19_segment.locals := by decide
theorem hroX19_segment_X19_seg : rmX19_seg.frames + 1 ≤ rmX19_segment.frames ∧ 8 + (3 + 11) + rmX19_seg.locals ≤ rmX19_segment.locals := by decide
theorem hroX19_segment_X19_setSeg : rmX19_setSeg.frames + 1 ≤ rmX19_segment.frames ∧ 8 + (4 + 11) + rmX19_setSeg.locals ≤ rmX19_segment.locals := by decide
theorem hroX19_segment_X19_sizeOf : rmX19_sizeOf.frames + 1 ≤ rmX19_segment.frames ∧ 8 + (2 + 11) + rmX19_sizeOf.locals ≤ rmX19_segment.locals := by decide
section SX19_segment
variable {p : Program} {l : Launch} {e : Env} {s : State} {m : MethodId} {args : Array Value} {below : List Frame} {meth : Method} {c : Code} {Q : State → Prop} {D : va_G} {cy : Nat → ClassId} {B : Nat → Nat → Nat} {ids : List (Nat × Nat)} {A : Nat → Prop}
def fX19_segment_152 (N : Nat) (K19 : Nat → Nat → Int32 → Int32 → Int32 → Int32 → Int32 → St → Option (Int32 × St)) (x0 : Nat) (x1 : Nat) (x2 : Int32) (x3 : Int32) (x4 : Int32) (x5 : Int32) (x6 : Int32) (z : St) : Option (Int32 × St) := zl (x6 + 1) fun v1 => K19 x0 x1 x2 x3 x4 x5 v1 z
set_option maxHeartbeats 4000000 in
set_option maxRecDepth 100000 in
theorem bX19_segment_152 (hst : zSt B ids) (F : zFx p m c cX19_segment 8 s args RX19 D cy B ids A) (hA : ∀ q : Nat, s.heap.size ≤ q → A q) {r : Int32} {z' : St} (E : zEnd p l e rmX19_segment s m args below meth c cX19_segment D cy B ids A Q none z' .return_ True) {N : Nat} {K19 : Nat → Nat → Int32 → Int32 → Int32 → Int32 → Int32 → St → Option (Int32 × St)} (hK19 : ∀ (x0 : Nat) (x1 : Nat) (x2 : Int32) (x3 : Int32) (x4 : Int32) (x5 : Int32) (x6 : Int32) (hx0 : (19, x0) ∈ ids) (hx1 : (12, x1) ∈ ids) {z : St} {H : Heap} {locs : List Loc} {ls : Array Slot} (hr : zRep D cy B ids A s.heap z H locs) (hl : lv_has ls 8 [(0, .ref (B 19 x0)), (1, .ref (B 12 x1)), (2, .int x2), (3, .int x3), (4, .int x4), (5, .int x5), (6, .int x6)]), K19 x0 x1 x2 x3 x4 x5 x6 z = some (r, z') → W p l e rmX19_segment s m args below meth c H locs 0 0 Q (F0 m 19 ls [])) (x0 : Nat) (x1 : Nat) (x2 : Int32) (x3 : Int32) (x4 : Int32) (x5 : Int32) (x6 : Int32) (hx0 : (19, x0) ∈ ids) (hx1 : (12, x1) ∈ ids) {z : St} {H : Heap} {locs : List Loc} {ls : Array Slot} (hr : zRep D cy B ids A s.heap z H locs) (hl : lv_has ls 8 [(0, .ref (B 19 x0)), (1, .ref (B 12 x1)), (2, .int x2), (3, .int x3), (4, .int x4), (5, .int x5), (6, .int x6)]) (h : fX19_segment_152 N K19 x0 x1 x2 x3 x4 x5 x6 z = some (r, z')) : W p l e rmX19_segment s m args below meth c H locs 0 0 Q (F0 m 152 ls []) := by
  unfold fX19_segment_152 at h
  obtain ⟨v1, ev1⟩ : ∃ y : Int32, y = (x6 + 1) := ⟨_, rfl⟩
  replace h := zl_sub ev1 h
  refine lv_iinc (v := v1) (lv' := [(6, .int v1), (0, .ref (B 19 x0)), (1, .ref (B 12 x1)), (2, .int x2), (3, .int x3), (4, .int x4), (5, .int x5)]) F.1 F.2.1 dX19_segment_152 hl (k := 6) rfl (by rw [ev1]; rfl) (by decide) rfl (fun ls hl => ?_)
  refine lv_goto (tgt := 19) F.1 F.2.1 dX19_segment_155 (by decide) ?_
  exact hK19 x0 x1 x2 x3 x4 x5 v1 hx0 hx1 hr (lv_sub hl [1, 2, 3, 4, 5, 6, 0] rfl) h
def fX19_segment_238 (N : Nat) (K189 : Nat → Nat → Int32 → Int32 → Int32 → Int32 → Int32 → St → Option (Int32 × St)) (x0 : Nat) (x1 : Nat) (x2 : Int32) (x3 : Int32) (x4 : Int32) (x5 : Int32) (x6 : Int32) (z : St) : Option (Int32 × St) := zl (x6 + 1) fun v1 => K189 x0 x1 x2 x3 x4 x5 v1 z
set_option maxHeartbeats 4000000 in
set_option maxRecDepth 100000 in
theorem bX19_segment_238 (hst : zSt B ids) (F : zFx p m c cX19_segment 8 s args RX19 D cy B ids A) (hA : ∀ q : Nat, s.heap.size ≤ q → A q) {r : Int32} {z' : St} (E : zEnd p l e rmX19_segment s m args below meth c cX19_segment D cy B ids A Q none z' .return_ True) {N : Nat} {K189 : Nat → Nat → Int32 → Int32 → Int32 → Int32 → Int32 → St → Option (Int32 × St)} (hK189 : ∀ (x0 : Nat) (x1 : Nat) (x2 : Int32) (x3 : Int32) (x4 : Int32) (x5 : Int32) (x6 : Int32) (hx0 : (19, x0) ∈ ids) (hx1 : (12, x1) ∈ ids) {z : St} {H : Heap} {locs : List Loc} {ls : Array Slot} (hr : zRep D cy B ids A s.heap z H locs) (hl : lv_has ls 8 [(0, .ref (B 19 x0)), (1, .ref (B 12 x1)), (2, .int x2), (3, .int x3), (4, .int x4), (5, .int x5), (6, .int x6)]), K189 x0 x1 x2 x3 x4 x5 x6 z = some (r, z') → W p l e rmX19_segment s m args below meth c H locs 0 0 Q (F0 m 189 ls [])) (x0 : Nat) (x1 : Nat) (x2 : Int32) (x3 : Int32) (x4 : Int32) (x5 : Int32) (x6 : Int32) (hx0 : (19, x0) ∈ ids) (hx1 : (12, x1) ∈ ids) {z : St} {H : Heap} {locs : List Loc} {ls : Array Slot} (hr : zRep D cy B ids A s.heap z H locs) (hl : lv_has ls 8 [(0, .ref (B 19 x0)), (1, .ref (B 12 x1)), (2, .int x2), (3, .int x3), (4, .int x4), (5, .int x5), (6, .int x6)]) (h : fX19_segment_238 N K189 x0 x1 x2 x3 x4 x5 x6 z = some (r, z')) : W p l e rmX19_segment s m args below meth c H locs 0 0 Q (F0 m 238 ls []) := by
  unfold fX19_segment_238 at h
  obtain ⟨v1, ev1⟩ : ∃ y : Int32, y = (x6 + 1) := ⟨_, rfl⟩
  replace h := zl_sub ev1 h
  refine lv_iinc (v := v1) (lv' := [(6, .int v1), (0, .ref (B 19 x0)), (1, .ref (B 12 x1)), (2, .int x2), (3, .int x3), (4, .int x4), (5, .int x5)]) F.1 F.2.1 dX19_segment_238 hl (k := 6) rfl (by rw [ev1]; rfl) (by decide) rfl (fun ls hl => ?_)
  refine lv_goto (tgt := 189) F.1 F.2.1 dX19_segment_241 (by decide) ?_
  exact hK189 x0 x1 x2 x3 x4 x5 v1 hx0 hx1 hr (lv_sub hl [1, 2, 3, 4, 5, 6, 0] rfl) h
def fX19_segment_319 (N : Nat)  (x0 : Nat) (x1 : Nat) (x3 : Int32) (x4 : Int32) (x5 : Int32) (x7 : Int32) (s0 : Nat) (s1 : Int32) (s2 : Int32) (s3 : Int32) (z : St) : Option (Int32 × St) := zc (fX19_setSeg N s0 s1 s2 s3 z) fun _ z2 => zc (fX19_say N x0 x1 x7 x4 x3 x5 z2) fun _ z6 => some (0, z6)
set_option maxHeartbeats 4000000 in
set_option maxRecDepth 100000 in
theorem bX19_segment_319 (hst : zSt B ids) (F : zFx p m c cX19_segment 8 s args RX19 D cy B ids A) (hA : ∀ q : Nat, s.heap.size ≤ q → A q) {r : Int32} {z' : St} (E : zEnd p l e rmX19_segment s m args below meth c cX19_segment D cy B ids A Q none z' .return_ True) {N : Nat}  (x0 : Nat) (x1 : Nat) (x3 : Int32) (x4 : Int32) (x5 : Int32) (x7 : Int32) (s0 : Nat) (s1 : Int32) (s2 : Int32) (s3 : Int32) (hx0 : (19, x0) ∈ ids) (hx1 : (12, x1) ∈ ids) (hs0 : (19, s0) ∈ ids) {z : St} {H : Heap} {locs : List Loc} {ls : Array Slot} (hr : zRep D cy B ids A s.heap z H locs) (hl : lv_has ls 8 [(0, .ref (B 19 x0)), (1, .ref (B 12 x1)), (3, .int x3), (4, .int x4), (5, .int x5), (7, .int x7)]) (h : fX19_segment_319 N x0 x1 x3 x4 x5 x7 s0 s1 s2 s3 z = some (r, z')) : W p l e rmX19_segment s m args below meth c H locs 0 0 Q (F0 m 319 ls [.int s3, .int s2, .int s1, .ref (B 19 s0)]) := by
  unfold fX19_segment_319 at h
  replace h := zc_some h
  obtain ⟨r1, z2, hc3, h⟩ := h
  refine zr_callv (zrun_V (As := [.int s1, .int s2, .int s3]) (rest := []) zq_2757 zq_2759 zs_X19_setSeg zq_2760 zq_4 hdX19_setSeg (by decide) (T := TX19) (N := 32) rfl (okX19_setSeg l D cy B ids hst N s0 hs0 s1  s2  s3  hr.2.2 hc3) F hr hs0 hl.1 rfl (by decide) dX19_segment_319 rfl rfl hroX19_segment_X19_setSeg ⟨Nat.zero_le _, Nat.zero_le _⟩) F hA hr (fun H locs hw4 hr => ?_)
  clear hc3
  refine lv_aload_n F.1 F.2.1 dX19_segment_322 rfl (lv_at hl 0 rfl) ?_
  refine lv_aload_n F.1 F.2.1 dX19_segment_323 rfl (lv_at hl 1 rfl) ?_
  refine lv_iload F.1 F.2.1 dX19_segment_324 (lv_at hl 5 rfl) ?_
  refine lv_iload F.1 F.2.1 dX19_segment_326 (lv_at hl 3 rfl) ?_
  refine lv_iload_n F.1 F.2.1 dX19_segment_328 rfl (lv_at hl 2 rfl) ?_
  refine lv_iload F.1 F.2.1 dX19_segment_329 (lv_at hl 4 rfl) ?_
  replace h := zc_some h
  obtain ⟨r5, z6, hc7, h⟩ := h
  refine zr_callv (zrun_V (As := [.ref (B 12 x1), .int x7, .int x4, .int x3, .int x5]) (rest := []) zq_2761 zq_2763 zs_X19_say zq_2764 zq_4 hdX19_say (by decide) (T := TX19) (N := 32) rfl (okX19_say l D cy B ids hst N x0 hx0 x1 hx1 x7  x4  x3  x5  hr.2.2 hc7) F hr hx0 hl.1 rfl (by decide) dX19_segment_331 rfl rfl hroX19_segment_X19_say ⟨Nat.zero_le _, Nat.zero_le _⟩) F hA hr (fun H locs hw8 hr => ?_)
  clear hc7
  obtain ⟨rfl, rfl⟩ := zret h
  exact E _ _ _ _ dX19_segment_334 trivial hr
def fX19_segment_289 (N : Nat)  (x0 : Nat) (x1 : Nat) (x2 : Int32) (x3 : Int32) (x4 : Int32) (x5 : Int32) (x6 : Int32) (s0 : Nat) (s1 : Int32) (s2 : Int32) (z : St) : Option (Int32 × St) := zc (fX19_newSegment N s0 s1 s2 z) fun r1 z2 => if x6 = 0 then (zc (fX19_seg N x0 x2 (3 : Int32) z2) fun r6 z7 => zc (fX19_sizeOf N x0 x2 z7) fun r10 z11 => fX19_segment_319 N x0 x1 x3 x4 x5 r1 x0 r1 (4 : Int32) (r6 + r10) z11) else (fX19_segment_319 N x0 x1 x3 x4 x5 r1 x0 r1 (4 : Int32) (0 : Int32) z2)
set_option maxHeartbeats 4000000 in
set_option maxRecDepth 100000 in
theorem bX19_segment_289 (hst : zSt B ids) (F : zFx p m c cX19_segment 8 s args RX19 D cy B ids A) (hA : ∀ q : Nat, s.heap.size ≤ q → A q) {r : Int32} {z' : St} (E : zEnd p l e rmX19_segment s m args below meth c cX19_segment D cy B ids A Q none z' .return_ True) {N : Nat}  (x0 : Nat) (x1 : Nat) (x2 : Int32) (x3 : Int32) (x4 : Int32) (x5 : Int32) (x6 : Int32) (s0 : Nat) (s1 : Int32) (s2 : Int32) (hx0 : (19, x0) ∈ ids) (hx1 : (12, x1) ∈ ids) (hs0 : (19, s0) ∈ ids) {z : St} {H : Heap} {locs : List Loc} {ls : Array Slot} (hr : zRep D cy B ids A s.heap z H locs) (hl : lv_has ls 8 [(0, .ref (B 19 x0)), (1, .ref (B 12 x1)), (2, .int x2), (3, .int x3), (4, .int x4), (5, .int x5), (6, .int x6)]) (h : fX19_segment_289 N x0 x1 x2 x3 x4 x5 x6 s0 s1 s2 z = some (r, z')) : W p l e rmX19_segment s m args below meth c H locs 0 0 Q (F0 m 289 ls [.int s2, .int s1, .ref (B 19 s0)]) := by
  unfold fX19_segment_289 at h
  replace h := zc_some h
  obtain ⟨r1, z2, hc3, h⟩ := h
  refine zr_calli (zrun_V (As := [.int s1, .int s2]) (rest := []) zq_2753 zq_2755 zs_X19_newSegment zq_2756 zq_4 hdX19_newSegment (by decide) (T := TX19) (N := 32) rfl (okX19_newSegment l D cy B ids hst N s0 hs0 s1  s2  hr.2.2 hc3) F hr hs0 hl.1 rfl (by decide) dX19_segment_289 rfl rfl hroX19_segment_X19_newSegment ⟨Nat.zero_le _, Nat.zero_le _⟩) F hA hr (fun H locs hw4 hr => ?_)
  clear hc3
  refine lv_istore (lv' := [(7, .int r1), (0, .ref (B 19 x0)), (1, .ref (B 12 x1)), (2, .int x2), (3, .int x3), (4, .int x4), (5, .int x5), (6, .int x6)]) F.1 F.2.1 dX19_segment_292 hl (by decide) rfl (fun ls hl => ?_)
  refine lv_aload_n F.1 F.2.1 dX19_segment_294 rfl (lv_at hl 1 rfl) ?_
  refine lv_iload F.1 F.2.1 dX19_segment_295 (lv_at hl 0 rfl) ?_
  refine lv_iconst (v := (4 : Int32)) F.1 F.2.1 dX19_segment_297 (by decide) ?_
  refine lv_iload F.1 F.2.1 dX19_segment_298 (lv_at hl 7 rfl) ?_
  refine lv_if_eq (tgt := 307) F.1 F.2.1 dX19_segment_300 (by decide) (fun c5 => ?_) (fun c5 => ?_)
  · replace h := zi_t c5 h
    refine lv_aload_n F.1 F.2.1 dX19_segment_307 rfl (lv_at hl 1 rfl) ?_
    refine lv_iload_n F.1 F.2.1 dX19_segment_308 rfl (lv_at hl 3 rfl) ?_
    refine lv_iconst (v := (3 : Int32)) F.1 F.2.1 dX19_segment_309 (by decide) ?_
    replace h := zc_some h
    obtain ⟨r6, z7, hc8, h⟩ := h
    refine zr_calli (zrun_V (As := [.int x2, .int (3 : Int32)]) (rest := [.int (4 : Int32), .int r1, .ref (B 19 x0)]) zq_2557 zq_2559 zs_X19_seg zq_2560 zq_4 hdX19_seg (by decide) (T := TX19) (N := 32) rfl (okX19_seg l D cy B ids hst N x0 hx0 x2  (3 : Int32)  hr.2.2 hc8) F hr hx0 hl.1 rfl (Nat.le_of_ble_eq_true rfl) dX19_segment_310 rfl rfl hroX19_segment_X19_seg ⟨Nat.zero_le _, Nat.zero_le _⟩) F hA hr (fun H locs hw9 hr => ?_)
    clear hc8
    refine lv_aload_n F.1 F.2.1 dX19_segment_313 rfl (lv_at hl 1 rfl) ?_
    refine lv_iload_n F.1 F.2.1 dX19_segment_314 rfl (lv_at hl 3 rfl) ?_
    replace h := zc_some h
    obtain ⟨r10, z11, hc12, h⟩ := h
    refine zr_calli (zrun_V (As := [.int x2]) (rest := [.int r6, .int (4 : Int32), .int r1, .ref (B 19 x0)]) zq_2675 zq_2677 zs_X19_sizeOf zq_2678 zq_4 hdX19_sizeOf (by decide) (T := TX19) (N := 32) rfl (okX19_sizeOf l D cy B ids hst N x0 hx0 x2  hr.2.2 hc12) F hr hx0 hl.1 rfl (Nat.le_of_ble_eq_true rfl) dX19_segment_315 rfl rfl hroX19_segment_X19_sizeOf ⟨Nat.zero_le _, Nat.zero_le _⟩) F hA hr (fun H locs hw13 hr => ?_)
    clear hc12
    refine lv_iadd F.1 F.2.1 dX19_segment_318 ?_
    exact bX19_segment_319 hst F hA E  x0 x1 x3 x4 x5 r1 x0 r1 (4 : Int32) (r6 + r10) hx0 hx1 hx0 hr (lv_sub hl [1, 2, 4, 5, 6, 0] rfl) h
  · replace h := zi_f c5 h
    refine lv_iconst (v := (0 : Int32)) F.1 F.2.1 dX19_segment_303 (by decide) ?_
    refine lv_goto (tgt := 319) F.1 F.2.1 dX19_segment_304 (by decide) ?_
    exact bX19_segment_319 hst F hA E  x0 x1 x3 x4 x5 r1 x0 r1 (4 : Int32) (0 : Int32) hx0 hx1 hx0 hr (lv_sub hl [1, 2, 4, 5, 6, 0] rfl) h
def fX19_segment_274 (N : Nat)  (x0 : Nat) (x1 : Nat) (x2 : Int32) (x3 : Int32) (x4 : Int32) (x5 : Int32) (x6 : Int32) (s0 : Nat) (s1 : Int32) (z : St) : Option (Int32 × St) := if x6 = 0 then (fX19_segment_289 N x0 x1 x2 x3 x4 x5 x6 s0 s1 (0 : Int32) z) else (zc (fX19_seg N x0 x2 (4 : Int32) z) fun r2 z3 => fX19_segment_289 N x0 x1 x2 x3 x4 x5 x6 s0 s1 r2 z3)
set_option maxHeartbeats 4000000 in
set_option maxRecDepth 100000 in
theorem bX19_segment_274 (hst : zSt B ids) (F : zFx p m c cX19_segment 8 s args RX19 D cy B ids A) (hA : ∀ q : Nat, s.heap.size ≤ q → A q) {r : Int32} {z' : St} (E : zEnd p l e rmX19_segment s m args below meth c cX19_segment D cy B ids A Q none z' .return_ True) {N : Nat}  (x0 : Nat) (x1 : Nat) (x2 : Int32) (x3 : Int32) (x4 : Int32) (x5 : Int32) (x6 : Int32) (s0 : Nat) (s1 : Int32) (hx0 : (19, x0) ∈ ids) (hx1 : (12, x1) ∈ ids) (hs0 : (19, s0) ∈ ids) {z : St} {H : Heap} {locs : List Loc} {ls : Array Slot} (hr : zRep D cy B ids A s.heap z H locs) (hl : lv_has ls 8 [(0, .ref (B 19 x0)), (1, .ref (B 12 x1)), (2, .int x2), (3, .int x3), (4, .int x4), (5, .int x5), (6, .int x6)]) (h : fX19_segment_274 N x0 x1 x2 x3 x4 x5 x6 s0 s1 z = some (r, z')) : W p l e rmX19_segment s m args below meth c H locs 0 0 Q (F0 m 274 ls [.int s1, .ref (B 19 s0)]) := by
  unfold fX19_segment_274 at h
  refine lv_iload F.1 F.2.1 dX19_segment_274 (lv_at hl 6 rfl) ?_
  refine lv_if_eq (tgt := 288) F.1 F.2.1 dX19_segment_276 (by decide) (fun c1 => ?_) (fun c1 => ?_)
  · replace h := zi_t c1 h
    refine lv_iconst (v := (0 : Int32)) F.1 F.2.1 dX19_segment_288 (by decide) ?_
    exact bX19_segment_289 hst F hA E  x0 x1 x2 x3 x4 x5 x6 s0 s1 (0 : Int32) hx0 hx1 hs0 hr (lv_sub hl [0, 1, 2, 3, 4, 5, 6] rfl) h
  · replace h := zi_f c1 h
    refine lv_aload_n F.1 F.2.1 dX19_segment_279 rfl (lv_at hl 0 rfl) ?_
    refine lv_iload_n F.1 F.2.1 dX19_segment_280 rfl (lv_at hl 2 rfl) ?_
    refine lv_iconst (v := (4 : Int32)) F.1 F.2.1 dX19_segment_281 (by decide) ?_
    replace h := zc_some h
    obtain ⟨r2, z3, hc4, h⟩ := h
    refine zr_calli (zrun_V (As := [.int x2, .int (4 : Int32)]) (rest := [.int s1, .ref (B 19 s0)]) zq_2557 zq_2559 zs_X19_seg zq_2560 zq_4 hdX19_seg (by decide) (T := TX19) (N := 32) rfl (okX19_seg l D cy B ids hst N x0 hx0 x2  (4 : Int32)  hr.2.2 hc4) F hr hx0 hl.1 rfl (Nat.le_of_ble_eq_true rfl) dX19_segment_282 rfl rfl hroX19_segment_X19_seg ⟨Nat.zero_le _, Nat.zero_le _⟩) F hA hr (fun H locs hw5 hr => ?_)
    clear hc4
    refine lv_goto (tgt := 289) F.1 F.2.1 dX19_segment_285 (by decide) ?_
    exact bX19_segment_289 hst F hA E  x0 x1 x2 x3 x4 x5 x6 s0 s1 r2 hx0 hx1 hs0 hr (lv_sub hl [0, 1, 2, 3, 4, 5, 6] rfl) h
def fX19_segment_244 (N : Nat)  (x0 : Nat) (x1 : Nat) (x2 : Int32) (x3 : Int32) (x4 : Int32) (x5 : Int32) (z : St) : Option (Int32 × St) := zc (fX19_has N x0 x2 (4 : Int32) z) fun r1 z2 => if ¬ r1 = 0 then (some (0, z2)) else (zc (fX19_has N x0 x2 (8 : Int32) z2) fun r6 z7 => if r6 = 0 then (fX19_segment_274 N x0 x1 x2 x3 x4 x5 r6 x0 (12 : Int32) z7) else (fX19_segment_274 N x0 x1 x2 x3 x4 x5 r6 x0 (4 : Int32) z7))
set_option maxHeartbeats 4000000 in
set_option maxRecDepth 100000 in
theorem bX19_segment_244 (hst : zSt B ids) (F : zFx p m c cX19_segment 8 s args RX19 D cy B ids A) (hA : ∀ q : Nat, s.heap.size ≤ q → A q) {r : Int32} {z' : St} (E : zEnd p l e rmX19_segment s m args below meth c cX19_segment D cy B ids A Q none z' .return_ True) {N : Nat}  (x0 : Nat) (x1 : Nat) (x2 : Int32) (x3 : Int32) (x4 : Int32) (x5 : Int32) (hx0 : (19, x0) ∈ ids) (hx1 : (12, x1) ∈ ids) {z : St} {H : Heap} {locs : List Loc} {ls : Array Slot} (hr : zRep D cy B ids A s.heap z H locs) (hl : lv_has ls 8 [(0, .ref (B 19 x0)), (1, .ref (B 12 x1)), (2, .int x2), (3, .int x3), (4, .int x4), (5, .int x5)]) (h : fX19_segment_244 N x0 x1 x2 x3 x4 x5 z = some (r, z')) : W p l e rmX19_segment s m args below meth c H locs 0 0 Q (F0 m 244 ls []) := by
  unfold fX19_segment_244 at h
  refine lv_aload_n F.1 F.2.1 dX19_segment_244 rfl (lv_at hl 0 rfl) ?_
  refine lv_iload_n F.1 F.2.1 dX19_segment_245 rfl (lv_at hl 2 rfl) ?_
  refine lv_iconst (v := (4 : Int32)) F.1 F.2.1 dX19_segment_246 (by decide) ?_
  replace h := zc_some h
  obtain ⟨r1, z2, hc3, h⟩ := h
  refine zr_calli (zrun_V (As := [.int x2, .int (4 : Int32)]) (rest := []) zq_2663 zq_2665 zs_X19_has zq_2666 zq_4 hdX19_has (by decide) (T := TX19) (N := 32) rfl (okX19_has l D cy B ids hst N x0 hx0 x2  (4 : Int32)  hr.2.2 hc3) F hr hx0 hl.1 rfl (by decide) dX19_segment_247 rfl rfl hroX19_segment_X19_has ⟨Nat.zero_le _, Nat.zero_le _⟩) F hA hr (fun H locs hw4 hr => ?_)
  clear hc3
  refine lv_if_ne (tgt := 334) F.1 F.2.1 dX19_segment_250 (by decide) (fun c5 => ?_) (fun c5 => ?_)
  · replace h := zi_t c5 h
    obtain ⟨rfl, rfl⟩ := zret h
    exact E _ _ _ _ dX19_segment_334 trivial hr
  · replace h := zi_f (fun q => q c5) h
    refine lv_aload_n F.1 F.2.1 dX19_segment_253 rfl (lv_at hl 0 rfl) ?_
    refine lv_iload_n F.1 F.2.1 dX19_segment_254 rfl (lv_at hl 2 rfl) ?_
    refine lv_bipush (v := (8 : Int32)) F.1 F.2.1 dX19_segment_255 (by decide) ?_
    replace h := zc_some h
    obtain ⟨r6, z7, hc8, h⟩ := h
    refine zr_calli (zrun_V (As := [.int x2, .int (8 : Int32)]) (rest := []) zq_2663 zq_2665 zs_X19_has zq_2666 zq_4 hdX19_has (by decide) (T := TX19) (N := 32) rfl (okX19_has l D cy B ids hst N x0 hx0 x2  (8 : Int32)  hr.2.2 hc8) F hr hx0 hl.1 rfl (by decide) dX19_segment_257 rfl rfl hroX19_segment_X19_has ⟨Nat.zero_le _, Nat.zero_le _⟩) F hA hr (fun H locs hw9 hr => ?_)
    clear hc8
    refine lv_istore (lv' := [(6, .int r6), (0, .ref (B 19 x0)), (1, .ref (B 12 x1)), (2, .int x2), (3, .int x3), (4, .int x4), (5, .int x5)]) F.1 F.2.1 dX19_segment_260 hl (by decide) rfl (fun ls hl => ?_)
    refine lv_aload_n F.1 F.2.1 dX19_segment_262 rfl (lv_at hl 1 rfl) ?_
    refine lv_iload F.1 F.2.1 dX19_segment_263 (lv_at hl 0 rfl) ?_
    refine lv_if_eq (tgt := 272) F.1 F.2.1 dX19_segment_265 (by decide) (fun c10 => ?_) (fun c10 => ?_)
    · replace h := zi_t c10 h
      refine lv_bipush (v := (12 : Int32)) F.1 F.2.1 dX19_segment_272 (by decide) ?_
      exact bX19_segment_274 hst F hA E  x0 x1 x2 x3 x4 x5 r6 x0 (12 : Int32) hx0 hx1 hx0 hr (lv_sub hl [1, 2, 3, 4, 5, 6, 0] rfl) h
    · replace h := zi_f c10 h
      refine lv_iconst (v := (4 : Int32)) F.1 F.2.1 dX19_segment_268 (by decide) ?_
      refine lv_goto (tgt := 274) F.1 F.2.1 dX19_segment_269 (by decide) ?_
      exact bX19_segment_274 hst F hA E  x0 x1 x2 x3 x4 x5 r6 x0 (4 : Int32) hx0 hx1 hx0 hr (lv_sub hl [1, 2, 3, 4, 5, 6, 0] rfl) h
def fX19_segment_189b (N : Nat) (K189 : Nat → Nat → Int32 → Int32 → Int32 → Int32 → Int32 → St → Option (Int32 × St)) (x0 : Nat) (x1 : Nat) (x2 : Int32) (x3 : Int32) (x4 : Int32) (x5 : Int32) (x6 : Int32) (z : St) : Option (Int32 × St) := if (6 : Int32) ≤ x6 then (fX19_segment_244 N x0 x1 x2 x3 x4 x5 z) else (zk x6 6 <| zl (zgQ z 158 x1 (Int32.toNatClampNeg x6)) fun y3 => zd y3 fun a4 => if (zgI z 13 0 a4) = 0 then (fX19_segment_238 N K189 x0 x1 x2 x3 x4 x5 x6 z) else (zk x6 6 <| zl (zgQ z 158 x1 (Int32.toNatClampNeg x6)) fun y7 => zd y7 fun a8 => if ¬ (zgI z 13 1 a8) = x4 then (fX19_segment_238 N K189 x0 x1 x2 x3 x4 x5 x6 z) else (zc (fX19_knock N x0 x1 x6 x2 x4 x3 x5 z) fun _ z11 => some (0, z11))))
def fX19_segment_189 (N : Nat)  : Nat → Nat → Nat → Int32 → Int32 → Int32 → Int32 → Int32 → St → Option (Int32 × St)
  | 0 => fun _ _ _ _ _ _ _ _ => none
  | n + 1 => fX19_segment_189b N (fX19_segment_189 N  n)
set_option maxHeartbeats 4000000 in
set_option maxRecDepth 100000 in
theorem bX19_segment_189 (hst : zSt B ids) (F : zFx p m c cX19_segment 8 s args RX19 D cy B ids A) (hA : ∀ q : Nat, s.heap.size ≤ q → A q) {r : Int32} {z' : St} (E : zEnd p l e rmX19_segment s m args below meth c cX19_segment D cy B ids A Q none z' .return_ True) {N : Nat} {K189 : Nat → Nat → Int32 → Int32 → Int32 → Int32 → Int32 → St → Option (Int32 × St)} (hK189 : ∀ (x0 : Nat) (x1 : Nat) (x2 : Int32) (x3 : Int32) (x4 : Int32) (x5 : Int32) (x6 : Int32) (hx0 : (19, x0) ∈ ids) (hx1 : (12, x1) ∈ ids) {z : St} {H : Heap} {locs : List Loc} {ls : Array Slot} (hr : zRep D cy B ids A s.heap z H locs) (hl : lv_has ls 8 [(0, .ref (B 19 x0)), (1, .ref (B 12 x1)), (2, .int x2), (3, .int x3), (4, .int x4), (5, .int x5), (6, .int x6)]), K189 x0 x1 x2 x3 x4 x5 x6 z = some (r, z') → W p l e rmX19_segment s m args below meth c H locs 0 0 Q (F0 m 189 ls [])) (x0 : Nat) (x1 : Nat) (x2 : Int32) (x3 : Int32) (x4 : Int32) (x5 : Int32) (x6 : Int32) (hx0 : (19, x0) ∈ ids) (hx1 : (12, x1) ∈ ids) {z : St} {H : Heap} {locs : List Loc} {ls : Array Slot} (hr : zRep D cy B ids A s.heap z H locs) (hl : lv_has ls 8 [(0, .ref (B 19 x0)), (1, .ref (B 12 x1)), (2, .int x2), (3, .int x3), (4, .int x4), (5, .int x5), (6, .int x6)]) (h : fX19_segment_189b N K189 x0 x1 x2 x3 x4 x5 x6 z = some (r, z')) : W p l e rmX19_segment s m args below meth c H locs 0 0 Q (F0 m 189 ls []) := by
  unfold fX19_segment_189b at h
  refine lv_iload F.1 F.2.1 dX19_segment_189 (lv_at hl 6 rfl) ?_
  refine lv_bipush (v := (6 : Int32)) F.1 F.2.1 dX19_segment_191 (by decide) ?_
  refine lv_icmp_ge (tgt := 244) F.1 F.2.1 dX19_segment_193 (by decide) (fun c1 => ?_) (fun c1 => ?_)
  · replace h := zi_t c1 h
    exact bX19_segment_244 hst F hA E  x0 x1 x2 x3 x4 x5 hx0 hx1 hr (lv_sub hl [0, 1, 2, 3, 4, 5] rfl) h
  · replace h := zi_f c1 h
    refine lv_aload_n F.1 F.2.1 dX19_segment_196 rfl (lv_at hl 1 rfl) ?_
    refine gf19_340 F hx1 hr dX19_segment_197 ?_
    refine lv_iload F.1 F.2.1 dX19_segment_200 (lv_at hl 6 rfl) ?_
    replace h := zk_some h
    obtain ⟨c2, h⟩ := h
    refine zr_aaldv (k := 158) (by decide) rfl rfl (zlen_d (by decide)) F (zal_a F hx1 (j := 28) rfl) hr dX19_segment_202 c2 (fun y3 ey3 => ?_)
    replace h := zl_sub ey3 h
    have hy3 := zal_q hr (zal_a F hx1 (j := 28) rfl) rfl ey3
    clear ey3
    replace h := zd_some h
    obtain ⟨a4, rfl, h⟩ := h
    refine gf19_747 F (hy3 _ rfl) hr dX19_segment_203 ?_
    refine lv_if_eq (tgt := 238) F.1 F.2.1 dX19_segment_206 (by decide) (fun c5 => ?_) (fun c5 => ?_)
    · replace h := zi_t c5 h
      exact bX19_segment_238 hst F hA E hK189 x0 x1 x2 x3 x4 x5 x6 hx0 hx1 hr (lv_sub hl [0, 1, 2, 3, 4, 5, 6] rfl) h
    · replace h := zi_f c5 h
      refine lv_aload_n F.1 F.2.1 dX19_segment_209 rfl (lv_at hl 1 rfl) ?_
      refine gf19_340 F hx1 hr dX19_segment_210 ?_
      refine lv_iload F.1 F.2.1 dX19_segment_213 (lv_at hl 6 rfl) ?_
      replace h := zk_some h
      obtain ⟨c6, h⟩ := h
      refine zr_aaldv (k := 158) (by decide) rfl rfl (zlen_d (by decide)) F (zal_a F hx1 (j := 28) rfl) hr dX19_segment_215 c6 (fun y7 ey7 => ?_)
      replace h := zl_sub ey7 h
      have hy7 := zal_q hr (zal_a F hx1 (j := 28) rfl) rfl ey7
      clear ey7
      replace h := zd_some h
      obtain ⟨a8, rfl, h⟩ := h
      refine gf19_783 F (hy7 _ rfl) hr dX19_segment_216 ?_
      refine lv_iload F.1 F.2.1 dX19_segment_219 (lv_at hl 4 rfl) ?_
      refine lv_icmp_ne (tgt := 238) F.1 F.2.1 dX19_segment_221 (by decide) (fun c9 => ?_) (fun c9 => ?_)
      · replace h := zi_t c9 h
        exact bX19_segment_238 hst F hA E hK189 x0 x1 x2 x3 x4 x5 x6 hx0 hx1 hr (lv_sub hl [0, 1, 2, 3, 4, 5, 6] rfl) h
      · replace h := zi_f (fun q => q c9) h
        refine lv_aload_n F.1 F.2.1 dX19_segment_224 rfl (lv_at hl 0 rfl) ?_
        refine lv_aload_n F.1 F.2.1 dX19_segment_225 rfl (lv_at hl 1 rfl) ?_
        refine lv_iload F.1 F.2.1 dX19_segment_226 (lv_at hl 6 rfl) ?_
        refine lv_iload_n F.1 F.2.1 dX19_segment_228 rfl (lv_at hl 2 rfl) ?_
        refine lv_iload F.1 F.2.1 dX19_segment_229 (lv_at hl 4 rfl) ?_
        refine lv_iload_n F.1 F.2.1 dX19_segment_231 rfl (lv_at hl 3 rfl) ?_
        refine lv_iload F.1 F.2.1 dX19_segment_232 (lv_at hl 5 rfl) ?_
        replace h := zc_some h
        obtain ⟨r10, z11, hc12, h⟩ := h
        refine zr_callv (zrun_V (As := [.ref (B 12 x1), .int x6, .int x2, .int x4, .int x3, .int x5]) (rest := []) zq_2733 zq_2735 zs_X19_knock zq_2736 zq_4 hdX19_knock (by decide) (T := TX19) (N := 32) rfl (okX19_knock l D cy B ids hst N x0 hx0 x1 hx1 x6  x2  x4  x3  x5  hr.2.2 hc12) F hr hx0 hl.1 rfl (by decide) dX19_segment_234 rfl rfl hroX19_segment_X19_knock ⟨Nat.zero_le _, Nat.zero_le _⟩) F hA hr (fun H locs hw13 hr => ?_)
        clear hc12
        obtain ⟨rfl, rfl⟩ := zret h
        exact E _ _ _ _ dX19_segment_237 trivial hr
theorem lX19_segment_189 (hst : zSt B ids) (F : zFx p m c cX19_segment 8 s args RX19 D cy B ids A) (hA : ∀ q : Nat, s.heap.size ≤ q → A q) {r : Int32} {z' : St} (E : zEnd p l e rmX19_segment s m args below meth c cX19_segment D cy B ids A Q none z' .return_ True) {N : Nat}  : ∀ (n : Nat) (x0 : Nat) (x1 : Nat) (x2 : Int32) (x3 : Int32) (x4 : Int32) (x5 : Int32) (x6 : Int32) (hx0 : (19, x0) ∈ ids) (hx1 : (12, x1) ∈ ids) {z : St} {H : Heap} {locs : List Loc} {ls : Array Slot} (hr : zRep D cy B ids A s.heap z H locs) (hl : lv_has ls 8 [(0, .ref (B 19 x0)), (1, .ref (B 12 x1)), (2, .int x2), (3, .int x3), (4, .int x4), (5, .int x5), (6, .int x6)]), fX19_segment_189 N  n x0 x1 x2 x3 x4 x5 x6 z = some (r, z') → W p l e rmX19_segment s m args below meth c H locs 0 0 Q (F0 m 189 ls []) := by
  intro n
  induction n with
  | zero => intro x0 x1 x2 x3 x4 x5 x6 hx0 hx1 z H locs ls hr hl h; cases h
  | succ n ih => intro x0 x1 x2 x3 x4 x5 x6 hx0 hx1 z H locs ls hr hl h; exact bX19_segment_189 hst F hA E ih x0 x1 x2 x3 x4 x5 x6 hx0 hx1 hr hl h
def fX19_segment_19b (N : Nat) (K19 : Nat → Nat → Int32 → Int32 → Int32 → Int32 → Int32 → St → Option (Int32 × St)) (x0 : Nat) (x1 : Nat) (x2 : Int32) (x3 : Int32) (x4 : Int32) (x5 : Int32) (x6 : Int32) (z : St) : Option (Int32 × St) := if (6 : Int32) ≤ x6 then (zc (fX19_has N x0 x2 (1 : Int32) z) fun r2 z3 => if r2 = 0 then (fX19_segment_244 N x0 x1 x2 x3 x4 x5 z3) else (zc (fX19_has N x0 x2 (4 : Int32) z3) fun r7 z8 => if ¬ r7 = 0 then (fX19_segment_244 N x0 x1 x2 x3 x4 x5 z8) else (zc (fX19_has N x0 x2 (8 : Int32) z8) fun r12 z13 => if ¬ r12 = 0 then (fX19_segment_244 N x0 x1 x2 x3 x4 x5 z13) else (fX19_segment_189 N N x0 x1 x2 x3 x4 x5 (0 : Int32) z13)))) else (zk x6 6 <| zl (zgQ z 158 x1 (Int32.toNatClampNeg x6)) fun y18 => zd y18 fun a19 => zl (zgR z 13 4 a19) fun y20 => zk x6 6 <| zl (zgQ z 158 x1 (Int32.toNatClampNeg x6)) fun y22 => zd y22 fun a23 => if (zgI z 13 3 a23) = 0 then (fX19_segment_152 N K19 x0 x1 x2 x3 x4 x5 x6 z) else (zd y20 fun a25 => zc (fX14_isDead N a25 z) fun r26 z27 => if ¬ r26 = 0 then (fX19_segment_152 N K19 x0 x1 x2 x3 x4 x5 x6 z27) else (if ¬ (zgI z27 14 2 a25) = x4 then (fX19_segment_152 N K19 x0 x1 x2 x3 x4 x5 x6 z27) else (if ¬ (zgI z27 14 3 a25) = x3 then (fX19_segment_152 N K19 x0 x1 x2 x3 x4 x5 x6 z27) else (if ¬ (zgI z27 14 4 a25) = x5 then (fX19_segment_152 N K19 x0 x1 x2 x3 x4 x5 x6 z27) else (zc (fX19_arrives N x0 a25 x2 z27) fun r34 z35 => if r34 = 0 then (some (0, z35)) else (zc (fX14_begin N a25 (zgI z35 14 5 a25) (zgI z35 14 14 a25) z35) fun _ z40 => zk (zgI z40 14 44 a25) 2592 <| zl (zsA z40 182 x0 (Int32.toNatClampNeg (zgI z40 14 44 a25)) (0 : Int32)) fun z44 => zc (fX19_dropBook N x0 (zgI z44 14 45 a25) z44) fun _ z46 => zl (zsI z46 14 45 a25 (-1 : Int32)) fun z49 => zl (zsI z49 14 0 a25 (1 : Int32)) fun z50 => zl (zsI z50 14 1 a25 (1 : Int32)) fun z51 => some (0, z51))))))))
def fX19_segment_19 (N : Nat)  : Nat → Nat → Nat → Int32 → Int32 → Int32 → Int32 → Int32 → St → Option (Int32 × St)
  | 0 => fun _ _ _ _ _ _ _ _ => none
  | n + 1 => fX19_segment_19b N (fX19_segment_19 N  n)
set_option maxHeartbeats 4000000 in
set_option maxRecDepth 100000 in
theorem bX19_segment_19 (hst : zSt B ids) (F : zFx p m c cX19_segment 8 s args RX19 D cy B ids A) (hA : ∀ q : Nat, s.heap.size ≤ q → A q) {r : Int32} {z' : St} (E : zEnd p l e rmX19_segment s m args below meth c cX19_segment D cy B ids A Q none z' .return_ True) {N : Nat} {K19 : Nat → Nat → Int32 → Int32 → Int32 → Int32 → Int32 → St → Option (Int32 × St)} (hK19 : ∀ (x0 : Nat) (x1 : Nat) (x2 : Int32) (x3 : Int32) (x4 : Int32) (x5 : Int32) (x6 : Int32) (hx0 : (19, x0) ∈ ids) (hx1 : (12, x1) ∈ ids) {z : St} {H : Heap} {locs : List Loc} {ls : Array Slot} (hr : zRep D cy B ids A s.heap z H locs) (hl : lv_has ls 8 [(0, .ref (B 19 x0)), (1, .ref (B 12 x1)), (2, .int x2), (3, .int x3), (4, .int x4), (5, .int x5), (6, .int x6)]), K19 x0 x1 x2 x3 x4 x5 x6 z = some (r, z') → W p l e rmX19_segment s m args below meth c H locs 0 0 Q (F0 m 19 ls [])) (x0 : Nat) (x1 : Nat) (x2 : Int32) (x3 : Int32) (x4 : Int32) (x5 : Int32) (x6 : Int32) (hx0 : (19, x0) ∈ ids) (hx1 : (12, x1) ∈ ids) {z : St} {H : Heap} {locs : List Loc} {ls : Array Slot} (hr : zRep D cy B ids A s.heap z H locs) (hl : lv_has ls 8 [(0, .ref (B 19 x0)), (1, .ref (B 12 x1)), (2, .int x2), (3, .int x3), (4, .int x4), (5, .int x5), (6, .int x6)]) (h : fX19_segment_19b N K19 x0 x1 x2 x3 x4 x5 x6 z = some (r, z')) : W p l e rmX19_segment s m args below meth c H locs 0 0 Q (F0 m 19 ls []) := by
  unfold fX19_segment_19b at h
  refine lv_iload F.1 F.2.1 dX19_segment_19 (lv_at hl 6 rfl) ?_
  refine lv_bipush (v := (6 : Int32)) F.1 F.2.1 dX19_segment_21 (by decide) ?_
  refine lv_icmp_ge (tgt := 158) F.1 F.2.1 dX19_segment_23 (by decide) (fun c1 => ?_) (fun c1 => ?_)
  · replace h := zi_t c1 h
    refine lv_aload_n F.1 F.2.1 dX19_segment_158 rfl (lv_at hl 0 rfl) ?_
    refine lv_iload_n F.1 F.2.1 dX19_segment_159 rfl (lv_at hl 2 rfl) ?_
    refine lv_iconst (v := (1 : Int32)) F.1 F.2.1 dX19_segment_160 (by decide) ?_
    replace h := zc_some h
    obtain ⟨r2, z3, hc4, h⟩ := h
    refine zr_calli (zrun_V (As := [.int x2, .int (1 : Int32)]) (rest := []) zq_2663 zq_2665 zs_X19_has zq_2666 zq_4 hdX19_has (by decide) (T := TX19) (N := 32) rfl (okX19_has l D cy B ids hst N x0 hx0 x2  (1 : Int32)  hr.2.2 hc4) F hr hx0 hl.1 rfl (by decide) dX19_segment_161 rfl rfl hroX19_segment_X19_has ⟨Nat.zero_le _, Nat.zero_le _⟩) F hA hr (fun H locs hw5 hr => ?_)
    clear hc4
    refine lv_if_eq (tgt := 244) F.1 F.2.1 dX19_segment_164 (by decide) (fun c6 => ?_) (fun c6 => ?_)
    · replace h := zi_t c6 h
      exact bX19_segment_244 hst F hA E  x0 x1 x2 x3 x4 x5 hx0 hx1 hr (lv_sub hl [0, 1, 2, 3, 4, 5] rfl) h
    · replace h := zi_f c6 h
      refine lv_aload_n F.1 F.2.1 dX19_segment_167 rfl (lv_at hl 0 rfl) ?_
      refine lv_iload_n F.1 F.2.1 dX19_segment_168 rfl (lv_at hl 2 rfl) ?_
      refine lv_iconst (v := (4 : Int32)) F.1 F.2.1 dX19_segment_169 (by decide) ?_
      replace h := zc_some h
      obtain ⟨r7, z8, hc9, h⟩ := h
      refine zr_calli (zrun_V (As := [.int x2, .int (4 : Int32)]) (rest := []) zq_2663 zq_2665 zs_X19_has zq_2666 zq_4 hdX19_has (by decide) (T := TX19) (N := 32) rfl (okX19_has l D cy B ids hst N x0 hx0 x2  (4 : Int32)  hr.2.2 hc9) F hr hx0 hl.1 rfl (by decide) dX19_segment_170 rfl rfl hroX19_segment_X19_has ⟨Nat.zero_le _, Nat.zero_le _⟩) F hA hr (fun H locs hw10 hr => ?_)
      clear hc9
      refine lv_if_ne (tgt := 244) F.1 F.2.1 dX19_segment_173 (by decide) (fun c11 => ?_) (fun c11 => ?_)
      · replace h := zi_t c11 h
        exact bX19_segment_244 hst F hA E  x0 x1 x2 x3 x4 x5 hx0 hx1 hr (lv_sub hl [0, 1, 2, 3, 4, 5] rfl) h
      · replace h := zi_f (fun q => q c11) h
        refine lv_aload_n F.1 F.2.1 dX19_segment_176 rfl (lv_at hl 0 rfl) ?_
        refine lv_iload_n F.1 F.2.1 dX19_segment_177 rfl (lv_at hl 2 rfl) ?_
        refine lv_bipush (v := (8 : Int32)) F.1 F.2.1 dX19_segment_178 (by decide) ?_
        replace h := zc_some h
        obtain ⟨r12, z13, hc14, h⟩ := h
        refine zr_calli (zrun_V (As := [.int x2, .int (8 : Int32)]) (rest := []) zq_2663 zq_2665 zs_X19_has zq_2666 zq_4 hdX19_has (by decide) (T := TX19) (N := 32) rfl (okX19_has l D cy B ids hst N x0 hx0 x2  (8 : Int32)  hr.2.2 hc14) F hr hx0 hl.1 rfl (by decide) dX19_segment_180 rfl rfl hroX19_segment_X19_has ⟨Nat.zero_le _, Nat.zero_le _⟩) F hA hr (fun H locs hw15 hr => ?_)
        clear hc14
        refine lv_if_ne (tgt := 244) F.1 F.2.1 dX19_segment_183 (by decide) (fun c16 => ?_) (fun c16 => ?_)
        · replace h := zi_t c16 h
          exact bX19_segment_244 hst F hA E  x0 x1 x2 x3 x4 x5 hx0 hx1 hr (lv_sub hl [0, 1, 2, 3, 4, 5] rfl) h
        · replace h := zi_f (fun q => q c16) h
          refine lv_iconst (v := (0 : Int32)) F.1 F.2.1 dX19_segment_186 (by decide) ?_
          refine lv_istore (lv' := [(6, .int (0 : Int32)), (0, .ref (B 19 x0)), (1, .ref (B 12 x1)), (2, .int x2), (3, .int x3), (4, .int x4), (5, .int x5)]) F.1 F.2.1 dX19_segment_187 hl (by decide) rfl (fun ls hl => ?_)
          exact lX19_segment_189 hst F hA E  _ x0 x1 x2 x3 x4 x5 (0 : Int32) hx0 hx1 hr (lv_sub hl [1, 2, 3, 4, 5, 6, 0] rfl) h
  · replace h := zi_f c1 h
    refine lv_aload_n F.1 F.2.1 dX19_segment_26 rfl (lv_at hl 1 rfl) ?_
    refine gf19_340 F hx1 hr dX19_segment_27 ?_
    refine lv_iload F.1 F.2.1 dX19_segment_30 (lv_at hl 6 rfl) ?_
    replace h := zk_some h
    obtain ⟨c17, h⟩ := h
    refine zr_aaldv (k := 158) (by decide) rfl rfl (zlen_d (by decide)) F (zal_a F hx1 (j := 28) rfl) hr dX19_segment_32 c17 (fun y18 ey18 => ?_)
    replace h := zl_sub ey18 h
    have hy18 := zal_q hr (zal_a F hx1 (j := 28) rfl) rfl ey18
    clear ey18
    replace h := zd_some h
    obtain ⟨a19, rfl, h⟩ := h
    refine gf19_344 F (hy18 _ rfl) hr dX19_segment_33 (fun y20 ey20 => ?_)
    replace h := zl_sub ey20 h
    have hy20 := zal_g hr (hy18 _ rfl) (j := 4) rfl ey20
    clear ey20
    refine zr_astore (lv' := [(7, va_rf (Option.map (B 14) y20)), (0, .ref (B 19 x0)), (1, .ref (B 12 x1)), (2, .int x2), (3, .int x3), (4, .int x4), (5, .int x5), (6, .int x6)]) F.1 F.2.1 dX19_segment_36 hl (by decide) rfl (fun ls hl => ?_)
    refine lv_aload_n F.1 F.2.1 dX19_segment_38 rfl (lv_at hl 2 rfl) ?_
    refine gf19_340 F hx1 hr dX19_segment_39 ?_
    refine lv_iload F.1 F.2.1 dX19_segment_42 (lv_at hl 7 rfl) ?_
    replace h := zk_some h
    obtain ⟨c21, h⟩ := h
    refine zr_aaldv (k := 158) (by decide) rfl rfl (zlen_d (by decide)) F (zal_a F hx1 (j := 28) rfl) hr dX19_segment_44 c21 (fun y22 ey22 => ?_)
    replace h := zl_sub ey22 h
    have hy22 := zal_q hr (zal_a F hx1 (j := 28) rfl) rfl ey22
    clear ey22
    replace h := zd_some h
    obtain ⟨a23, rfl, h⟩ := h
    refine gf19_350 F (hy22 _ rfl) hr dX19_segment_45 ?_
    refine lv_if_eq (tgt := 152) F.1 F.2.1 dX19_segment_48 (by decide) (fun c24 => ?_) (fun c24 => ?_)
    · replace h := zi_t c24 h
      exact bX19_segment_152 hst F hA E hK19 x0 x1 x2 x3 x4 x5 x6 hx0 hx1 hr (lv_sub hl [1, 2, 3, 4, 5, 6, 7] rfl) h
    · replace h := zi_f c24 h
      refine zr_aload F.1 F.2.1 dX19_segment_51 (lv_at hl 0 rfl) ?_
      replace h := zd_some h
      obtain ⟨a25, rfl, h⟩ := h
      replace h := zc_some h
      obtain ⟨r26, z27, hc28, h⟩ := h
      refine zr_calli (zrun_VN (As := []) (rest := []) zn_2651 zq_2653 zs_X14_isDead zq_2654 zq_21 hdX14_isDead (by decide) (T := TX14) (N := 47) rfl (okX14_isDead l D cy B ids hst N a25 (hy20 _ rfl) hr.2.2 hc28) F hr (hy20 _ rfl) hl.1 rfl (by decide) dX19_segment_53 rfl rfl hroX19_segment_X14_isDead ⟨Nat.zero_le _, Nat.zero_le _⟩) F hA hr (fun H locs hw29 hr => ?_)
      clear hc28
      refine lv_if_ne (tgt := 152) F.1 F.2.1 dX19_segment_56 (by decide) (fun c30 => ?_) (fun c30 => ?_)
      · replace h := zi_t c30 h
        exact bX19_segment_152 hst F hA E hK19 x0 x1 x2 x3 x4 x5 x6 hx0 hx1 hr (lv_sub hl [1, 2, 3, 4, 5, 6, 7] rfl) h
      · replace h := zi_f (fun q => q c30) h
        refine lv_aload F.1 F.2.1 dX19_segment_59 (lv_at hl 0 rfl) ?_
        refine gf19_358 F (hy20 _ rfl) hr dX19_segment_61 ?_
        refine lv_iload F.1 F.2.1 dX19_segment_64 (lv_at hl 5 rfl) ?_
        refine lv_icmp_ne (tgt := 152) F.1 F.2.1 dX19_segment_66 (by decide) (fun c31 => ?_) (fun c31 => ?_)
        · replace h := zi_t c31 h
          exact bX19_segment_152 hst F hA E hK19 x0 x1 x2 x3 x4 x5 x6 hx0 hx1 hr (lv_sub hl [1, 2, 3, 4, 5, 6, 7] rfl) h
        · replace h := zi_f (fun q => q c31) h
          refine lv_aload F.1 F.2.1 dX19_segment_69 (lv_at hl 0 rfl) ?_
          refine gf19_361 F (hy20 _ rfl) hr dX19_segment_71 ?_
          refine lv_iload_n F.1 F.2.1 dX19_segment_74 rfl (lv_at hl 4 rfl) ?_
          refine lv_icmp_ne (tgt := 152) F.1 F.2.1 dX19_segment_75 (by decide) (fun c32 => ?_) (fun c32 => ?_)
          · replace h := zi_t c32 h
            exact bX19_segment_152 hst F hA E hK19 x0 x1 x2 x3 x4 x5 x6 hx0 hx1 hr (lv_sub hl [1, 2, 3, 4, 5, 6, 7] rfl) h
          · replace h := zi_f (fun q => q c32) h
            refine lv_aload F.1 F.2.1 dX19_segment_78 (lv_at hl 0 rfl) ?_
            refine gf19_364 F (hy20 _ rfl) hr dX19_segment_80 ?_
            refine lv_iload F.1 F.2.1 dX19_segment_83 (lv_at hl 6 rfl) ?_
            refine lv_icmp_ne (tgt := 152) F.1 F.2.1 dX19_segment_85 (by decide) (fun c33 => ?_) (fun c33 => ?_)
            · replace h := zi_t c33 h
              exact bX19_segment_152 hst F hA E hK19 x0 x1 x2 x3 x4 x5 x6 hx0 hx1 hr (lv_sub hl [1, 2, 3, 4, 5, 6, 7] rfl) h
            · replace h := zi_f (fun q => q c33) h
              refine lv_aload_n F.1 F.2.1 dX19_segment_88 rfl (lv_at hl 1 rfl) ?_
              refine lv_aload F.1 F.2.1 dX19_segment_89 (lv_at hl 0 rfl) ?_
              refine lv_iload_n F.1 F.2.1 dX19_segment_91 rfl (lv_at hl 3 rfl) ?_
              replace h := zc_some h
              obtain ⟨r34, z35, hc36, h⟩ := h
              refine zr_calli (zrun_V (As := [.ref (B 14 a25), .int x2]) (rest := []) zq_2655 zq_2657 zs_X19_arrives zq_2658 zq_4 hdX19_arrives (by decide) (T := TX19) (N := 32) rfl (okX19_arrives l D cy B ids hst N x0 hx0 a25 (hy20 _ rfl) x2  hr.2.2 hc36) F hr hx0 hl.1 rfl (by decide) dX19_segment_92 rfl rfl hroX19_segment_X19_arrives ⟨Nat.zero_le _, Nat.zero_le _⟩) F hA hr (fun H locs hw37 hr => ?_)
              clear hc36
              refine lv_if_eq (tgt := 151) F.1 F.2.1 dX19_segment_95 (by decide) (fun c38 => ?_) (fun c38 => ?_)
              · replace h := zi_t c38 h
                obtain ⟨rfl, rfl⟩ := zret h
                exact E _ _ _ _ dX19_segment_151 trivial hr
              · replace h := zi_f c38 h
                refine lv_aload F.1 F.2.1 dX19_segment_98 (lv_at hl 0 rfl) ?_
                refine lv_aload F.1 F.2.1 dX19_segment_100 (lv_at hl 0 rfl) ?_
                refine gf19_588 F (hy20 _ rfl) hr dX19_segment_102 ?_
                refine lv_aload F.1 F.2.1 dX19_segment_105 (lv_at hl 0 rfl) ?_
                refine gf19_576 F (hy20 _ rfl) hr dX19_segment_107 ?_
                replace h := zc_some h
                obtain ⟨r39, z40, hc41, h⟩ := h
                refine zr_callv (zrun_VN (As := [.int (zgI z35 14 5 a25), .int (zgI z35 14 14 a25)]) (rest := []) zn_2729 zq_2731 zs_X14_begin zq_2732 zq_21 hdX14_begin (by decide) (T := TX14) (N := 47) rfl (okX14_begin l D cy B ids hst N a25 (hy20 _ rfl) (zgI z35 14 5 a25)  (zgI z35 14 14 a25)  hr.2.2 hc41) F hr (hy20 _ rfl) hl.1 rfl (by decide) dX19_segment_110 rfl rfl hroX19_segment_X14_begin ⟨Nat.zero_le _, Nat.zero_le _⟩) F hA hr (fun H locs hw42 hr => ?_)
                clear hc41
                refine lv_aload_n F.1 F.2.1 dX19_segment_113 rfl (lv_at hl 1 rfl) ?_
                refine gf19_90 F hx0 hr dX19_segment_114 ?_
                refine lv_aload F.1 F.2.1 dX19_segment_117 (lv_at hl 0 rfl) ?_
                refine gf19_732 F (hy20 _ rfl) hr dX19_segment_119 ?_
                refine lv_iconst (v := (0 : Int32)) F.1 F.2.1 dX19_segment_122 (by decide) ?_
                replace h := zk_some h
                obtain ⟨c43, h⟩ := h
                refine zr_iast (k := 182) (by decide) rfl (by decide) F (zal_a F hx0 (j := 13) rfl) hr dX19_segment_123 c43 (fun H locs z44 ez44 hr => ?_)
                replace h := zl_sub ez44 h
                clear ez44
                refine lv_aload_n F.1 F.2.1 dX19_segment_124 rfl (lv_at hl 1 rfl) ?_
                refine lv_aload F.1 F.2.1 dX19_segment_125 (lv_at hl 0 rfl) ?_
                refine gf19_594 F (hy20 _ rfl) hr dX19_segment_127 ?_
                replace h := zc_some h
                obtain ⟨r45, z46, hc47, h⟩ := h
                refine zr_callv (zrun_V (As := [.int (zgI z44 14 45 a25)]) (rest := []) zq_2561 zq_2563 zs_X19_dropBook zq_2564 zq_4 hdX19_dropBook (by decide) (T := TX19) (N := 32) rfl (okX19_dropBook l D cy B ids hst N x0 hx0 (zgI z44 14 45 a25)  hr.2.2 hc47) F hr hx0 hl.1 rfl (by decide) dX19_segment_130 rfl rfl hroX19_segment_X19_dropBook ⟨Nat.zero_le _, Nat.zero_le _⟩) F hA hr (fun H locs hw48 hr => ?_)
                clear hc47
                refine lv_aload F.1 F.2.1 dX19_segment_133 (lv_at hl 0 rfl) ?_
                refine lv_iconst (v := (-1 : Int32)) F.1 F.2.1 dX19_segment_135 (by decide) ?_
                refine pf19_594 F (hy20 _ rfl) hr dX19_segment_136 (-1 : Int32) (fun H locs z49 ez49 hr => ?_)
                replace h := zl_sub ez49 h
                clear ez49
                refine lv_aload F.1 F.2.1 dX19_segment_139 (lv_at hl 0 rfl) ?_
                refine lv_iconst (v := (1 : Int32)) F.1 F.2.1 dX19_segment_141 (by decide) ?_
                refine pf19_353 F (hy20 _ rfl) hr dX19_segment_142 (1 : Int32) (fun H locs z50 ez50 hr => ?_)
                replace h := zl_sub ez50 h
                clear ez50
                refine lv_aload F.1 F.2.1 dX19_segment_145 (lv_at hl 0 rfl) ?_
                refine lv_iconst (v := (1 : Int32)) F.1 F.2.1 dX19_segment_147 (by decide) ?_
                refine pf19_631 F (hy20 _ rfl) hr dX19_segment_148 (1 : Int32) (by decide) (fun H locs z51 ez51 hr => ?_)
                replace h := zl_sub ez51 h
                clear ez51
                obtain ⟨rfl, rfl⟩ := zret h
                exact E _ _ _ _ dX19_segment_151 trivial hr
theorem lX19_segment_19 (hst : zSt B ids) (F : zFx p m c cX19_segment 8 s args RX19 D cy B ids A) (hA : ∀ q : Nat, s.heap.size ≤ q → A q) {r : Int32} {z' : St} (E : zEnd p l e rmX19_segment s m args below meth c cX19_segment D cy B ids A Q none z' .return_ True) {N : Nat}  : ∀ (n : Nat) (x0 : Nat) (x1 : Nat) (x2 : Int32) (x3 : Int32) (x4 : Int32) (x5 : Int32) (x6 : Int32) (hx0 : (19, x0) ∈ ids) (hx1 : (12, x1) ∈ ids) {z : St} {H : Heap} {locs : List Loc} {ls : Array Slot} (hr : zRep D cy B ids A s.heap z H locs) (hl : lv_has ls 8 [(0, .ref (B 19 x0)), (1, .ref (B 12 x1)), (2, .int x2), (3, .int x3), (4, .int x4), (5, .int x5), (6, .int x6)]), fX19_segment_19 N  n x0 x1 x2 x3 x4 x5 x6 z = some (r, z') → W p l e rmX19_segment s m args below meth c H locs 0 0 Q (F0 m 19 ls []) := by
  intro n
  induction n with
  | zero => intro x0 x1 x2 x3 x4 x5 x6 hx0 hx1 z H locs ls hr hl h; cases h
  | succ n ih => intro x0 x1 x2 x3 x4 x5 x6 hx0 hx1 z H locs ls hr hl h; exact bX19_segment_19 hst F hA E ih x0 x1 x2 x3 x4 x5 x6 hx0 hx1 hr hl h
def fX19_segment (N : Nat)  (x0 : Nat) (x1 : Nat) (x2 : Int32) (x3 : Int32) (z : St) : Option (Int32 × St) := zc (fX19_seg N x0 x2 (1 : Int32) z) fun r1 z2 => zc (fX19_seg N x0 x2 (0 : Int32) z2) fun r5 z6 => fX19_segment_19 N N x0 x1 x2 x3 r1 r5 (0 : Int32) z6
set_option maxHeartbeats 4000000 in
set_option maxRecDepth 100000 in
theorem bX19_segment_0 (hst : zSt B ids) (F : zFx p m c cX19_segment 8 s args RX19 D cy B ids A) (hA : ∀ q : Nat, s.heap.size ≤ q → A q) {r : Int32} {z' : St} (E : zEnd p l e rmX19_segment s m args below meth c cX19_segment D cy B ids A Q none z' .return_ True) {N : Nat}  (x0 : Nat) (x1 : Nat) (x2 : Int32) (x3 : Int32) (hx0 : (19, x0) ∈ ids) (hx1 : (12, x1) ∈ ids) {z : St} {H : Heap} {locs : List Loc} {ls : Array Slot} (hr : zRep D cy B ids A s.heap z H locs) (hl : lv_has ls 8 [(0, .ref (B 19 x0)), (1, .ref (B 12 x1)), (2, .int x2), (3, .int x3)]) (h : fX19_segment N x0 x1 x2 x3 z = some (r, z')) : W p l e rmX19_segment s m args below meth c H locs 0 0 Q (F0 m 0 ls []) := by
  unfold fX19_segment at h
  refine lv_aload_n F.1 F.2.1 dX19_segment_0 rfl (lv_at hl 0 rfl) ?_
  refine lv_iload_n F.1 F.2.1 dX19_segment_1 rfl (lv_at hl 2 rfl) ?_
  refine lv_iconst (v := (1 : Int32)) F.1 F.2.1 dX19_segment_2 (by decide) ?_
  replace h := zc_some h
  obtain ⟨r1, z2, hc3, h⟩ := h
  refine zr_calli (zrun_V (As := [.int x2, .int (1 : Int32)]) (rest := []) zq_2557 zq_2559 zs_X19_seg zq_2560 zq_4 hdX19_seg (by decide) (T := TX19) (N := 32) rfl (okX19_seg l D cy B ids hst N x0 hx0 x2  (1 : Int32)  hr.2.2 hc3) F hr hx0 hl.1 rfl (by decide) dX19_segment_3 rfl rfl hroX19_segment_X19_seg ⟨Nat.zero_le _, Nat.zero_le _⟩) F hA hr (fun H locs hw4 hr => ?_)
  clear hc3
  refine lv_istore (lv' := [(4, .int r1), (0, .ref (B 19 x0)), (1, .ref (B 12 x1)), (2, .int x2), (3, .int x3)]) F.1 F.2.1 dX19_segment_6 hl (by decide) rfl (fun ls hl => ?_)
  refine lv_aload_n F.1 F.2.1 dX19_segment_8 rfl (lv_at hl 1 rfl) ?_
  refine lv_iload_n F.1 F.2.1 dX19_segment_9 rfl (lv_at hl 3 rfl) ?_
  refine lv_iconst (v := (0 : Int32)) F.1 F.2.1 dX19_segment_10 (by decide) ?_
  replace h := zc_some h
  obtain ⟨r5, z6, hc7, h⟩ := h
  refine zr_calli (zrun_V (As := [.int x2, .int (0 : Int32)]) (rest := []) zq_2557 zq_2559 zs_X19_seg zq_2560 zq_4 hdX19_seg (by decide) (T := TX19) (N := 32) rfl (okX19_seg l D cy B ids hst N x0 hx0 x2  (0 : Int32)  hr.2.2 hc7) F hr hx0 hl.1 rfl (by decide) dX19_segment_11 rfl rfl hroX19_segment_X19_seg ⟨Nat.zero_le _, Nat.zero_le _⟩) F hA hr (fun H locs hw8 hr => ?_)
  clear hc7
  refine lv_istore (lv' := [(5, .int r5), (4, .int r1), (0, .ref (B 19 x0)), (1, .ref (B 12 x1)), (2, .int x2), (3, .int x3)]) F.1 F.2.1 dX19_segment_14 hl (by decide) rfl (fun ls hl => ?_)
  refine lv_iconst (v := (0 : Int32)) F.1 F.2.1 dX19_segment_16 (by decide) ?_
  refine lv_istore (lv' := [(6, .int (0 : Int32)), (5, .int r5), (4, .int r1), (0, .ref (B 19 x0)), (1, .ref (B 12 x1)), (2, .int x2), (3, .int x3)]) F.1 F.2.1 dX19_segment_17 hl (by decide) rfl (fun ls hl => ?_)
  exact lX19_segment_19 hst F hA E  _ x0 x1 x2 x3 r1 r5 (0 : Int32) hx0 hx1 hr (lv_sub hl [3, 4, 5, 6, 2, 1, 0] rfl) h
end SX19_segment
set_option maxRecDepth 100000 in
theorem okX19_segment (l : Launch) (D : va_G) (cy : Nat → ClassId) (B : Nat → Nat → Nat) (ids : List (Nat × Nat)) (hst : zSt B ids) (N : Nat) (x0 : Nat) (hx0 : (19, x0) ∈ ids) (x1 : Nat) (hx1 : (12, x1) ∈ ids) (x2 : Int32) (x3 : Int32) {z : St} {r : Int32} {z' : St} (hW : zWf ids z) (h : fX19_segment N x0 x1 x2 x3 z = some (r, z')) : zM l yX19_segment (zws yX19_segment cX19_segment 8 none) rmX19_segment D cy B ids [.ref (B 19 x0), .ref (B 12 x1), .int x2, .int x3] none True z z' :=
  zM_of hst hW (by decide +kernel) (Nat.le_of_ble_eq_true rfl) (fun p e s m args below meth c A ls F hA hret hlocks hr hl => bX19_segment_0 hst F hA (zEnd_v F hret hlocks) x0 x1 x2 x3 hx0 hx1 hr hl h)
