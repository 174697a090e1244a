abbrev rmX19_tellAdvert : Room := { frames := 6, cells := 0, slots := 0, locals := 153 }
theorem hdX19_tellAdvert : yX19_tellAdvert.cls ≠ "java/lang/invoke/MethodHandle" ∧ yX19_tellAdvert.cls ≠ "java/lang/invoke/VarHandle" ∧ (parseMethodDescriptor yX19_tellAdvert.desc).map (fun d => d.parameters.length) = some 3 := by decide +kernel
theorem hroX19_tellAdvert_X18_address : rmX18_address.frames + 1 ≤ rmX19_tellAdvert.frames ∧ 8 + (1 + 11) + rmX18_address.locals ≤ rmX19_tellAdvert.locals := by decide
theorem hroX19_tellAdvert_X19_ad : rmX19_ad.frames + 1 ≤ rmX19_tellAdvert.frames ∧ 8 + (3 + 11) + rmX19_ad.locals ≤ rmX19_tellAdvert.locals := by decide
theorem hroX19_tellAdvert_X19_deliver : rmX19_deliver.frames + 1 ≤ rmX19_tellAdvert.frames ∧ 8 + (6 + 11) + rmX19_deliver.locals ≤ rmX19_tellAdvert.locals := by decide
theorem hroX19_tellAdvert_X19_drop : rmX19_drop.frames + 1 ≤ rmX19_tellAdvert.frames ∧ 8 + (2 + 11) + rmX19_drop.locals ≤ rmX19_tellAdvert.locals := by decide
theorem hroX19_tellAdvert_X19_make : rmX19_make.frames + 1 ≤ rmX19_tellAdvert.frames ∧ 8 + (7 + 11) + rmX19_make.locals ≤ rmX19_tellAdvert.locals := by decide
theorem hroX19_tellAdvert_X19_set : rmX19_set.frames + 1 ≤ rmX19_tellAdvert.frames ∧ 8 + (4 + 11) + rmX19_set.locals ≤ rmX19_tellAdvert.locals := by decide
theorem hroX19_tellAdvert_X19_stationOf : rmX19_stationOf.frames + 1 ≤ rmX19_tellAdvert.frames ∧ 8 + (3 + 11) + rmX19_stationOf.locals ≤ rmX19_tellAdvert.locals := by decide
section SX19_tellAdvert
variable {p : Program} {l : Launch} {e : Env} {s : State} {m : MethodId} {args : Array Value} {below : List Frame} {meth : Method} {c : Code} {Q : State → Prop} {D : va_G} {cy : Nat → ClassId} {B : Nat → Nat → Nat} {ids : List (Nat × Nat)} {A : Nat → Prop}
def fX19_tellAdvert (N : Nat)  (x0 : Nat) (x1 : Nat) (x2 : Nat) (x3 : Int32) (z : St) : Option (Int32 × St) := zk (zgI z 15 0 x2) 6 <| zl (zgQ z 147 x1 (Int32.toNatClampNeg (zgI z 15 0 x2))) fun y2 => zk (zgI z 15 1 x2) 16 <| zl (zgQ z 186 x0 (Int32.toNatClampNeg (zgI z 15 1 x2))) fun y4 => zd y2 fun a5 => zl (zgR z 18 2 a5) fun y6 => zd y4 fun a7 => zd y6 fun a8 => zc (fX19_stationOf N a7 a8 z) fun r9 z10 => zc (fX19_ad N x0 x3 (2 : Int32) z10) fun r13 z14 => zc (fX19_ad N x0 x3 (3 : Int32) z14) fun r17 z18 => zc (fX18_address N a5 z18) fun r21 z22 => zl (zgR z22 18 2 a5) fun y25 => zd y25 fun a26 => zk r9 8 <| zl (zgQ z22 164 a26 (Int32.toNatClampNeg r9)) fun y28 => zd y28 fun a29 => zc (fX18_address N a29 z22) fun r30 z31 => zc (fX19_make N x0 x1 (3 : Int32) ((12 : Int32) + ((6 : Int32) * (r13 + r17))) r21 r30 z31) fun r34 z35 => zc (fX19_set N x0 r34 (12 : Int32) (zgI z35 12 0 x1) z35) fun _ z39 => zc (fX19_set N x0 r34 (11 : Int32) x3 z39) fun _ z43 => zk x3 2400 <| zk x3 2400 <| zl (zsA z43 179 x0 (Int32.toNatClampNeg x3) ((zgA z43 179 x0 (Int32.toNatClampNeg x3)) + (1 : Int32))) fun z48 => zc (fX19_deliver N x0 a5 r9 r34 z48) fun _ z50 => zc (fX19_drop N x0 r34 z50) fun _ z54 => some (0, z54)
set_option maxHeartbeats 4000000 in
set_option maxRecDepth 100000 in
theorem bX19_tellAdvert_0 (hst : zSt B ids) (F : zFx p m c cX19_tellAdvert 7 s args RX19 D cy B ids A) (hA : ∀ q : Nat, s.heap.size ≤ q → A q) {r : Int32} {z' : St} (E : zEnd p l e rmX19_tellAdvert s m args below meth c cX19_tellAdvert D cy B ids A Q none z' .return_ True) {N : Nat}  (x0 : Nat) (x1 : Nat) (x2 : Nat) (x3 : Int32) (hx0 : (19, x0) ∈ ids) (hx1 : (12, x1) ∈ ids) (hx2 : (15, x2) ∈ ids) {z : St} {H : Heap} {locs : List Loc} {ls : Array Slot} (hr : zRep D cy B ids A s.heap z H locs) (hl : lv_has ls 7 [(0, .ref (B 19 x0)), (1, .ref (B 12 x1)), (2, .ref (B 15 x2)), (3, .int x3)]) (h : fX19_tellAdvert N x0 x1 x2 x3 z = some (r, z')) : W p l e rmX19_tellAdvert s m args below meth c H locs 0 0 Q (F0 m 0 ls []) := by
  unfold fX19_tellAdvert at h
  refine lv_aload_n F.1 F.2.1 dX19_tellAdvert_0 rfl (lv_at hl 1 rfl) ?_
  refine gf19_276 F hx1 hr dX19_tellAdvert_1 ?_
  refine lv_aload_n F.1 F.2.1 dX19_tellAdvert_4 rfl (lv_at hl 2 rfl) ?_
  refine gf19_464 F hx2 hr dX19_tellAdvert_5 ?_
  replace h := zk_some h
  obtain ⟨c1, h⟩ := h
  refine zr_aaldv (k := 147) (by decide) rfl rfl (zlen_d (by decide)) F (zal_a F hx1 (j := 2) rfl) hr dX19_tellAdvert_8 c1 (fun y2 ey2 => ?_)
  replace h := zl_sub ey2 h
  have hy2 := zal_q hr (zal_a F hx1 (j := 2) rfl) rfl ey2
  clear ey2
  refine zr_astore (lv' := [(4, va_rf (Option.map (B 18) y2)), (0, .ref (B 19 x0)), (1, .ref (B 12 x1)), (2, .ref (B 15 x2)), (3, .int x3)]) F.1 F.2.1 dX19_tellAdvert_9 hl (by decide) rfl (fun ls hl => ?_)
  refine lv_aload_n F.1 F.2.1 dX19_tellAdvert_11 rfl (lv_at hl 1 rfl) ?_
  refine gf19_114 F hx0 hr dX19_tellAdvert_12 ?_
  refine lv_aload_n F.1 F.2.1 dX19_tellAdvert_15 rfl (lv_at hl 3 rfl) ?_
  refine gf19_467 F hx2 hr dX19_tellAdvert_16 ?_
  replace h := zk_some h
  obtain ⟨c3, h⟩ := h
  refine zr_aaldv (k := 186) (by decide) rfl rfl (zlen_d (by decide)) F (zal_a F hx0 (j := 18) rfl) hr dX19_tellAdvert_19 c3 (fun y4 ey4 => ?_)
  replace h := zl_sub ey4 h
  have hy4 := zal_q hr (zal_a F hx0 (j := 18) rfl) rfl ey4
  clear ey4
  refine zr_aload F.1 F.2.1 dX19_tellAdvert_20 (lv_at hl 0 rfl) ?_
  replace h := zd_some h
  obtain ⟨a5, rfl, h⟩ := h
  refine gf19_149 F (hy2 _ rfl) hr dX19_tellAdvert_22 (fun y6 ey6 => ?_)
  replace h := zl_sub ey6 h
  have hy6 := zal_g hr (hy2 _ rfl) (j := 2) rfl ey6
  clear ey6
  replace h := zd_some h
  obtain ⟨a7, rfl, h⟩ := h
  replace h := zd_some h
  obtain ⟨a8, rfl, h⟩ := h
  replace h := zc_some h
  obtain ⟨r9, z10, hc11, h⟩ := h
  refine zr_calli (zrun_S (As := [.ref (B 12 a7), .ref (B 16 a8)]) (rest := []) zq_2459 zq_2460 zq_2461 zq_4 hdX19_stationOf (okX19_stationOf l D cy B ids hst N a7 (hy4 _ rfl) a8 (hy6 _ rfl) hr.2.2 hc11) F hr hl.1 rfl (by decide) dX19_tellAdvert_25 rfl rfl hroX19_tellAdvert_X19_stationOf ⟨Nat.zero_le _, Nat.zero_le _⟩) F hA hr (fun H locs hw12 hr => ?_)
  clear hc11
  refine lv_istore (lv' := [(5, .int r9), (4, .ref (B 18 a5)), (0, .ref (B 19 x0)), (1, .ref (B 12 x1)), (2, .ref (B 15 x2)), (3, .int x3)]) F.1 F.2.1 dX19_tellAdvert_28 hl (by decide) rfl (fun ls hl => ?_)
  refine lv_aload_n F.1 F.2.1 dX19_tellAdvert_30 rfl (lv_at hl 2 rfl) ?_
  refine lv_aload_n F.1 F.2.1 dX19_tellAdvert_31 rfl (lv_at hl 3 rfl) ?_
  refine lv_iconst (v := (3 : Int32)) F.1 F.2.1 dX19_tellAdvert_32 (by decide) ?_
  refine lv_bipush (v := (12 : Int32)) F.1 F.2.1 dX19_tellAdvert_33 (by decide) ?_
  refine lv_bipush (v := (6 : Int32)) F.1 F.2.1 dX19_tellAdvert_35 (by decide) ?_
  refine lv_aload_n F.1 F.2.1 dX19_tellAdvert_37 rfl (lv_at hl 2 rfl) ?_
  refine lv_iload_n F.1 F.2.1 dX19_tellAdvert_38 rfl (lv_at hl 5 rfl) ?_
  refine lv_iconst (v := (2 : Int32)) F.1 F.2.1 dX19_tellAdvert_39 (by decide) ?_
  replace h := zc_some h
  obtain ⟨r13, z14, hc15, h⟩ := h
  refine zr_calli (zrun_V (As := [.int x3, .int (2 : Int32)]) (rest := [.int (6 : Int32), .int (12 : Int32), .int (3 : Int32), .ref (B 12 x1), .ref (B 19 x0)]) zq_2828 zq_2830 zs_X19_ad zq_2831 zq_4 hdX19_ad (by decide) (T := TX19) (N := 32) rfl (okX19_ad l D cy B ids hst N x0 hx0 x3  (2 : Int32)  hr.2.2 hc15) F hr hx0 hl.1 rfl (Nat.le_of_ble_eq_true rfl) dX19_tellAdvert_40 rfl rfl hroX19_tellAdvert_X19_ad ⟨Nat.zero_le _, Nat.zero_le _⟩) F hA hr (fun H locs hw16 hr => ?_)
  clear hc15
  refine lv_aload_n F.1 F.2.1 dX19_tellAdvert_43 rfl (lv_at hl 2 rfl) ?_
  refine lv_iload_n F.1 F.2.1 dX19_tellAdvert_44 rfl (lv_at hl 5 rfl) ?_
  refine lv_iconst (v := (3 : Int32)) F.1 F.2.1 dX19_tellAdvert_45 (by decide) ?_
  replace h := zc_some h
  obtain ⟨r17, z18, hc19, h⟩ := h
  refine zr_calli (zrun_V (As := [.int x3, .int (3 : Int32)]) (rest := [.int r13, .int (6 : Int32), .int (12 : Int32), .int (3 : Int32), .ref (B 12 x1), .ref (B 19 x0)]) zq_2828 zq_2830 zs_X19_ad zq_2831 zq_4 hdX19_ad (by decide) (T := TX19) (N := 32) rfl (okX19_ad l D cy B ids hst N x0 hx0 x3  (3 : Int32)  hr.2.2 hc19) F hr hx0 hl.1 rfl (Nat.le_of_ble_eq_true rfl) dX19_tellAdvert_46 rfl rfl hroX19_tellAdvert_X19_ad ⟨Nat.zero_le _, Nat.zero_le _⟩) F hA hr (fun H locs hw20 hr => ?_)
  clear hc19
  refine lv_iadd F.1 F.2.1 dX19_tellAdvert_49 ?_
  refine lv_imul F.1 F.2.1 dX19_tellAdvert_50 ?_
  refine lv_iadd F.1 F.2.1 dX19_tellAdvert_51 ?_
  refine lv_aload F.1 F.2.1 dX19_tellAdvert_52 (lv_at hl 1 rfl) ?_
  replace h := zc_some h
  obtain ⟨r21, z22, hc23, h⟩ := h
  refine zr_calli (zrun_VN (As := []) (rest := [.int ((12 : Int32) + ((6 : Int32) * (r13 + r17))), .int (3 : Int32), .ref (B 12 x1), .ref (B 19 x0)]) zn_2520 zq_2522 zs_X18_address zq_2523 zq_25 hdX18_address (by decide) (T := TX18) (N := 13) rfl (okX18_address l D cy B ids hst N a5 (hy2 _ rfl) hr.2.2 hc23) F hr (hy2 _ rfl) hl.1 rfl (Nat.le_of_ble_eq_true rfl) dX19_tellAdvert_54 rfl rfl hroX19_tellAdvert_X18_address ⟨Nat.zero_le _, Nat.zero_le _⟩) F hA hr (fun H locs hw24 hr => ?_)
  clear hc23
  refine lv_aload F.1 F.2.1 dX19_tellAdvert_57 (lv_at hl 1 rfl) ?_
  refine gf19_149 F (hy2 _ rfl) hr dX19_tellAdvert_59 (fun y25 ey25 => ?_)
  replace h := zl_sub ey25 h
  have hy25 := zal_g hr (hy2 _ rfl) (j := 2) rfl ey25
  clear ey25
  replace h := zd_some h
  obtain ⟨a26, rfl, h⟩ := h
  refine gf19_295 F (hy25 _ rfl) hr dX19_tellAdvert_62 ?_
  refine lv_iload F.1 F.2.1 dX19_tellAdvert_65 (lv_at hl 0 rfl) ?_
  replace h := zk_some h
  obtain ⟨c27, h⟩ := h
  refine zr_aaldv (k := 164) (by decide) rfl rfl (zlen_d (by decide)) F (zal_a F (hy25 _ rfl) (j := 4) rfl) hr dX19_tellAdvert_67 c27 (fun y28 ey28 => ?_)
  replace h := zl_sub ey28 h
  have hy28 := zal_q hr (zal_a F (hy25 _ rfl) (j := 4) rfl) rfl ey28
  clear ey28
  replace h := zd_some h
  obtain ⟨a29, rfl, h⟩ := h
  replace h := zc_some h
  obtain ⟨r30, z31, hc32, h⟩ := h
  refine zr_calli (zrun_VN (As := []) (rest := [.int r21, .int ((12 : Int32) + ((6 : Int32) * (r13 + r17))), .int (3 : Int32), .ref (B 12 x1), .ref (B 19 x0)]) zn_2520 zq_2522 zs_X18_address zq_2523 zq_25 hdX18_address (by decide) (T := TX18) (N := 13) rfl (okX18_address l D cy B ids hst N a29 (hy28 _ rfl) hr.2.2 hc32) F hr (hy28 _ rfl) hl.1 rfl (Nat.le_of_ble_eq_true rfl) dX19_tellAdvert_68 rfl rfl hroX19_tellAdvert_X18_address ⟨Nat.zero_le _, Nat.zero_le _⟩) F hA hr (fun H locs hw33 hr => ?_)
  clear hc32
  replace h := zc_some h
  obtain ⟨r34, z35, hc36, h⟩ := h
  refine zr_calli (zrun_V (As := [.ref (B 12 x1), .int (3 : Int32), .int ((12 : Int32) + ((6 : Int32) * (r13 + r17))), .int r21, .int r30]) (rest := []) zq_2765 zq_2767 zs_X19_make zq_2768 zq_4 hdX19_make (by decide) (T := TX19) (N := 32) rfl (okX19_make l D cy B ids hst N x0 hx0 x1 hx1 (3 : Int32)  ((12 : Int32) + ((6 : Int32) * (r13 + r17)))  r21  r30  hr.2.2 hc36) F hr hx0 hl.1 rfl (by decide) dX19_tellAdvert_71 rfl rfl hroX19_tellAdvert_X19_make ⟨Nat.zero_le _, Nat.zero_le _⟩) F hA hr (fun H locs hw37 hr => ?_)
  clear hc36
  refine lv_istore (lv' := [(6, .int r34), (5, .int r9), (4, .ref (B 18 a5)), (0, .ref (B 19 x0)), (1, .ref (B 12 x1)), (2, .ref (B 15 x2)), (3, .int x3)]) F.1 F.2.1 dX19_tellAdvert_74 hl (by decide) rfl (fun ls hl => ?_)
  refine lv_aload_n F.1 F.2.1 dX19_tellAdvert_76 rfl (lv_at hl 3 rfl) ?_
  refine lv_iload F.1 F.2.1 dX19_tellAdvert_77 (lv_at hl 0 rfl) ?_
  refine lv_bipush (v := (12 : Int32)) F.1 F.2.1 dX19_tellAdvert_79 (by decide) ?_
  refine lv_aload_n F.1 F.2.1 dX19_tellAdvert_81 rfl (lv_at hl 4 rfl) ?_
  refine gf19_310 F hx1 hr dX19_tellAdvert_82 ?_
  replace h := zc_some h
  obtain ⟨r38, z39, hc40, h⟩ := h
  refine zr_callv (zrun_V (As := [.int r34, .int (12 : Int32), .int (zgI z35 12 0 x1)]) (rest := []) zq_2623 zq_2625 zs_X19_set zq_2626 zq_4 hdX19_set (by decide) (T := TX19) (N := 32) rfl (okX19_set l D cy B ids hst N x0 hx0 r34  (12 : Int32)  (zgI z35 12 0 x1)  hr.2.2 hc40) F hr hx0 hl.1 rfl (by decide) dX19_tellAdvert_85 rfl rfl hroX19_tellAdvert_X19_set ⟨Nat.zero_le _, Nat.zero_le _⟩) F hA hr (fun H locs hw41 hr => ?_)
  clear hc40
  refine lv_aload_n F.1 F.2.1 dX19_tellAdvert_88 rfl (lv_at hl 3 rfl) ?_
  refine lv_iload F.1 F.2.1 dX19_tellAdvert_89 (lv_at hl 0 rfl) ?_
  refine lv_bipush (v := (11 : Int32)) F.1 F.2.1 dX19_tellAdvert_91 (by decide) ?_
  refine lv_iload_n F.1 F.2.1 dX19_tellAdvert_93 rfl (lv_at hl 6 rfl) ?_
  replace h := zc_some h
  obtain ⟨r42, z43, hc44, h⟩ := h
  refine zr_callv (zrun_V (As := [.int r34, .int (11 : Int32), .int x3]) (rest := []) zq_2623 zq_2625 zs_X19_set zq_2626 zq_4 hdX19_set (by decide) (T := TX19) (N := 32) rfl (okX19_set l D cy B ids hst N x0 hx0 r34  (11 : Int32)  x3  hr.2.2 hc44) F hr hx0 hl.1 rfl (by decide) dX19_tellAdvert_94 rfl rfl hroX19_tellAdvert_X19_set ⟨Nat.zero_le _, Nat.zero_le _⟩) F hA hr (fun H locs hw45 hr => ?_)
  clear hc44
  refine lv_aload_n F.1 F.2.1 dX19_tellAdvert_97 rfl (lv_at hl 3 rfl) ?_
  refine gf19_25 F hx0 hr dX19_tellAdvert_98 ?_
  refine lv_iload_n F.1 F.2.1 dX19_tellAdvert_101 rfl (lv_at hl 6 rfl) ?_
  refine lv_dup2_11 F.1 F.2.1 dX19_tellAdvert_102 rfl rfl ?_
  replace h := zk_some h
  obtain ⟨c46, h⟩ := h
  refine zr_iald (k := 179) (by decide) rfl (by decide) F (zal_a F hx0 (j := 9) rfl) hr dX19_tellAdvert_103 c46 ?_
  refine lv_iconst (v := (1 : Int32)) F.1 F.2.1 dX19_tellAdvert_104 (by decide) ?_
  refine lv_iadd F.1 F.2.1 dX19_tellAdvert_105 ?_
  replace h := zk_some h
  obtain ⟨c47, h⟩ := h
  refine zr_iast (k := 179) (by decide) rfl (by decide) F (zal_a F hx0 (j := 9) rfl) hr dX19_tellAdvert_106 c47 (fun H locs z48 ez48 hr => ?_)
  replace h := zl_sub ez48 h
  clear ez48
  refine lv_aload_n F.1 F.2.1 dX19_tellAdvert_107 rfl (lv_at hl 3 rfl) ?_
  refine lv_aload F.1 F.2.1 dX19_tellAdvert_108 (lv_at hl 2 rfl) ?_
  refine lv_iload F.1 F.2.1 dX19_tellAdvert_110 (lv_at hl 1 rfl) ?_
  refine lv_iload F.1 F.2.1 dX19_tellAdvert_112 (lv_at hl 0 rfl) ?_
  replace h := zc_some h
  obtain ⟨r49, z50, hc51, h⟩ := h
  refine zr_callv (zrun_V (As := [.ref (B 18 a5), .int r9, .int r34]) (rest := []) zq_2785 zq_2787 zs_X19_deliver zq_2788 zq_4 hdX19_deliver (by decide) (T := TX19) (N := 32) rfl (okX19_deliver l D cy B ids hst N x0 hx0 a5 (hy2 _ rfl) r9  r34  hr.2.2 hc51) F hr hx0 hl.1 rfl (by decide) dX19_tellAdvert_114 rfl rfl hroX19_tellAdvert_X19_deliver ⟨Nat.zero_le _, Nat.zero_le _⟩) F hA hr (fun H locs hw52 hr => ?_)
  clear hc51
  refine lv_aload_n F.1 F.2.1 dX19_tellAdvert_117 rfl (lv_at hl 3 rfl) ?_
  refine lv_iload F.1 F.2.1 dX19_tellAdvert_118 (lv_at hl 0 rfl) ?_
  replace h := zc_some h
  obtain ⟨r53, z54, hc55, h⟩ := h
  refine zr_callv (zrun_V (As := [.int r34]) (rest := []) zq_2545 zq_2547 zs_X19_drop zq_2548 zq_4 hdX19_drop (by decide) (T := TX19) (N := 32) rfl (okX19_drop l D cy B ids hst N x0 hx0 r34  hr.2.2 hc55) F hr hx0 hl.1 rfl (by decide) dX19_tellAdvert_120 rfl rfl hroX19_tellAdvert_X19_drop ⟨Nat.zero_le _, Nat.zero_le _⟩) F hA hr (fun H locs hw56 hr => ?_)
  clear hc55
  obtain ⟨rfl, rfl⟩ := zret h
  exact E _ _ _ _ dX19_tellAdvert_123 trivial hr
end SX19_tellAdvert
set_option maxRecDepth 100000 in
theorem okX19_tellAdvert (l : Launch) (D : va_G) (cy : Nat → ClassId) (B : Nat → Nat → Nat) (ids : List (Nat × Nat)) (hst : zSt B ids) (N : Nat) (x0 : Nat) (hx0 : (19, x0) ∈ ids) (x1 : Nat) (hx1 : (12, x1) ∈ ids) (x2 : Nat) (hx2 : (15, x2) ∈ ids) (x3 : Int32) {z : St} {r : Int32} {z' : St} (hW : zWf ids z) (h : fX19_tellAdvert N x0 x1 x2 x3 z = some (r, z')) : zM l yX19_tellAdvert (zws yX19_tellAdvert cX19_tellAdvert 7 none) rmX19_tellAdvert D cy B ids [.ref (B 19 x0), .ref (B 12 x1), .ref (B 15 x2), .int x3] none True z z' :=
  zM_of hst hW (by decide +kernel) (Nat.le_of_ble_eq_true rfl) (fun p e s m args below meth c A ls F hA hret hlocks hr hl => bX19_tellAdvert_0 hst F hA (zEnd_v F hret hlocks) x0 x1 x2 x3 hx0 hx1 hx2 hr hl h)
abbrev rmX19_routerSpeaks : Room := { frames := 7, cells := 0, slots := 0, locals := 179 }
theorem hdX19_routerSpeaks : yX19_routerSpeaks.cls ≠ "java/lang/invoke/MethodHandle" ∧ yX19_routerSpeaks.cls ≠ "java/lang/invoke/VarHandle" ∧ (parseMethodDescriptor yX19_routerSpeaks.desc).map (fun d => d.parameters.length) = some 1 := by decide +kernel
theorem hroX19_routerSpeaks_X18_address : rmX18_address.frames + 1 ≤ rmX19_routerSpeaks.frames ∧ 8 + (1 + 11) + rmX18_address.locals ≤ rmX19_routerSpeaks.locals := by decide
theorem hroX19_routerSpeaks_X19_deliver : rmX19_deliver.frames + 1 ≤ rmX19_routerSpeaks.frames ∧ 8 + (6 + 11) + rmX19_deliver.locals ≤ rmX19_routerSpeaks.locals := by decide
theorem hroX19_routerSpeaks_X19_drop : rmX19_drop.frames + 1 ≤ rmX19_routerSpeaks.frames ∧ 8 + (2 + 11) + rmX19_drop.locals ≤ rmX19_routerSpeaks.locals := by decide
theorem hroX19_routerSpeaks_X19_greet : rmX19_greet.frames + 1 ≤ rmX19_routerSpeaks.frames ∧ 8 + (7 + 11) + rmX19_greet.locals ≤ rmX19_routerSpeaks.locals := by decide
theorem hroX19_routerSpeaks_X19_make : rmX19_make.frames + 1 ≤ rmX19_routerSpeaks.frames ∧ 8 + (7 + 11) + rmX19_make.locals ≤ rmX19_routerSpeaks.locals := by decide
theorem hroX19_routerSpeaks_X19_set : rmX19_set.frames + 1 ≤ rmX19_routerSpeaks.frames ∧ 8 + (4 + 11) + rmX19_set.locals ≤ rmX19_routerSpeaks.locals := by decide
theorem hroX19_routerSpeaks_X19_tellAdvert : rmX19_tellAdvert.frames + 1 ≤ rmX19_routerSpeaks.frames ∧ 8 + (7 + 11) + rmX19_tellAdvert.locals ≤ rmX19_routerSpeaks.locals := by decide
section SX19_routerSpeaks
variable {p : Program} {l : Launch} {e : Env} {s : State} {m : MethodId} {args : Array Value} {below : List Frame} {meth : Method} {c : Code} {Q : State → Prop} {D : va_G} {cy : Nat → ClassId} {B : Nat → Nat → Nat} {ids : List (Nat × Nat)} {A : Nat → Prop}
def fX19_routerSpeaks_38 (N : Nat) (K2 : Nat → Nat → Int32 → St → Option (Int32 × St)) (x0 : Nat) (x1 : Nat) (x2 : Int32) (z : St) : Option (Int32 × St) := zl (x2 + 1) fun v1 => K2 x0 x1 v1 z
set_option maxHeartbeats 4000000 in
set_option maxRecDepth 100000 in
theorem bX19_routerSpeaks_38 (hst : zSt B ids) (F : zFx p m c cX19_routerSpeaks 6 s args RX19 D cy B ids A) (hA : ∀ q : Nat, s.heap.size ≤ q → A q) {r : Int32} {z' : St} (E : zEnd p l e rmX19_routerSpeaks s m args below meth c cX19_routerSpeaks D cy B ids A Q none z' .return_ True) {N : Nat} {K2 : Nat → Nat → Int32 → St → Option (Int32 × St)} (hK2 : ∀ (x0 : Nat) (x1 : Nat) (x2 : Int32) (hx0 : (19, x0) ∈ ids) (hx1 : (12, x1) ∈ ids) {z : St} {H : Heap} {locs : List Loc} {ls : Array Slot} (hr : zRep D cy B ids A s.heap z H locs) (hl : lv_has ls 6 [(0, .ref (B 19 x0)), (1, .ref (B 12 x1)), (2, .int x2)]), K2 x0 x1 x2 z = some (r, z') → W p l e rmX19_routerSpeaks s m args below meth c H locs 0 0 Q (F0 m 2 ls [])) (x0 : Nat) (x1 : Nat) (x2 : Int32) (hx0 : (19, x0) ∈ ids) (hx1 : (12, x1) ∈ ids) {z : St} {H : Heap} {locs : List Loc} {ls : Array Slot} (hr : zRep D cy B ids A s.heap z H locs) (hl : lv_has ls 6 [(0, .ref (B 19 x0)), (1, .ref (B 12 x1)), (2, .int x2)]) (h : fX19_routerSpeaks_38 N K2 x0 x1 x2 z = some (r, z')) : W p l e rmX19_routerSpeaks s m args below meth c H locs 0 0 Q (F0 m 38 ls []) := by
  unfold fX19_routerSpeaks_38 at h
  obtain ⟨v1, ev1⟩ : ∃ y : Int32, y = (x2 + 1) := ⟨_, rfl⟩
  replace h := zl_sub ev1 h
  refine lv_iinc (v := v1) (lv' := [(2, .int v1), (0, .ref (B 19 x0)), (1, .ref (B 12 x1))]) F.1 F.2.1 dX19_routerSpeaks_38 hl (k := 2) rfl (by rw [ev1]; rfl) (by decide) rfl (fun ls hl => ?_)
  refine lv_goto (tgt := 2) F.1 F.2.1 dX19_routerSpeaks_41 (by decide) ?_
  exact hK2 x0 x1 v1 hx0 hx1 hr (lv_sub hl [1, 2, 0] rfl) h
def fX19_routerSpeaks_255 (N : Nat) (K155 : Nat → Nat → Int32 → St → Option (Int32 × St)) (K174 : Nat → Nat → Int32 → Option Nat → Int32 → St → Option (Int32 × St)) (x0 : Nat) (x1 : Nat) (x3 : Int32) (x4 : Nat) (x5 : Int32) (z : St) : Option (Int32 × St) := zl (x5 + 1) fun v1 => K174 x0 x1 x3 (some x4) v1 z
set_option maxHeartbeats 4000000 in
set_option maxRecDepth 100000 in
theorem bX19_routerSpeaks_255 (hst : zSt B ids) (F : zFx p m c cX19_routerSpeaks 6 s args RX19 D cy B ids A) (hA : ∀ q : Nat, s.heap.size ≤ q → A q) {r : Int32} {z' : St} (E : zEnd p l e rmX19_routerSpeaks s m args below meth c cX19_routerSpeaks D cy B ids A Q none z' .return_ True) {N : Nat} {K155 : Nat → Nat → Int32 → St → Option (Int32 × St)} {K174 : Nat → Nat → Int32 → Option Nat → Int32 → St → Option (Int32 × St)} (hK155 : ∀ (x0 : Nat) (x1 : Nat) (x3 : Int32) (hx0 : (19, x0) ∈ ids) (hx1 : (12, x1) ∈ ids) {z : St} {H : Heap} {locs : List Loc} {ls : Array Slot} (hr : zRep D cy B ids A s.heap z H locs) (hl : lv_has ls 6 [(0, .ref (B 19 x0)), (1, .ref (B 12 x1)), (3, .int x3)]), K155 x0 x1 x3 z = some (r, z') → W p l e rmX19_routerSpeaks s m args below meth c H locs 0 0 Q (F0 m 155 ls [])) (hK174 : ∀ (x0 : Nat) (x1 : Nat) (x3 : Int32) (x4 : Option Nat) (x5 : Int32) (hx0 : (19, x0) ∈ ids) (hx1 : (12, x1) ∈ ids) (hx4 : ∀ t, x4 = some t → (15, t) ∈ ids) {z : St} {H : Heap} {locs : List Loc} {ls : Array Slot} (hr : zRep D cy B ids A s.heap z H locs) (hl : lv_has ls 6 [(0, .ref (B 19 x0)), (1, .ref (B 12 x1)), (3, .int x3), (4, va_rf (Option.map (B 15) x4)), (5, .int x5)]), K174 x0 x1 x3 x4 x5 z = some (r, z') → W p l e rmX19_routerSpeaks s m args below meth c H locs 0 0 Q (F0 m 174 ls [])) (x0 : Nat) (x1 : Nat) (x3 : Int32) (x4 : Nat) (x5 : Int32) (hx0 : (19, x0) ∈ ids) (hx1 : (12, x1) ∈ ids) (hx4 : (15, x4) ∈ ids) {z : St} {H : Heap} {locs : List Loc} {ls : Array Slot} (hr : zRep D cy B ids A s.heap z H locs) (hl : lv_has ls 6 [(0, .ref (B 19 x0)), (1, .ref (B 12 x1)), (3, .int x3), (4, .ref (B 15 x4)), (5, .int x5)]) (h : fX19_routerSpeaks_255 N K155 K174 x0 x1 x3 x4 x5 z = some (r, z')) : W p l e rmX19_routerSpeaks s m args below meth c H locs 0 0 Q (F0 m 255 ls []) := by
  unfold fX19_routerSpeaks_255 at h
  obtain ⟨v1, ev1⟩ : ∃ y : Int32, y = (x5 + 1) := ⟨_, rfl⟩
  replace h := zl_sub ev1 h
  refine lv_iinc (v := v1) (lv' := [(5, .int v1), (0, .ref (B 19 x0)), (1, .ref (B 12 x1)), (3, .int x3), (4, .ref (B 15 x4))]) F.1 F.2.1 dX19_routerSpeaks_255 hl (k := 4) rfl (by rw [ev1]; rfl) (by decide) rfl (fun ls hl => ?_)
  refine lv_goto (tgt := 174) F.1 F.2.1 dX19_routerSpeaks_258 (by decide) ?_
  exact hK174 x0 x1 x3 (some x4) v1 hx0 hx1 (zal_s hx4) hr (lv_sub hl [1, 2, 3, 4, 0] rfl) h
def fX19_routerSpeaks_261 (N : Nat) (K155 : Nat → Nat → Int32 → St → Option (Int32 × St)) (x0 : Nat) (x1 : Nat) (x3 : Int32) (z : St) : Option (Int32 × St) := zl (x3 + 1) fun v1 => K155 x0 x1 v1 z
set_option maxHeartbeats 4000000 in
set_option maxRecDepth 100000 in
theorem bX19_routerSpeaks_261 (hst : zSt B ids) (F : zFx p m c cX19_routerSpeaks 6 s args RX19 D cy B ids A) (hA : ∀ q : Nat, s.heap.size ≤ q → A q) {r : Int32} {z' : St} (E : zEnd p l e rmX19_routerSpeaks s m args below meth c cX19_routerSpeaks D cy B ids A Q none z' .return_ True) {N : Nat} {K155 : Nat → Nat → Int32 → St → Option (Int32 × St)} (hK155 : ∀ (x0 : Nat) (x1 : Nat) (x3 : Int32) (hx0 : (19, x0) ∈ ids) (hx1 : (12, x1) ∈ ids) {z : St} {H : Heap} {locs : List Loc} {ls : Array Slot} (hr : zRep D cy B ids A s.heap z H locs) (hl : lv_has ls 6 [(0, .ref (B 19 x0)), (1, .ref (B 12 x1)), (3, .int x3)]), K155 x0 x1 x3 z = some (r, z') → W p l e rmX19_routerSpeaks s m args below meth c H locs 0 0 Q (F0 m 155 ls [])) (x0 : Nat) (x1 : Nat) (x3 : Int32) (hx0 : (19, x0) ∈ ids) (hx1 : (12, x1) ∈ ids) {z : St} {H : Heap} {locs : List Loc} {ls : Array Slot} (hr : zRep D cy B ids A s.heap z H locs) (hl : lv_has ls 6 [(0, .ref (B 19 x0)), (1, .ref (B 12 x1)), (3, .int x3)]) (h : fX19_routerSpeaks_261 N K155 x0 x1 x3 z = some (r, z')) : W p l e rmX19_routerSpeaks s m args below meth c H locs 0 0 Q (F0 m 261 ls []) := by
  unfold fX19_routerSpeaks_261 at h
  obtain ⟨v1, ev1⟩ : ∃ y : Int32, y = (x3 + 1) := ⟨_, rfl⟩
  replace h := zl_sub ev1 h
  refine lv_iinc (v := v1) (lv' := [(3, .int v1), (0, .ref (B 19 x0)), (1, .ref (B 12 x1))]) F.1 F.2.1 dX19_routerSpeaks_261 hl (k := 2) rfl (by rw [ev1]; rfl) (by decide) rfl (fun ls hl => ?_)
  refine lv_goto (tgt := 155) F.1 F.2.1 dX19_routerSpeaks_264 (by decide) ?_
  exact hK155 x0 x1 v1 hx0 hx1 hr (lv_sub hl [1, 2, 0] rfl) h
def fX19_routerSpeaks_174b (N : Nat) (K155 : Nat → Nat → Int32 → St → Option (Int32 × St)) (K174 : Nat → Nat → Int32 → Option Nat → Int32 → St → Option (Int32 × St)) (x0 : Nat) (x1 : Nat) (x3 : Int32) (x4 : Option Nat) (x5 : Int32) (z : St) : Option (Int32 × St) := zd x4 fun a1 => if (zgI z 15 3 a1) = 0 then (fX19_routerSpeaks_261 N K155 x0 x1 x3 z) else (if (16 : Int32) ≤ x5 then (fX19_routerSpeaks_261 N K155 x0 x1 x3 z) else (zk x5 16 <| if (zgA z 162 a1 (Int32.toNatClampNeg x5)) = 0 then (fX19_routerSpeaks_255 N K155 K174 x0 x1 x3 a1 x5 z) else (zk x5 16 <| if (zgA z 150 x1 (Int32.toNatClampNeg x5)) = (-1 : Int32) then (fX19_routerSpeaks_255 N K155 K174 x0 x1 x3 a1 x5 z) else (zk x5 16 <| if (zgI z 19 24 x0) < (zgA z 163 a1 (Int32.toNatClampNeg x5)) then (fX19_routerSpeaks_255 N K155 K174 x0 x1 x3 a1 x5 z) else (zk x5 16 <| zl (zsA z 163 a1 (Int32.toNatClampNeg x5) ((zgI z 19 24 x0) + (15 : Int32))) fun z11 => zk x5 16 <| zc (fX19_tellAdvert N x0 x1 a1 (zgA z11 150 x1 (Int32.toNatClampNeg x5)) z11) fun _ z14 => fX19_routerSpeaks_255 N K155 K174 x0 x1 x3 a1 x5 z14)))))
def fX19_routerSpeaks_174 (N : Nat) (K155 : Nat → Nat → Int32 → St → Option (Int32 × St)) : Nat → Nat → Nat → Int32 → Option Nat → Int32 → St → Option (Int32 × St)
  | 0 => fun _ _ _ _ _ _ => none
  | n + 1 => fX19_routerSpeaks_174b N K155 (fX19_routerSpeaks_174 N K155 n)
set_option maxHeartbeats 4000000 in
set_option maxRecDepth 100000 in
theorem bX19_routerSpeaks_174 (hst : zSt B ids) (F : zFx p m c cX19_routerSpeaks 6 s args RX19 D cy B ids A) (hA : ∀ q : Nat, s.heap.size ≤ q → A q) {r : Int32} {z' : St} (E : zEnd p l e rmX19_routerSpeaks s m args below meth c cX19_routerSpeaks D cy B ids A Q none z' .return_ True) {N : Nat} {K155 : Nat → Nat → Int32 → St → Option (Int32 × St)} {K174 : Nat → Nat → Int32 → Option Nat → Int32 → St → Option (Int32 × St)} (hK155 : ∀ (x0 : Nat) (x1 : Nat) (x3 : Int32) (hx0 : (19, x0) ∈ ids) (hx1 : (12, x1) ∈ ids) {z : St} {H : Heap} {locs : List Loc} {ls : Array Slot} (hr : zRep D cy B ids A s.heap z H locs) (hl : lv_has ls 6 [(0, .ref (B 19 x0)), (1, .ref (B 12 x1)), (3, .int x3)]), K155 x0 x1 x3 z = some (r, z') → W p l e rmX19_routerSpeaks s m args below meth c H locs 0 0 Q (F0 m 155 ls [])) (hK174 : ∀ (x0 : Nat) (x1 : Nat) (x3 : Int32) (x4 : Option Nat) (x5 : Int32) (hx0 : (19, x0) ∈ ids) (hx1 : (12, x1) ∈ ids) (hx4 : ∀ t, x4 = some t → (15, t) ∈ ids) {z : St} {H : Heap} {locs : List Loc} {ls : Array Slot} (hr : zRep D cy B ids A s.heap z H locs) (hl : lv_has ls 6 [(0, .ref (B 19 x0)), (1, .ref (B 12 x1)), (3, .int x3), (4, va_rf (Option.map (B 15) x4)), (5, .int x5)]), K174 x0 x1 x3 x4 x5 z = some (r, z') → W p l e rmX19_routerSpeaks s m args below meth c H locs 0 0 Q (F0 m 174 ls [])) (x0 : Nat) (x1 : Nat) (x3 : Int32) (x4 : Option Nat) (x5 : Int32) (hx0 : (19, x0) ∈ ids) (hx1 : (12, x1) ∈ ids) (hx4 : ∀ t, x4 = some t → (15, t) ∈ ids) {z : St} {H : Heap} {locs : List Loc} {ls : Array Slot} (hr : zRep D cy B ids A s.heap z H locs) (hl : lv_has ls 6 [(0, .ref (B 19 x0)), (1, .ref (B 12 x1)), (3, .int x3), (4, va_rf (Option.map (B 15) x4)), (5, .int x5)]) (h : fX19_routerSpeaks_174b N K155 K174 x0 x1 x3 x4 x5 z = some (r, z')) : W p l e rmX19_routerSpeaks s m args below meth c H locs 0 0 Q (F0 m 174 ls []) := by
  unfold fX19_routerSpeaks_174b at h
  refine zr_aload F.1 F.2.1 dX19_routerSpeaks_174 (lv_at hl 3 rfl) ?_
  replace h := zd_some h
  obtain ⟨a1, rfl, h⟩ := h
  refine gf19_473 F (hx4 _ rfl) hr dX19_routerSpeaks_176 ?_
  refine lv_if_eq (tgt := 261) F.1 F.2.1 dX19_routerSpeaks_179 (by decide) (fun c2 => ?_) (fun c2 => ?_)
  · replace h := zi_t c2 h
    exact bX19_routerSpeaks_261 hst F hA E hK155 x0 x1 x3 hx0 hx1 hr (lv_sub hl [0, 1, 2] rfl) h
  · replace h := zi_f c2 h
    refine lv_iload F.1 F.2.1 dX19_routerSpeaks_182 (lv_at hl 4 rfl) ?_
    refine lv_bipush (v := (16 : Int32)) F.1 F.2.1 dX19_routerSpeaks_184 (by decide) ?_
    refine lv_icmp_ge (tgt := 261) F.1 F.2.1 dX19_routerSpeaks_186 (by decide) (fun c3 => ?_) (fun c3 => ?_)
    · replace h := zi_t c3 h
      exact bX19_routerSpeaks_261 hst F hA E hK155 x0 x1 x3 hx0 hx1 hr (lv_sub hl [0, 1, 2] rfl) h
    · replace h := zi_f c3 h
      refine lv_aload F.1 F.2.1 dX19_routerSpeaks_189 (lv_at hl 3 rfl) ?_
      refine gf19_452 F (hx4 _ rfl) hr dX19_routerSpeaks_191 ?_
      refine lv_iload F.1 F.2.1 dX19_routerSpeaks_194 (lv_at hl 4 rfl) ?_
      replace h := zk_some h
      obtain ⟨c4, h⟩ := h
      refine zr_zald (k := 162) (by decide) rfl (by decide) F (zal_a F (hx4 _ rfl) (j := 4) rfl) hr dX19_routerSpeaks_196 c4 ?_
      refine lv_if_eq (tgt := 255) F.1 F.2.1 dX19_routerSpeaks_197 (by decide) (fun c5 => ?_) (fun c5 => ?_)
      · replace h := zi_t c5 h
        exact bX19_routerSpeaks_255 hst F hA E hK155 hK174 x0 x1 x3 a1 x5 hx0 hx1 (hx4 _ rfl) hr (lv_sub hl [0, 1, 2, 3, 4] rfl) h
      · replace h := zi_f c5 h
        refine lv_aload_n F.1 F.2.1 dX19_routerSpeaks_200 rfl (lv_at hl 1 rfl) ?_
        refine gf19_448 F hx1 hr dX19_routerSpeaks_201 ?_
        refine lv_iload F.1 F.2.1 dX19_routerSpeaks_204 (lv_at hl 4 rfl) ?_
        replace h := zk_some h
        obtain ⟨c6, h⟩ := h
        refine zr_iald (k := 150) (by decide) rfl (by decide) F (zal_a F hx1 (j := 14) rfl) hr dX19_routerSpeaks_206 c6 ?_
        refine lv_iconst (v := (-1 : Int32)) F.1 F.2.1 dX19_routerSpeaks_207 (by decide) ?_
        refine lv_icmp_eq (tgt := 255) F.1 F.2.1 dX19_routerSpeaks_208 (by decide) (fun c7 => ?_) (fun c7 => ?_)
        · replace h := zi_t c7 h
          exact bX19_routerSpeaks_255 hst F hA E hK155 hK174 x0 x1 x3 a1 x5 hx0 hx1 (hx4 _ rfl) hr (lv_sub hl [0, 1, 2, 3, 4] rfl) h
        · replace h := zi_f c7 h
          refine lv_aload_n F.1 F.2.1 dX19_routerSpeaks_211 rfl (lv_at hl 0 rfl) ?_
          refine gf19_143 F hx0 hr dX19_routerSpeaks_212 ?_
          refine lv_aload F.1 F.2.1 dX19_routerSpeaks_215 (lv_at hl 3 rfl) ?_
          refine gf19_476 F (hx4 _ rfl) hr dX19_routerSpeaks_217 ?_
          refine lv_iload F.1 F.2.1 dX19_routerSpeaks_220 (lv_at hl 4 rfl) ?_
          replace h := zk_some h
          obtain ⟨c8, h⟩ := h
          refine zr_iald (k := 163) (by decide) rfl (by decide) F (zal_a F (hx4 _ rfl) (j := 5) rfl) hr dX19_routerSpeaks_222 c8 ?_
          refine lv_icmp_lt (tgt := 255) F.1 F.2.1 dX19_routerSpeaks_223 (by decide) (fun c9 => ?_) (fun c9 => ?_)
          · replace h := zi_t c9 h
            exact bX19_routerSpeaks_255 hst F hA E hK155 hK174 x0 x1 x3 a1 x5 hx0 hx1 (hx4 _ rfl) hr (lv_sub hl [0, 1, 2, 3, 4] rfl) h
          · replace h := zi_f c9 h
            refine lv_aload F.1 F.2.1 dX19_routerSpeaks_226 (lv_at hl 3 rfl) ?_
            refine gf19_476 F (hx4 _ rfl) hr dX19_routerSpeaks_228 ?_
            refine lv_iload F.1 F.2.1 dX19_routerSpeaks_231 (lv_at hl 4 rfl) ?_
            refine lv_aload_n F.1 F.2.1 dX19_routerSpeaks_233 rfl (lv_at hl 0 rfl) ?_
            refine gf19_143 F hx0 hr dX19_routerSpeaks_234 ?_
            refine lv_bipush (v := (15 : Int32)) F.1 F.2.1 dX19_routerSpeaks_237 (by decide) ?_
            refine lv_iadd F.1 F.2.1 dX19_routerSpeaks_239 ?_
            replace h := zk_some h
            obtain ⟨c10, h⟩ := h
            refine zr_iast (k := 163) (by decide) rfl (by decide) F (zal_a F (hx4 _ rfl) (j := 5) rfl) hr dX19_routerSpeaks_240 c10 (fun H locs z11 ez11 hr => ?_)
            replace h := zl_sub ez11 h
            clear ez11
            refine lv_aload_n F.1 F.2.1 dX19_routerSpeaks_241 rfl (lv_at hl 0 rfl) ?_
            refine lv_aload_n F.1 F.2.1 dX19_routerSpeaks_242 rfl (lv_at hl 1 rfl) ?_
            refine lv_aload F.1 F.2.1 dX19_routerSpeaks_243 (lv_at hl 3 rfl) ?_
            refine lv_aload_n F.1 F.2.1 dX19_routerSpeaks_245 rfl (lv_at hl 1 rfl) ?_
            refine gf19_448 F hx1 hr dX19_routerSpeaks_246 ?_
            refine lv_iload F.1 F.2.1 dX19_routerSpeaks_249 (lv_at hl 4 rfl) ?_
            replace h := zk_some h
            obtain ⟨c12, h⟩ := h
            refine zr_iald (k := 150) (by decide) rfl (by decide) F (zal_a F hx1 (j := 14) rfl) hr dX19_routerSpeaks_251 c12 ?_
            replace h := zc_some h
            obtain ⟨r13, z14, hc15, h⟩ := h
            refine zr_callv (zrun_V (As := [.ref (B 12 x1), .ref (B 15 a1), .int (zgA z11 150 x1 (Int32.toNatClampNeg x5))]) (rest := []) zq_2891 zq_2893 zs_X19_tellAdvert zq_2894 zq_4 hdX19_tellAdvert (by decide) (T := TX19) (N := 32) rfl (okX19_tellAdvert l D cy B ids hst N x0 hx0 x1 hx1 a1 (hx4 _ rfl) (zgA z11 150 x1 (Int32.toNatClampNeg x5))  hr.2.2 hc15) F hr hx0 hl.1 rfl (by decide) dX19_routerSpeaks_252 rfl rfl hroX19_routerSpeaks_X19_tellAdvert ⟨Nat.zero_le _, Nat.zero_le _⟩) F hA hr (fun H locs hw16 hr => ?_)
            clear hc15
            exact bX19_routerSpeaks_255 hst F hA E hK155 hK174 x0 x1 x3 a1 x5 hx0 hx1 (hx4 _ rfl) hr (lv_sub hl [0, 1, 2, 3, 4] rfl) h
theorem lX19_routerSpeaks_174 (hst : zSt B ids) (F : zFx p m c cX19_routerSpeaks 6 s args RX19 D cy B ids A) (hA : ∀ q : Nat, s.heap.size ≤ q → A q) {r : Int32} {z' : St} (E : zEnd p l e rmX19_routerSpeaks s m args below meth c cX19_routerSpeaks D cy B ids A Q none z' .return_ True) {N : Nat} {K155 : Nat → Nat → Int32 → St → Option (Int32 × St)} (hK155 : ∀ (x0 : Nat) (x1 : Nat) (x3 : Int32) (hx0 : (19, x0) ∈ ids) (hx1 : (12, x1) ∈ ids) {z : St} {H : Heap} {locs : List Loc} {ls : Array Slot} (hr : zRep D cy B ids A s.heap z H locs) (hl : lv_has ls 6 [(0, .ref (B 19 x0)), (1, .ref (B 12 x1)), (3, .int x3)]), K155 x0 x1 x3 z = some (r, z') → W p l e rmX19_routerSpeaks s m args below meth c H locs 0 0 Q (F0 m 155 ls [])) : ∀ (n : Nat) (x0 : Nat) (x1 : Nat) (x3 : Int32) (x4 : Option Nat) (x5 : Int32) (hx0 : (19, x0) ∈ ids) (hx1 : (12, x1) ∈ ids) (hx4 : ∀ t, x4 = some t → (15, t) ∈ ids) {z : St} {H : Heap} {locs : List Loc} {ls : Array Slot} (hr : zRep D cy B ids A s.heap z H locs) (hl : lv_has ls 6 [(0, .ref (B 19 x0)), (1, .ref (B 12 x1)), (3, .int x3), (4, va_rf (Option.map (B 15) x4)), (5, .int x5)]), fX19_routerSpeaks_174 N K155 n x0 x1 x3 x4 x5 z = some (r, z') → W p l e rmX19_routerSpeaks s m args below meth c H locs 0 0 Q (F0 m 174 ls []) := by
  intro n
  induction n with
  | zero => intro x0 x1 x3 x4 x5 hx0 hx1 hx4 z H locs ls hr hl h; cases h
  | succ n ih => intro x0 x1 x3 x4 x5 hx0 hx1 hx4 z H locs ls hr hl h; exact bX19_routerSpeaks_174 hst F hA E hK155 ih x0 x1 x3 x4 x5 hx0 hx1 hx4 hr hl h
def fX19_routerSpeaks_155b (N : Nat) (K155 : Nat → Nat → Int32 → St → Option (Int32 × St)) (x0 : Nat) (x1 : Nat) (x3 : Int32) (z : St) : Option (Int32 × St) := if (zgI z 12 13 x1) ≤ x3 then (some (0, z)) else (zk x3 16 <| zl (zgQ z 149 x1 (Int32.toNatClampNeg x3)) fun y3 => fX19_routerSpeaks_174 N K155 N x0 x1 x3 y3 (0 : Int32) z)
def fX19_routerSpeaks_155 (N : Nat)  : Nat → Nat → Nat → Int32 → St → Option (Int32 × St)
  | 0 => fun _ _ _ _ => none
  | n + 1 => fX19_routerSpeaks_155b N (fX19_routerSpeaks_155 N  n)
set_option maxHeartbeats 4000000 in
set_option maxRecDepth 100000 in
theorem bX19_routerSpeaks_155 (hst : zSt B ids) (F : zFx p m c cX19_routerSpeaks 6 s args RX19 D cy B ids A) (hA : ∀ q : Nat, s.heap.size ≤ q → A q) {r : Int32} {z' : St} (E : zEnd p l e rmX19_routerSpeaks s m args below meth c cX19_routerSpeaks D cy B ids A Q none z' .return_ True) {N : Nat} {K155 : Nat → Nat → Int32 → St → Option (Int32 × St)} (hK155 : ∀ (x0 : Nat) (x1 : Nat) (x3 : Int32) (hx0 : (19, x0) ∈ ids) (hx1 : (12, x1) ∈ ids) {z : St} {H : Heap} {locs : List Loc} {ls : Array Slot} (hr : zRep D cy B ids A s.heap z H locs) (hl : lv_has ls 6 [(0, .ref (B 19 x0)), (1, .ref (B 12 x1)), (3, .int x3)]), K155 x0 x1 x3 z = some (r, z') → W p l e rmX19_routerSpeaks s m args below meth c H locs 0 0 Q (F0 m 155 ls [])) (x0 : Nat) (x1 : Nat) (x3 : Int32) (hx0 : (19, x0) ∈ ids) (hx1 : (12, x1) ∈ ids) {z : St} {H : Heap} {locs : List Loc} {ls : Array Slot} (hr : zRep D cy B ids A s.heap z H locs) (hl : lv_has ls 6 [(0, .ref (B 19 x0)), (1, .ref (B 12 x1)), (3, .int x3)]) (h : fX19_routerSpeaks_155b N K155 x0 x1 x3 z = some (r, z')) : W p l e rmX19_routerSpeaks s m args below meth c H locs 0 0 Q (F0 m 155 ls []) := by
  unfold fX19_routerSpeaks_155b at h
  refine lv_iload_n F.1 F.2.1 dX19_routerSpeaks_155 rfl (lv_at hl 2 rfl) ?_
  refine lv_aload_n F.1 F.2.1 dX19_routerSpeaks_156 rfl (lv_at hl 1 rfl) ?_
  refine gf19_457 F hx1 hr dX19_routerSpeaks_157 ?_
  refine lv_icmp_ge (tgt := 267) F.1 F.2.1 dX19_routerSpeaks_160 (by decide) (fun c1 => ?_) (fun c1 => ?_)
  · replace h := zi_t c1 h
    obtain ⟨rfl, rfl⟩ := zret h
    exact E _ _ _ _ dX19_routerSpeaks_267 trivial hr
  · replace h := zi_f c1 h
    refine lv_aload_n F.1 F.2.1 dX19_routerSpeaks_163 rfl (lv_at hl 1 rfl) ?_
    refine gf19_460 F hx1 hr dX19_routerSpeaks_164 ?_
    refine lv_iload_n F.1 F.2.1 dX19_routerSpeaks_167 rfl (lv_at hl 2 rfl) ?_
    replace h := zk_some h
    obtain ⟨c2, h⟩ := h
    refine zr_aaldv (k := 149) (by decide) rfl rfl (zlen_d (by decide)) F (zal_a F hx1 (j := 12) rfl) hr dX19_routerSpeaks_168 c2 (fun y3 ey3 => ?_)
    replace h := zl_sub ey3 h
    have hy3 := zal_q hr (zal_a F hx1 (j := 12) rfl) rfl ey3
    clear ey3
    refine zr_astore (lv' := [(4, va_rf (Option.map (B 15) y3)), (0, .ref (B 19 x0)), (1, .ref (B 12 x1)), (3, .int x3)]) F.1 F.2.1 dX19_routerSpeaks_169 hl (by decide) rfl (fun ls hl => ?_)
    refine lv_iconst (v := (0 : Int32)) F.1 F.2.1 dX19_routerSpeaks_171 (by decide) ?_
    refine lv_istore (lv' := [(5, .int (0 : Int32)), (4, va_rf (Option.map (B 15) y3)), (0, .ref (B 19 x0)), (1, .ref (B 12 x1)), (3, .int x3)]) F.1 F.2.1 dX19_routerSpeaks_172 hl (by decide) (by simp only [List.filter, zrf_cat]; rfl) (fun ls hl => ?_)
    exact lX19_routerSpeaks_174 hst F hA E hK155 _ x0 x1 x3 y3 (0 : Int32) hx0 hx1 hy3 hr (lv_sub hl [2, 3, 4, 1, 0] rfl) h
theorem lX19_routerSpeaks_155 (hst : zSt B ids) (F : zFx p m c cX19_routerSpeaks 6 s args RX19 D cy B ids A) (hA : ∀ q : Nat, s.heap.size ≤ q → A q) {r : Int32} {z' : St} (E : zEnd p l e rmX19_routerSpeaks s m args below meth c cX19_routerSpeaks D cy B ids A Q none z' .return_ True) {N : Nat}  : ∀ (n : Nat) (x0 : Nat) (x1 : Nat) (x3 : Int32) (hx0 : (19, x0) ∈ ids) (hx1 : (12, x1) ∈ ids) {z : St} {H : Heap} {locs : List Loc} {ls : Array Slot} (hr : zRep D cy B ids A s.heap z H locs) (hl : lv_has ls 6 [(0, .ref (B 19 x0)), (1, .ref (B 12 x1)), (3, .int x3)]), fX19_routerSpeaks_155 N  n x0 x1 x3 z = some (r, z') → W p l e rmX19_routerSpeaks s m args below meth c H locs 0 0 Q (F0 m 155 ls []) := by
  intro n
  induction n with
  | zero => intro x0 x1 x3 hx0 hx1 z H locs ls hr hl h; cases h
  | succ n ih => intro x0 x1 x3 hx0 hx1 z H locs ls hr hl h; exact bX19_routerSpeaks_155 hst F hA E ih x0 x1 x3 hx0 hx1 hr hl h
def fX19_routerSpeaks_51b (N : Nat) (K51 : Nat → Nat → Int32 → Int32 → St → Option (Int32 × St)) (x0 : Nat) (x1 : Nat) (x2 : Int32) (x3 : Int32) (z : St) : Option (Int32 × St) := if x2 ≤ x3 then (zl (zsI z 12 22 x1 (0 : Int32)) fun z2 => fX19_routerSpeaks_155 N N x0 x1 (0 : Int32) z2) else (zk x3 64 <| zk (zgA z 152 x1 (Int32.toNatClampNeg x3)) 6 <| zl (zgQ z 147 x1 (Int32.toNatClampNeg (zgA z 152 x1 (Int32.toNatClampNeg x3)))) fun y5 => zd y5 fun a6 => zc (fX18_address N a6 z) fun r7 z8 => zk x3 64 <| zc (fX19_make N x0 x1 (4 : Int32) (8 : Int32) r7 (zgA z8 153 x1 (Int32.toNatClampNeg x3)) z8) fun r12 z13 => zc (fX19_set N x0 r12 (12 : Int32) (zgI z13 12 0 x1) z13) fun _ z17 => zk x3 64 <| zc (fX19_set N x0 r12 (13 : Int32) (zgA z17 154 x1 (Int32.toNatClampNeg x3)) z17) fun _ z22 => zk x3 64 <| zc (fX19_deliver N x0 a6 (((zgA z22 153 x1 (Int32.toNatClampNeg x3)) &&& (65535 : Int32)) - (1 : Int32)) r12 z22) fun _ z27 => zc (fX19_drop N x0 r12 z27) fun _ z31 => zl (x3 + 1) fun v34 => K51 x0 x1 x2 v34 z31)
def fX19_routerSpeaks_51 (N : Nat)  : Nat → Nat → Nat → Int32 → Int32 → St → Option (Int32 × St)
  | 0 => fun _ _ _ _ _ => none
  | n + 1 => fX19_routerSpeaks_51b N (fX19_routerSpeaks_51 N  n)
set_option maxHeartbeats 4000000 in
set_option maxRecDepth 100000 in
theorem bX19_routerSpeaks_51 (hst : zSt B ids) (F : zFx p m c cX19_routerSpeaks 6 s args RX19 D cy B ids A) (hA : ∀ q : Nat, s.heap.size ≤ q → A q) {r : Int32} {z' : St} (E : zEnd p l e rmX19_routerSpeaks s m args below meth c cX19_routerSpeaks D cy B ids A Q none z' .return_ True) {N : Nat} {K51 : Nat → Nat → Int32 → Int32 → St → Option (Int32 × St)} (hK51 : ∀ (x0 : Nat) (x1 : Nat) (x2 : Int32) (x3 : Int32) (hx0 : (19, x0) ∈ ids) (hx1 : (12, x1) ∈ ids) {z : St} {H : Heap} {locs : List Loc} {ls : Array Slot} (hr : zRep D cy B ids A s.heap z H locs) (hl : lv_has ls 6 [(0, .ref (B 19 x0)), (1, .ref (B 12 x1)), (2, .int x2), (3, .int x3)]), K51 x0 x1 x2 x3 z = some (r, z') → W p l e rmX19_routerSpeaks s m args below meth c H locs 0 0 Q (F0 m 51 ls [])) (x0 : Nat) (x1 : Nat) (x2 : Int32) (x3 : Int32) (hx0 : (19, x0) ∈ ids) (hx1 : (12, x1) ∈ ids) {z : St} {H : Heap} {locs : List Loc} {ls : Array Slot} (hr : zRep D cy B ids A s.heap z H locs) (hl : lv_has ls 6 [(0, .ref (B 19 x0)), (1, .ref (B 12 x1)), (2, .int x2), (3, .int x3)]) (h : fX19_routerSpeaks_51b N K51 x0 x1 x2 x3 z = some (r, z')) : W p l e rmX19_routerSpeaks s m args below meth c H locs 0 0 Q (F0 m 51 ls []) := by
  unfold fX19_routerSpeaks_51b at h
  refine lv_iload_n F.1 F.2.1 dX19_routerSpeaks_51 rfl (lv_at hl 3 rfl) ?_
  refine lv_iload_n F.1 F.2.1 dX19_routerSpeaks_52 rfl (lv_at hl 2 rfl) ?_
  refine lv_icmp_ge (tgt := 148) F.1 F.2.1 dX19_routerSpeaks_53 (by decide) (fun c1 => ?_) (fun c1 => ?_)
  · replace h := zi_t c1 h
    refine lv_aload_n F.1 F.2.1 dX19_routerSpeaks_148 rfl (lv_at hl 1 rfl) ?_
    refine lv_iconst (v := (0 : Int32)) F.1 F.2.1 dX19_routerSpeaks_149 (by decide) ?_
    refine pf19_492 F hx1 hr dX19_routerSpeaks_150 (0 : Int32) (fun H locs z2 ez2 hr => ?_)
    replace h := zl_sub ez2 h
    clear ez2
    refine lv_iconst (v := (0 : Int32)) F.1 F.2.1 dX19_routerSpeaks_153 (by decide) ?_
    refine lv_istore_n (lv' := [(3, .int (0 : Int32)), (0, .ref (B 19 x0)), (1, .ref (B 12 x1)), (2, .int x2)]) F.1 F.2.1 dX19_routerSpeaks_154 rfl hl (by decide) rfl (fun ls hl => ?_)
    exact lX19_routerSpeaks_155 hst F hA E  _ x0 x1 (0 : Int32) hx0 hx1 hr (lv_sub hl [1, 2, 0] rfl) h
  · replace h := zi_f c1 h
    refine lv_aload_n F.1 F.2.1 dX19_routerSpeaks_56 rfl (lv_at hl 1 rfl) ?_
    refine gf19_276 F hx1 hr dX19_routerSpeaks_57 ?_
    refine lv_aload_n F.1 F.2.1 dX19_routerSpeaks_60 rfl (lv_at hl 1 rfl) ?_
    refine gf19_495 F hx1 hr dX19_routerSpeaks_61 ?_
    refine lv_iload_n F.1 F.2.1 dX19_routerSpeaks_64 rfl (lv_at hl 3 rfl) ?_
    replace h := zk_some h
    obtain ⟨c3, h⟩ := h
    refine zr_iald (k := 152) (by decide) rfl (by decide) F (zal_a F hx1 (j := 19) rfl) hr dX19_routerSpeaks_65 c3 ?_
    replace h := zk_some h
    obtain ⟨c4, h⟩ := h
    refine zr_aaldv (k := 147) (by decide) rfl rfl (zlen_d (by decide)) F (zal_a F hx1 (j := 2) rfl) hr dX19_routerSpeaks_66 c4 (fun y5 ey5 => ?_)
    replace h := zl_sub ey5 h
    have hy5 := zal_q hr (zal_a F hx1 (j := 2) rfl) rfl ey5
    clear ey5
    refine zr_astore (lv' := [(4, va_rf (Option.map (B 18) y5)), (0, .ref (B 19 x0)), (1, .ref (B 12 x1)), (2, .int x2), (3, .int x3)]) F.1 F.2.1 dX19_routerSpeaks_67 hl (by decide) rfl (fun ls hl => ?_)
    refine lv_aload_n F.1 F.2.1 dX19_routerSpeaks_69 rfl (lv_at hl 1 rfl) ?_
    refine lv_aload_n F.1 F.2.1 dX19_routerSpeaks_70 rfl (lv_at hl 2 rfl) ?_
    refine lv_iconst (v := (4 : Int32)) F.1 F.2.1 dX19_routerSpeaks_71 (by decide) ?_
    refine lv_bipush (v := (8 : Int32)) F.1 F.2.1 dX19_routerSpeaks_72 (by decide) ?_
    refine zr_aload F.1 F.2.1 dX19_routerSpeaks_74 (lv_at hl 0 rfl) ?_
    replace h := zd_some h
    obtain ⟨a6, rfl, h⟩ := h
    replace h := zc_some h
    obtain ⟨r7, z8, hc9, h⟩ := h
    refine zr_calli (zrun_VN (As := []) (rest := [.int (8 : Int32), .int (4 : Int32), .ref (B 12 x1), .ref (B 19 x0)]) zn_2520 zq_2522 zs_X18_address zq_2523 zq_25 hdX18_address (by decide) (T := TX18) (N := 13) rfl (okX18_address l D cy B ids hst N a6 (hy5 _ rfl) hr.2.2 hc9) F hr (hy5 _ rfl) hl.1 rfl (Nat.le_of_ble_eq_true rfl) dX19_routerSpeaks_76 rfl rfl hroX19_routerSpeaks_X18_address ⟨Nat.zero_le _, Nat.zero_le _⟩) F hA hr (fun H locs hw10 hr => ?_)
    clear hc9
    refine lv_aload_n F.1 F.2.1 dX19_routerSpeaks_79 rfl (lv_at hl 2 rfl) ?_
    refine gf19_498 F hx1 hr dX19_routerSpeaks_80 ?_
    refine lv_iload_n F.1 F.2.1 dX19_routerSpeaks_83 rfl (lv_at hl 4 rfl) ?_
    replace h := zk_some h
    obtain ⟨c11, h⟩ := h
    refine zr_iald (k := 153) (by decide) rfl (by decide) F (zal_a F hx1 (j := 20) rfl) hr dX19_routerSpeaks_84 c11 ?_
    replace h := zc_some h
    obtain ⟨r12, z13, hc14, h⟩ := h
    refine zr_calli (zrun_V (As := [.ref (B 12 x1), .int (4 : Int32), .int (8 : Int32), .int r7, .int (zgA z8 153 x1 (Int32.toNatClampNeg x3))]) (rest := []) zq_2765 zq_2767 zs_X19_make zq_2768 zq_4 hdX19_make (by decide) (T := TX19) (N := 32) rfl (okX19_make l D cy B ids hst N x0 hx0 x1 hx1 (4 : Int32)  (8 : Int32)  r7  (zgA z8 153 x1 (Int32.toNatClampNeg x3))  hr.2.2 hc14) F hr hx0 hl.1 rfl (by decide) dX19_routerSpeaks_85 rfl rfl hroX19_routerSpeaks_X19_make ⟨Nat.zero_le _, Nat.zero_le _⟩) F hA hr (fun H locs hw15 hr => ?_)
    clear hc14
    refine lv_istore (lv' := [(5, .int r12), (4, .ref (B 18 a6)), (0, .ref (B 19 x0)), (1, .ref (B 12 x1)), (2, .int x2), (3, .int x3)]) F.1 F.2.1 dX19_routerSpeaks_88 hl (by decide) rfl (fun ls hl => ?_)
    refine lv_aload_n F.1 F.2.1 dX19_routerSpeaks_90 rfl (lv_at hl 2 rfl) ?_
    refine lv_iload F.1 F.2.1 dX19_routerSpeaks_91 (lv_at hl 0 rfl) ?_
    refine lv_bipush (v := (12 : Int32)) F.1 F.2.1 dX19_routerSpeaks_93 (by decide) ?_
    refine lv_aload_n F.1 F.2.1 dX19_routerSpeaks_95 rfl (lv_at hl 3 rfl) ?_
    refine gf19_310 F hx1 hr dX19_routerSpeaks_96 ?_
    replace h := zc_some h
    obtain ⟨r16, z17, hc18, h⟩ := h
    refine zr_callv (zrun_V (As := [.int r12, .int (12 : Int32), .int (zgI z13 12 0 x1)]) (rest := []) zq_2623 zq_2625 zs_X19_set zq_2626 zq_4 hdX19_set (by decide) (T := TX19) (N := 32) rfl (okX19_set l D cy B ids hst N x0 hx0 r12  (12 : Int32)  (zgI z13 12 0 x1)  hr.2.2 hc18) F hr hx0 hl.1 rfl (by decide) dX19_routerSpeaks_99 rfl rfl hroX19_routerSpeaks_X19_set ⟨Nat.zero_le _, Nat.zero_le _⟩) F hA hr (fun H locs hw19 hr => ?_)
    clear hc18
    refine lv_aload_n F.1 F.2.1 dX19_routerSpeaks_102 rfl (lv_at hl 2 rfl) ?_
    refine lv_iload F.1 F.2.1 dX19_routerSpeaks_103 (lv_at hl 0 rfl) ?_
    refine lv_bipush (v := (13 : Int32)) F.1 F.2.1 dX19_routerSpeaks_105 (by decide) ?_
    refine lv_aload_n F.1 F.2.1 dX19_routerSpeaks_107 rfl (lv_at hl 3 rfl) ?_
    refine gf19_501 F hx1 hr dX19_routerSpeaks_108 ?_
    refine lv_iload_n F.1 F.2.1 dX19_routerSpeaks_111 rfl (lv_at hl 5 rfl) ?_
    replace h := zk_some h
    obtain ⟨c20, h⟩ := h
    refine zr_iald (k := 154) (by decide) rfl (by decide) F (zal_a F hx1 (j := 21) rfl) hr dX19_routerSpeaks_112 c20 ?_
    replace h := zc_some h
    obtain ⟨r21, z22, hc23, h⟩ := h
    refine zr_callv (zrun_V (As := [.int r12, .int (13 : Int32), .int (zgA z17 154 x1 (Int32.toNatClampNeg x3))]) (rest := []) zq_2623 zq_2625 zs_X19_set zq_2626 zq_4 hdX19_set (by decide) (T := TX19) (N := 32) rfl (okX19_set l D cy B ids hst N x0 hx0 r12  (13 : Int32)  (zgA z17 154 x1 (Int32.toNatClampNeg x3))  hr.2.2 hc23) F hr hx0 hl.1 rfl (by decide) dX19_routerSpeaks_113 rfl rfl hroX19_routerSpeaks_X19_set ⟨Nat.zero_le _, Nat.zero_le _⟩) F hA hr (fun H locs hw24 hr => ?_)
    clear hc23
    refine lv_aload_n F.1 F.2.1 dX19_routerSpeaks_116 rfl (lv_at hl 2 rfl) ?_
    refine lv_aload F.1 F.2.1 dX19_routerSpeaks_117 (lv_at hl 1 rfl) ?_
    refine lv_aload_n F.1 F.2.1 dX19_routerSpeaks_119 rfl (lv_at hl 3 rfl) ?_
    refine gf19_498 F hx1 hr dX19_routerSpeaks_120 ?_
    refine lv_iload_n F.1 F.2.1 dX19_routerSpeaks_123 rfl (lv_at hl 5 rfl) ?_
    replace h := zk_some h
    obtain ⟨c25, h⟩ := h
    refine zr_iald (k := 153) (by decide) rfl (by decide) F (zal_a F hx1 (j := 20) rfl) hr dX19_routerSpeaks_124 c25 ?_
    refine lv_ldcw (v := (65535)) F.1 F.2.1 F.2.2.2.1 (F.2.2.2.2.1 _ zq_2784) dX19_routerSpeaks_125 ?_
    refine lv_iand F.1 F.2.1 dX19_routerSpeaks_128 ?_
    refine lv_iconst (v := (1 : Int32)) F.1 F.2.1 dX19_routerSpeaks_129 (by decide) ?_
    refine lv_isub F.1 F.2.1 dX19_routerSpeaks_130 ?_
    refine lv_iload F.1 F.2.1 dX19_routerSpeaks_131 (lv_at hl 0 rfl) ?_
    replace h := zc_some h
    obtain ⟨r26, z27, hc28, h⟩ := h
    refine zr_callv (zrun_V (As := [.ref (B 18 a6), .int (((zgA z22 153 x1 (Int32.toNatClampNeg x3)) &&& (65535 : Int32)) - (1 : Int32)), .int r12]) (rest := []) zq_2785 zq_2787 zs_X19_deliver zq_2788 zq_4 hdX19_deliver (by decide) (T := TX19) (N := 32) rfl (okX19_deliver l D cy B ids hst N x0 hx0 a6 (hy5 _ rfl) (((zgA z22 153 x1 (Int32.toNatClampNeg x3)) &&& (65535 : Int32)) - (1 : Int32))  r12  hr.2.2 hc28) F hr hx0 hl.1 rfl (by decide) dX19_routerSpeaks_133 rfl rfl hroX19_routerSpeaks_X19_deliver ⟨Nat.zero_le _, Nat.zero_le _⟩) F hA hr (fun H locs hw29 hr => ?_)
    clear hc28
    refine lv_aload_n F.1 F.2.1 dX19_routerSpeaks_136 rfl (lv_at hl 2 rfl) ?_
    refine lv_iload F.1 F.2.1 dX19_routerSpeaks_137 (lv_at hl 0 rfl) ?_
    replace h := zc_some h
    obtain ⟨r30, z31, hc32, h⟩ := h
    refine zr_callv (zrun_V (As := [.int r12]) (rest := []) zq_2545 zq_2547 zs_X19_drop zq_2548 zq_4 hdX19_drop (by decide) (T := TX19) (N := 32) rfl (okX19_drop l D cy B ids hst N x0 hx0 r12  hr.2.2 hc32) F hr hx0 hl.1 rfl (by decide) dX19_routerSpeaks_139 rfl rfl hroX19_routerSpeaks_X19_drop ⟨Nat.zero_le _, Nat.zero_le _⟩) F hA hr (fun H locs hw33 hr => ?_)
    clear hc32
    obtain ⟨v34, ev34⟩ : ∃ y : Int32, y = (x3 + 1) := ⟨_, rfl⟩
    replace h := zl_sub ev34 h
    refine lv_iinc (v := v34) (lv' := [(3, .int v34), (5, .int r12), (4, .ref (B 18 a6)), (0, .ref (B 19 x0)), (1, .ref (B 12 x1)), (2, .int x2)]) F.1 F.2.1 dX19_routerSpeaks_142 hl (k := 5) rfl (by rw [ev34]; rfl) (by decide) rfl (fun ls hl => ?_)
    refine lv_goto (tgt := 51) F.1 F.2.1 dX19_routerSpeaks_145 (by decide) ?_
    exact hK51 x0 x1 x2 v34 hx0 hx1 hr (lv_sub hl [3, 4, 5, 0] rfl) h
theorem lX19_routerSpeaks_51 (hst : zSt B ids) (F : zFx p m c cX19_routerSpeaks 6 s args RX19 D cy B ids A) (hA : ∀ q : Nat, s.heap.size ≤ q → A q) {r : Int32} {z' : St} (E : zEnd p l e rmX19_routerSpeaks s m args below meth c cX19_routerSpeaks D cy B ids A Q none z' .return_ True) {N : Nat}  : ∀ (n : Nat) (x0 : Nat) (x1 : Nat) (x2 : Int32) (x3 : Int32) (hx0 : (19, x0) ∈ ids) (hx1 : (12, x1) ∈ ids) {z : St} {H : Heap} {locs : List Loc} {ls : Array Slot} (hr : zRep D cy B ids A s.heap z H locs) (hl : lv_has ls 6 [(0, .ref (B 19 x0)), (1, .ref (B 12 x1)), (2, .int x2), (3, .int x3)]), fX19_routerSpeaks_51 N  n x0 x1 x2 x3 z = some (r, z') → W p l e rmX19_routerSpeaks s m args below meth c H locs 0 0 Q (F0 m 51 ls []) := by
  intro n
  induction n with
  | zero => intro x0 x1 x2 x3 hx0 hx1 z H locs ls hr hl h; cases h
  | succ n ih => intro x0 x1 x2 x3 hx0 hx1 z H locs ls hr hl h; exact bX19_routerSpeaks_51 hst F hA E ih x0 x1 x2 x3 hx0 hx1 hr hl h
def fX19_routerSpeaks_44 (N : Nat)  (x0 : Nat) (x1 : Nat) (z : St) : Option (Int32 × St) := zl (zgI z 12 22 x1) fun v1 => fX19_routerSpeaks_51 N N x0 x1 v1 (0 : Int32) z
set_option maxHeartbeats 4000000 in
set_option maxRecDepth 100000 in
theorem bX19_routerSpeaks_44 (hst : zSt B ids) (F : zFx p m c cX19_routerSpeaks 6 s args RX19 D cy B ids A) (hA : ∀ q : Nat, s.heap.size ≤ q → A q) {r : Int32} {z' : St} (E : zEnd p l e rmX19_routerSpeaks s m args below meth c cX19_routerSpeaks D cy B ids A Q none z' .return_ True) {N : Nat}  (x0 : Nat) (x1 : Nat) (hx0 : (19, x0) ∈ ids) (hx1 : (12, x1) ∈ ids) {z : St} {H : Heap} {locs : List Loc} {ls : Array Slot} (hr : zRep D cy B ids A s.heap z H locs) (hl : lv_has ls 6 [(0, .ref (B 19 x0)), (1, .ref (B 12 x1))]) (h : fX19_routerSpeaks_44 N x0 x1 z = some (r, z')) : W p l e rmX19_routerSpeaks s m args below meth c H locs 0 0 Q (F0 m 44 ls []) := by
  unfold fX19_routerSpeaks_44 at h
  refine lv_aload_n F.1 F.2.1 dX19_routerSpeaks_44 rfl (lv_at hl 1 rfl) ?_
  refine gf19_492 F hx1 hr dX19_routerSpeaks_45 ?_
  refine lv_topi (fun v1 ev1 => ?_)
  replace h := zl_sub ev1 h
  refine lv_istore_n (lv' := [(2, .int v1), (0, .ref (B 19 x0)), (1, .ref (B 12 x1))]) F.1 F.2.1 dX19_routerSpeaks_48 rfl hl (by decide) rfl (fun ls hl => ?_)
  refine lv_iconst (v := (0 : Int32)) F.1 F.2.1 dX19_routerSpeaks_49 (by decide) ?_
  refine lv_istore_n (lv' := [(3, .int (0 : Int32)), (2, .int v1), (0, .ref (B 19 x0)), (1, .ref (B 12 x1))]) F.1 F.2.1 dX19_routerSpeaks_50 rfl hl (by decide) rfl (fun ls hl => ?_)
  exact lX19_routerSpeaks_51 hst F hA E  _ x0 x1 v1 (0 : Int32) hx0 hx1 hr (lv_sub hl [2, 3, 1, 0] rfl) h
def fX19_routerSpeaks_2b (N : Nat) (K2 : Nat → Nat → Int32 → St → Option (Int32 × St)) (x0 : Nat) (x1 : Nat) (x2 : Int32) (z : St) : Option (Int32 × St) := if (zgI z 12 3 x1) ≤ x2 then (fX19_routerSpeaks_44 N x0 x1 z) else (if ¬ ((zgI z 19 24 x0) - (zgI z 19 24 x0) / (20 : Int32) * (20 : Int32)) = 0 then (fX19_routerSpeaks_44 N x0 x1 z) else (zk x2 6 <| zl (zgQ z 147 x1 (Int32.toNatClampNeg x2)) fun y4 => zd y4 fun a5 => if (zgI z 18 5 a5) = 0 then (fX19_routerSpeaks_38 N K2 x0 x1 x2 z) else (zc (fX19_greet N x0 x1 x2 z) fun _ z8 => fX19_routerSpeaks_38 N K2 x0 x1 x2 z8)))
def fX19_routerSpeaks_2 (N : Nat)  : Nat → Nat → Nat → Int32 → St → Option (Int32 × St)
  | 0 => fun _ _ _ _ => none
  | n + 1 => fX19_routerSpeaks_2b N (fX19_routerSpeaks_2 N  n)
set_option maxHeartbeats 4000000 in
set_option maxRecDepth 100000 in
theorem bX19_routerSpeaks_2 (hst : zSt B ids) (F : zFx p m c cX19_routerSpeaks 6 s args RX19 D cy B ids A) (hA : ∀ q : Nat, s.heap.size ≤ q → A q) {r : Int32} {z' : St} (E : zEnd p l e rmX19_routerSpeaks s m args below meth c cX19_routerSpeaks D cy B ids A Q none z' .return_ True) {N : Nat} {K2 : Nat → Nat → Int32 → St → Option (Int32 × St)} (hK2 : ∀ (x0 : Nat) (x1 : Nat) (x2 : Int32) (hx0 : (19, x0) ∈ ids) (hx1 : (12, x1) ∈ ids) {z : St} {H : Heap} {locs : List Loc} {ls : Array Slot} (hr : zRep D cy B ids A s.heap z H locs) (hl : lv_has ls 6 [(0, .ref (B 19 x0)), (1, .ref (B 12 x1)), (2, .int x2)]), K2 x0 x1 x2 z = some (r, z') → W p l e rmX19_routerSpeaks s m args below meth c H locs 0 0 Q (F0 m 2 ls [])) (x0 : Nat) (x1 : Nat) (x2 : Int32) (hx0 : (19, x0) ∈ ids) (hx1 : (12, x1) ∈ ids) {z : St} {H : Heap} {locs : List Loc} {ls : Array Slot} (hr : zRep D cy B ids A s.heap z H locs) (hl : lv_has ls 6 [(0, .ref (B 19 x0)), (1, .ref (B 12 x1)), (2, .int x2)]) (h : fX19_routerSpeaks_2b N K2 x0 x1 x2 z = some (r, z')) : W p l e rmX19_routerSpeaks s m args below meth c H locs 0 0 Q (F0 m 2 ls []) := by
  unfold fX19_routerSpeaks_2b at h
  refine lv_iload_n F.1 F.2.1 dX19_routerSpeaks_2 rfl (lv_at hl 2 rfl) ?_
  refine lv_aload_n F.1 F.2.1 dX19_routerSpeaks_3 rfl (lv_at hl 1 rfl) ?_
  refine gf19_273 F hx1 hr dX19_routerSpeaks_4 ?_
  refine lv_icmp_ge (tgt := 44) F.1 F.2.1 dX19_routerSpeaks_7 (by decide) (fun c1 => ?_) (fun c1 => ?_)
  · replace h := zi_t c1 h
    exact bX19_routerSpeaks_44 hst F hA E  x0 x1 hx0 hx1 hr (lv_sub hl [0, 1] rfl) h
  · replace h := zi_f c1 h
    refine lv_aload_n F.1 F.2.1 dX19_routerSpeaks_10 rfl (lv_at hl 0 rfl) ?_
    refine gf19_143 F hx0 hr dX19_routerSpeaks_11 ?_
    refine lv_bipush (v := (20 : Int32)) F.1 F.2.1 dX19_routerSpeaks_14 (by decide) ?_
    refine lv_irem F.1 F.2.1 dX19_routerSpeaks_16 (by decide) ?_
    refine lv_if_ne (tgt := 44) F.1 F.2.1 dX19_routerSpeaks_17 (by decide) (fun c2 => ?_) (fun c2 => ?_)
    · replace h := zi_t c2 h
      exact bX19_routerSpeaks_44 hst F hA E  x0 x1 hx0 hx1 hr (lv_sub hl [0, 1] rfl) h
    · replace h := zi_f (fun q => q c2) h
      refine lv_aload_n F.1 F.2.1 dX19_routerSpeaks_20 rfl (lv_at hl 1 rfl) ?_
      refine gf19_276 F hx1 hr dX19_routerSpeaks_21 ?_
      refine lv_iload_n F.1 F.2.1 dX19_routerSpeaks_24 rfl (lv_at hl 2 rfl) ?_
      replace h := zk_some h
      obtain ⟨c3, h⟩ := h
      refine zr_aaldv (k := 147) (by decide) rfl rfl (zlen_d (by decide)) F (zal_a F hx1 (j := 2) rfl) hr dX19_routerSpeaks_25 c3 (fun y4 ey4 => ?_)
      replace h := zl_sub ey4 h
      have hy4 := zal_q hr (zal_a F hx1 (j := 2) rfl) rfl ey4
      clear ey4
      replace h := zd_some h
      obtain ⟨a5, rfl, h⟩ := h
      refine gf19_479 F (hy4 _ rfl) hr dX19_routerSpeaks_26 ?_
      refine lv_if_eq (tgt := 38) F.1 F.2.1 dX19_routerSpeaks_29 (by decide) (fun c6 => ?_) (fun c6 => ?_)
      · replace h := zi_t c6 h
        exact bX19_routerSpeaks_38 hst F hA E hK2 x0 x1 x2 hx0 hx1 hr (lv_sub hl [0, 1, 2] rfl) h
      · replace h := zi_f c6 h
        refine lv_aload_n F.1 F.2.1 dX19_routerSpeaks_32 rfl (lv_at hl 0 rfl) ?_
        refine lv_aload_n F.1 F.2.1 dX19_routerSpeaks_33 rfl (lv_at hl 1 rfl) ?_
        refine lv_iload_n F.1 F.2.1 dX19_routerSpeaks_34 rfl (lv_at hl 2 rfl) ?_
        replace h := zc_some h
        obtain ⟨r7, z8, hc9, h⟩ := h
        refine zr_callv (zrun_V (As := [.ref (B 12 x1), .int x2]) (rest := []) zq_2887 zq_2889 zs_X19_greet zq_2890 zq_4 hdX19_greet (by decide) (T := TX19) (N := 32) rfl (okX19_greet l D cy B ids hst N x0 hx0 x1 hx1 x2  hr.2.2 hc9) F hr hx0 hl.1 rfl (by decide) dX19_routerSpeaks_35 rfl rfl hroX19_routerSpeaks_X19_greet ⟨Nat.zero_le _, Nat.zero_le _⟩) F hA hr (fun H locs hw10 hr => ?_)
        clear hc9
        exact bX19_routerSpeaks_38 hst F hA E hK2 x0 x1 x2 hx0 hx1 hr (lv_sub hl [0, 1, 2] rfl) h
theorem lX19_routerSpeaks_2 (hst : zSt B ids) (F : zFx p m c cX19_routerSpeaks 6 s args RX19 D cy B ids A) (hA : ∀ q : Nat, s.heap.size ≤ q → A q) {r : Int32} {z' : St} (E : zEnd p l e rmX19_routerSpeaks s m args below meth c cX19_routerSpeaks D cy B ids A Q none z' .return_ True) {N : Nat}  : ∀ (n : Nat) (x0 : Nat) (x1 : Nat) (x2 : Int32) (hx0 : (19, x0) ∈ ids) (hx1 : (12, x1) ∈ ids) {z : St} {H : Heap} {locs : List Loc} {ls : Array Slot} (hr : zRep D cy B ids A s.heap z H locs) (hl : lv_has ls 6 [(0, .ref (B 19 x0)), (1, .ref (B 12 x1)), (2, .int x2)]), fX19_routerSpeaks_2 N  n x0 x1 x2 z = some (r, z') → W p l e rmX19_routerSpeaks s m args below meth c H locs 0 0 Q (F0 m 2 ls []) := by
  intro n
  induction n with
  | zero => intro x0 x1 x2 hx0 hx1 z H locs ls hr hl h; cases h
  | succ n ih => intro x0 x1 x2 hx0 hx1 z H locs ls hr hl h; exact bX19_routerSpeaks_2 hst F hA E ih x0 x1 x2 hx0 hx1 hr hl h
def fX19_routerSpeaks (N : Nat)  (x0 : Nat) (x1 : Nat) (z : St) : Option (Int32 × St) := fX19_routerSpeaks_2 N N x0 x1 (0 : Int32) z
set_option maxHeartbeats 4000000 in
set_option maxRecDepth 100000 in
theorem bX19_routerSpeaks_0 (hst : zSt B ids) (F : zFx p m c cX19_routerSpeaks 6 s args RX19 D cy B ids A) (hA : ∀ q : Nat, s.heap.size ≤ q → A q) {r : Int32} {z' : St} (E : zEnd p l e rmX19_routerSpeaks s m args below meth c cX19_routerSpeaks D cy B ids A Q none z' .return_ True) {N : Nat}  (x0 : Nat) (x1 : Nat) (hx0 : (19, x0) ∈ ids) (hx1 : (12, x1) ∈ ids) {z : St} {H : Heap} {locs : List Loc} {ls : Array Slot} (hr : zRep D cy B ids A s.heap z H locs) (hl : lv_has ls 6 [(0, .ref (B 19 x0)), (1, .ref (B 12 x1))]) (h : fX19_routerSpeaks N x0 x1 z = some (r, z')) : W p l e rmX19_routerSpeaks s m args below meth c H locs 0 0 Q (F0 m 0 ls []) := by
  unfold fX19_routerSpeaks at h
  refine lv_iconst (v := (0 : Int32)) F.1 F.2.1 dX19_routerSpeaks_0 (by decide) ?_
  refine lv_istore_n (lv' := [(2, .int (0 : Int32)), (0, .ref (B 19 x0)), (1, .ref (B 12 x1))]) F.1 F.2.1 dX19_routerSpeaks_1 rfl hl (by decide) rfl (fun ls hl => ?_)
  exact lX19_routerSpeaks_2 hst F hA E  _ x0 x1 (0 : Int32) hx0 hx1 hr (lv_sub hl [1, 2, 0] rfl) h
end SX19_routerSpeaks
set_option maxRecDepth 100000 in
theorem okX19_routerSpeaks (l : Launch) (D : va_G) (cy : Nat → ClassId) (B : Nat → Nat → Nat) (ids : List (Nat × Nat)) (hst : zSt B ids) (N : Nat) (x0 : Nat) (hx0 : (19, x0) ∈ ids) (x1 : Nat) (hx1 : (12, x1) ∈ ids) {z : St} {r : Int32} {z' : St} (hW : zWf ids z) (h : fX19_routerSpeaks N x0 x1 z = some (r, z')) : zM l yX19_routerSpeaks (zws yX19_routerSpeaks cX19_routerSpeaks 6 none) rmX19_routerSpeaks D cy B ids [.ref (B 19 x0), .ref (B 12 x1)] none True z z' :=
  zM_of hst hW (by decide +kernel) (Nat.le_of_ble_eq_true rfl) (fun p e s m args below meth c A ls F hA hret hlocks hr hl => bX19_routerSpeaks_0 hst F hA (zEnd_v F hret hlocks) x0 x1 hx0 hx1 hr hl h)
abbrev rmX19_leastSums : Room := { frames := 3, cells := 0, slots := 0, locals := 70 }
theorem hdX19_leastSums : yX19_leastSums.cls ≠ "java/lang/invoke/MethodHandle" ∧ yX19_leastSums.cls ≠ "java/lang/invoke/VarHandle" ∧ (parseMethodDescriptor yX19_leastSums.desc).map (fun d => d.parameters.length) = some 1 := by decide +kernel
theorem hroX19_leastSums_X19_ad : rmX19_ad.frames + 1 ≤ rmX19_leastSums.frames ∧ 8 + (3 + 11) + rmX19_ad.locals ≤ rmX19_leastSums.locals := by decide
theorem hroX19_leastSums_X19_costTo : rmX19_costTo.frames + 1 ≤ rmX19_leastSums.frames ∧ 8 + (5 + 11) + rmX19_costTo.locals ≤ rmX19_leastSums.locals := by decide
theorem hroX19_leastSums_X19_friendRow : rmX19_friendRow.frames + 1 ≤ rmX19_leastSums.frames ∧ 8 + (4 + 11) + rmX19_friendRow.locals ≤ rmX19_leastSums.locals := by decide
section SX19_leastSums
variable {p : Program} {l : Launch} {e : Env} {s : State} {m : MethodId} {args : Array Value} {below : List Frame} {meth : Method} {c : Code} {Q : State → Prop} {D : va_G} {cy : Nat → ClassId} {B : Nat → Nat → Nat} {ids : List (Nat × Nat)} {A : Nat → Prop}
def fX19_leastSums_32 (N : Nat) (K2 : Nat → Nat → Int32 → St → Option (Int32 × St)) (x0 : Nat) (x1 : Nat) (x2 : Int32) (s0 : Nat) (s1 : Int32) (s2 : Int32) (z : St) : Option (Int32 × St) := zk s1 256 <| zl (zsA z 190 s0 (Int32.toNatClampNeg s1) s2) fun z2 => zl (x2 + 1) fun v3 => K2 x0 x1 v3 z2
set_option maxHeartbeats 4000000 in
set_option maxRecDepth 100000 in
theorem bX19_leastSums_32 (hst : zSt B ids) (F : zFx p m c cX19_leastSums 7 s args RX19 D cy B ids A) (hA : ∀ q : Nat, s.heap.size ≤ q → A q) {r : Int32} {z' : St} (E : zEnd p l e rmX19_leastSums s m args below meth c cX19_leastSums D cy B ids A Q none z' .return_ True) {N : Nat} {K2 : Nat → Nat → Int32 → St → Option (Int32 × St)} (hK2 : ∀ (x0 : Nat) (x1 : Nat) (x2 : Int32) (hx0 : (19, x0) ∈ ids) (hx1 : (12, x1) ∈ ids) {z : St} {H : Heap} {locs : List Loc} {ls : Array Slot} (hr : zRep D cy B ids A s.heap z H locs) (hl : lv_has ls 7 [(0, .ref (B 19 x0)), (1, .ref (B 12 x1)), (2, .int x2)]), K2 x0 x1 x2 z = some (r, z') → W p l e rmX19_leastSums s m args below meth c H locs 0 0 Q (F0 m 2 ls [])) (x0 : Nat) (x1 : Nat) (x2 : Int32) (s0 : Nat) (s1 : Int32) (s2 : Int32) (hx0 : (19, x0) ∈ ids) (hx1 : (12, x1) ∈ ids) (hs0 : (190, s0) ∈ ids) {z : St} {H : Heap} {locs : List Loc} {ls : Array Slot} (hr : zRep D cy B ids A s.heap z H locs) (hl : lv_has ls 7 [(0, .ref (B 19 x0)), (1, .ref (B 12 x1)), (2, .int x2)]) (h : fX19_leastSums_32 N K2 x0 x1 x2 s0 s1 s2 z = some (r, z')) : W p l e rmX19_leastSums s m args below meth c H locs 0 0 Q (F0 m 32 ls [.int s2, .int s1, .ref (B 190 s0)]) := by
  unfold fX19_leastSums_32 at h
  replace h := zk_some h
  obtain ⟨c1, h⟩ := h
  refine zr_iast (k := 190) (by decide) rfl (by decide) F hs0 hr dX19_leastSums_32 c1 (fun H locs z2 ez2 hr => ?_)
  replace h := zl_sub ez2 h
  clear ez2
  obtain ⟨v3, ev3⟩ : ∃ y : Int32, y = (x2 + 1) := ⟨_, rfl⟩
  replace h := zl_sub ev3 h
  refine lv_iinc (v := v3) (lv' := [(2, .int v3), (0, .ref (B 19 x0)), (1, .ref (B 12 x1))]) F.1 F.2.1 dX19_leastSums_33 hl (k := 2) rfl (by rw [ev3]; rfl) (by decide) rfl (fun ls hl => ?_)
  refine lv_goto (tgt := 2) F.1 F.2.1 dX19_leastSums_36 (by decide) ?_
  exact hK2 x0 x1 v3 hx0 hx1 hr (lv_sub hl [1, 2, 0] rfl) h
def fX19_leastSums_159 (N : Nat) (K41 : Nat → Nat → Int32 → St → Option (Int32 × St)) (K57 : Nat → Nat → Int32 → Int32 → Int32 → St → Option (Int32 × St)) (x0 : Nat) (x1 : Nat) (x2 : Int32) (x3 : Int32) (x4 : Int32) (z : St) : Option (Int32 × St) := zl (x4 + 1) fun v1 => K57 x0 x1 x2 x3 v1 z
set_option maxHeartbeats 4000000 in
set_option maxRecDepth 100000 in
theorem bX19_leastSums_159 (hst : zSt B ids) (F : zFx p m c cX19_leastSums 7 s args RX19 D cy B ids A) (hA : ∀ q : Nat, s.heap.size ≤ q → A q) {r : Int32} {z' : St} (E : zEnd p l e rmX19_leastSums s m args below meth c cX19_leastSums D cy B ids A Q none z' .return_ True) {N : Nat} {K41 : Nat → Nat → Int32 → St → Option (Int32 × St)} {K57 : Nat → Nat → Int32 → Int32 → Int32 → St → Option (Int32 × St)} (hK41 : ∀ (x0 : Nat) (x1 : Nat) (x2 : Int32) (hx0 : (19, x0) ∈ ids) (hx1 : (12, x1) ∈ ids) {z : St} {H : Heap} {locs : List Loc} {ls : Array Slot} (hr : zRep D cy B ids A s.heap z H locs) (hl : lv_has ls 7 [(0, .ref (B 19 x0)), (1, .ref (B 12 x1)), (2, .int x2)]), K41 x0 x1 x2 z = some (r, z') → W p l e rmX19_leastSums s m args below meth c H locs 0 0 Q (F0 m 41 ls [])) (hK57 : ∀ (x0 : Nat) (x1 : Nat) (x2 : Int32) (x3 : Int32) (x4 : Int32) (hx0 : (19, x0) ∈ ids) (hx1 : (12, x1) ∈ ids) {z : St} {H : Heap} {locs : List Loc} {ls : Array Slot} (hr : zRep D cy B ids A s.heap z H locs) (hl : lv_has ls 7 [(0, .ref (B 19 x0)), (1, .ref (B 12 x1)), (2, .int x2), (3, .int x3), (4, .int x4)]), K57 x0 x1 x2 x3 x4 z = some (r, z') → W p l e rmX19_leastSums s m args below meth c H locs 0 0 Q (F0 m 57 ls [])) (x0 : Nat) (x1 : Nat) (x2 : Int32) (x3 : Int32) (x4 : Int32) (hx0 : (19, x0) ∈ ids) (hx1 : (12, x1) ∈ ids) {z : St} {H : Heap} {locs : List Loc} {ls : Array Slot} (hr : zRep D cy B ids A s.heap z H locs) (hl : lv_has ls 7 [(0, .ref (B 19 x0)), (1, .ref (B 12 x1)), (2, .int x2), (3, .int x3), (4, .int x4)]) (h : fX19_leastSums_159 N K41 K57 x0 x1 x2 x3 x4 z = some (r, z')) : W p l e rmX19_leastSums s m args below meth c H locs 0 0 Q (F0 m 159 ls []) := by
  unfold fX19_leastSums_159 at h
  obtain ⟨v1, ev1⟩ : ∃ y : Int32, y = (x4 + 1) := ⟨_, rfl⟩
  replace h := zl_sub ev1 h
  refine lv_iinc (v := v1) (lv' := [(4, .int v1), (0, .ref (B 19 x0)), (1, .ref (B 12 x1)), (2, .int x2), (3, .int x3)]) F.1 F.2.1 dX19_leastSums_159 hl (k := 4) rfl (by rw [ev1]; rfl) (by decide) rfl (fun ls hl => ?_)
  refine lv_goto (tgt := 57) F.1 F.2.1 dX19_leastSums_162 (by decide) ?_
  exact hK57 x0 x1 x2 x3 v1 hx0 hx1 hr (lv_sub hl [1, 2, 3, 4, 0] rfl) h
def fX19_leastSums_165 (N : Nat) (K41 : Nat → Nat → Int32 → St → Option (Int32 × St)) (x0 : Nat) (x1 : Nat) (x2 : Int32) (z : St) : Option (Int32 × St) := zl (x2 + 1) fun v1 => K41 x0 x1 v1 z
set_option maxHeartbeats 4000000 in
set_option maxRecDepth 100000 in
theorem bX19_leastSums_165 (hst : zSt B ids) (F : zFx p m c cX19_leastSums 7 s args RX19 D cy B ids A) (hA : ∀ q : Nat, s.heap.size ≤ q → A q) {r : Int32} {z' : St} (E : zEnd p l e rmX19_leastSums s m args below meth c cX19_leastSums D cy B ids A Q none z' .return_ True) {N : Nat} {K41 : Nat → Nat → Int32 → St → Option (Int32 × St)} (hK41 : ∀ (x0 : Nat) (x1 : Nat) (x2 : Int32) (hx0 : (19, x0) ∈ ids) (hx1 : (12, x1) ∈ ids) {z : St} {H : Heap} {locs : List Loc} {ls : Array Slot} (hr : zRep D cy B ids A s.heap z H locs) (hl : lv_has ls 7 [(0, .ref (B 19 x0)), (1, .ref (B 12 x1)), (2, .int x2)]), K41 x0 x1 x2 z = some (r, z') → W p l e rmX19_leastSums s m args below meth c H locs 0 0 Q (F0 m 41 ls [])) (x0 : Nat) (x1 : Nat) (x2 : Int32) (hx0 : (19, x0) ∈ ids) (hx1 : (12, x1) ∈ ids) {z : St} {H : Heap} {locs : List Loc} {ls : Array Slot} (hr : zRep D cy B ids A s.heap z H locs) (hl : lv_has ls 7 [(0, .ref (B 19 x0)), (1, .ref (B 12 x1)), (2, .int x2)]) (h : fX19_leastSums_165 N K41 x0 x1 x2 z = some (r, z')) : W p l e rmX19_leastSums s m args below meth c H locs 0 0 Q (F0 m 165 ls []) := by
  unfold fX19_leastSums_165 at h
  obtain ⟨v1, ev1⟩ : ∃ y : Int32, y = (x2 + 1) := ⟨_, rfl⟩
  replace h := zl_sub ev1 h
  refine lv_iinc (v := v1) (lv' := [(2, .int v1), (0, .ref (B 19 x0)), (1, .ref (B 12 x1))]) F.1 F.2.1 dX19_leastSums_165 hl (k := 2) rfl (by rw [ev1]; rfl) (by decide) rfl (fun ls hl => ?_)
  refine lv_goto (tgt := 41) F.1 F.2.1 dX19_leastSums_168 (by decide) ?_
  exact hK41 x0 x1 v1 hx0 hx1 hr (lv_sub hl [1, 2, 0] rfl) h
def fX19_leastSums_57b (N : Nat) (K41 : Nat → Nat → Int32 → St → Option (Int32 × St)) (K57 : Nat → Nat → Int32 → Int32 → Int32 → St → Option (Int32 × St)) (x0 : Nat) (x1 : Nat) (x2 : Int32) (x3 : Int32) (x4 : Int32) (z : St) : Option (Int32 × St) := if x3 = (-1 : Int32) then (fX19_leastSums_165 N K41 x0 x1 x2 z) else (zc (fX19_ad N x0 x3 (3 : Int32) z) fun r2 z3 => if r2 ≤ x4 then (fX19_leastSums_165 N K41 x0 x1 x2 z3) else (zc (fX19_friendRow N x0 x3 x4 (0 : Int32) z3) fun r7 z8 => zc (fX19_friendRow N x0 x3 x4 (2 : Int32) z8) fun r11 z12 => zk r7 16 <| if (zgA z12 150 x1 (Int32.toNatClampNeg r7)) = (-1 : Int32) then (fX19_leastSums_159 N K41 K57 x0 x1 x2 x3 x4 z12) else (zk r7 16 <| zc (fX19_friendRow N x0 x3 x4 (1 : Int32) z12) fun r18 z19 => zc (fX19_costTo N x0 (zgA z12 150 x1 (Int32.toNatClampNeg r7)) x2 r18 z19) fun r22 z23 => if r22 = (-1 : Int32) then (fX19_leastSums_159 N K41 K57 x0 x1 x2 x3 x4 z23) else (zk (((16 : Int32) * x2) + r7) 256 <| if (zgA z23 190 x0 (Int32.toNatClampNeg (((16 : Int32) * x2) + r7))) ≤ r11 then (fX19_leastSums_159 N K41 K57 x0 x1 x2 x3 x4 z23) else (zk (((16 : Int32) * x2) + r7) 256 <| zl (zsA z23 190 x0 (Int32.toNatClampNeg (((16 : Int32) * x2) + r7)) r11) fun z30 => fX19_leastSums_159 N K41 K57 x0 x1 x2 x3 x4 z30)))))
def fX19_leastSums_57 (N : Nat) (K41 : Nat → Nat → Int32 → St → Option (Int32 × St)) : Nat → Nat → Nat → Int32 → Int32 → Int32 → St → Option (Int32 × St)
  | 0 => fun _ _ _ _ _ _ => none
  | n + 1 => fX19_leastSums_57b N K41 (fX19_leastSums_57 N K41 n)
set_option maxHeartbeats 4000000 in
set_option maxRecDepth 100000 in
theorem bX19_leastSums_57 (hst : zSt B ids) (F : zFx p m c cX19_leastSums 7 s args RX19 D cy B ids A) (hA : ∀ q : Nat, s.heap.size ≤ q → A q) {r : Int32} {z' : St} (E : zEnd p l e rmX19_leastSums s m args below meth c cX19_leastSums D cy B ids A Q none z' .return_ True) {N : Nat} {K41 : Nat → Nat → Int32 → St → Option (Int32 × St)} {K57 : Nat → Nat → Int32 → Int32 → Int32 → St → Option (Int32 × St)} (hK41 : ∀ (x0 : Nat) (x1 : Nat) (x2 : Int32) (hx0 : (19, x0) ∈ ids) (hx1 : (12, x1) ∈ ids) {z : St} {H : Heap} {locs : List Loc} {ls : Array Slot} (hr : zRep D cy B ids A s.heap z H locs) (hl : lv_has ls 7 [(0, .ref (B 19 x0)), (1, .ref (B 12 x1)), (2, .int x2)]), K41 x0 x1 x2 z = some (r, z') → W p l e rmX19_leastSums s m args below meth c H locs 0 0 Q (F0 m 41 ls [])) (hK57 : ∀ (x0 : Nat) (x1 : Nat) (x2 : Int32) (x3 : Int32) (x4 : Int32) (hx0 : (19, x0) ∈ ids) (hx1 : (12, x1) ∈ ids) {z : St} {H : Heap} {locs : List Loc} {ls : Array Slot} (hr : zRep D cy B ids A s.heap z H locs) (hl : lv_has ls 7 [(0, .ref (B 19 x0)), (1, .ref (B 12 x1)), (2, .int x2), (3, .int x3), (4, .int x4)]), K57 x0 x1 x2 x3 x4 z = some (r, z') → W p l e rmX19_leastSums s m args below meth c H locs 0 0 Q (F0 m 57 ls [])) (x0 : Nat) (x1 : Nat) (x2 : Int32) (x3 : Int32) (x4 : Int32) (hx0 : (19, x0) ∈ ids) (hx1 : (12, x1) ∈ ids) {z : St} {H : Heap} {locs : List Loc} {ls : Array Slot} (hr : zRep D cy B ids A s.heap z H locs) (hl : lv_has ls 7 [(0, .ref (B 19 x0)), (1, .ref (B 12 x1)), (2, .int x2), (3, .int x3), (4, .int x4)]) (h : fX19_leastSums_57b N K41 K57 x0 x1 x2 x3 x4 z = some (r, z')) : W p l e rmX19_leastSums s m args below meth c H locs 0 0 Q (F0 m 57 ls []) := by
  unfold fX19_leastSums_57b at h
  refine lv_iload_n F.1 F.2.1 dX19_leastSums_57 rfl (lv_at hl 3 rfl) ?_
  refine lv_iconst (v := (-1 : Int32)) F.1 F.2.1 dX19_leastSums_58 (by decide) ?_
  refine lv_icmp_eq (tgt := 165) F.1 F.2.1 dX19_leastSums_59 (by decide) (fun c1 => ?_) (fun c1 => ?_)
  · replace h := zi_t c1 h
    exact bX19_leastSums_165 hst F hA E hK41 x0 x1 x2 hx0 hx1 hr (lv_sub hl [0, 1, 2] rfl) h
  · replace h := zi_f c1 h
    refine lv_iload F.1 F.2.1 dX19_leastSums_62 (lv_at hl 4 rfl) ?_
    refine lv_aload_n F.1 F.2.1 dX19_leastSums_64 rfl (lv_at hl 0 rfl) ?_
    refine lv_iload_n F.1 F.2.1 dX19_leastSums_65 rfl (lv_at hl 3 rfl) ?_
    refine lv_iconst (v := (3 : Int32)) F.1 F.2.1 dX19_leastSums_66 (by decide) ?_
    replace h := zc_some h
    obtain ⟨r2, z3, hc4, h⟩ := h
    refine zr_calli (zrun_V (As := [.int x3, .int (3 : Int32)]) (rest := [.int x4]) zq_2828 zq_2830 zs_X19_ad zq_2831 zq_4 hdX19_ad (by decide) (T := TX19) (N := 32) rfl (okX19_ad l D cy B ids hst N x0 hx0 x3  (3 : Int32)  hr.2.2 hc4) F hr hx0 hl.1 rfl (Nat.le_of_ble_eq_true rfl) dX19_leastSums_67 rfl rfl hroX19_leastSums_X19_ad ⟨Nat.zero_le _, Nat.zero_le _⟩) F hA hr (fun H locs hw5 hr => ?_)
    clear hc4
    refine lv_icmp_ge (tgt := 165) F.1 F.2.1 dX19_leastSums_70 (by decide) (fun c6 => ?_) (fun c6 => ?_)
    · replace h := zi_t c6 h
      exact bX19_leastSums_165 hst F hA E hK41 x0 x1 x2 hx0 hx1 hr (lv_sub hl [0, 1, 2] rfl) h
    · replace h := zi_f c6 h
      refine lv_aload_n F.1 F.2.1 dX19_leastSums_73 rfl (lv_at hl 0 rfl) ?_
      refine lv_iload_n F.1 F.2.1 dX19_leastSums_74 rfl (lv_at hl 3 rfl) ?_
      refine lv_iload F.1 F.2.1 dX19_leastSums_75 (lv_at hl 4 rfl) ?_
      refine lv_iconst (v := (0 : Int32)) F.1 F.2.1 dX19_leastSums_77 (by decide) ?_
      replace h := zc_some h
      obtain ⟨r7, z8, hc9, h⟩ := h
      refine zr_calli (zrun_V (As := [.int x3, .int x4, .int (0 : Int32)]) (rest := []) zq_2904 zq_2906 zs_X19_friendRow zq_2907 zq_4 hdX19_friendRow (by decide) (T := TX19) (N := 32) rfl (okX19_friendRow l D cy B ids hst N x0 hx0 x3  x4  (0 : Int32)  hr.2.2 hc9) F hr hx0 hl.1 rfl (by decide) dX19_leastSums_78 rfl rfl hroX19_leastSums_X19_friendRow ⟨Nat.zero_le _, Nat.zero_le _⟩) F hA hr (fun H locs hw10 hr => ?_)
      clear hc9
      refine lv_istore (lv' := [(5, .int r7), (0, .ref (B 19 x0)), (1, .ref (B 12 x1)), (2, .int x2), (3, .int x3), (4, .int x4)]) F.1 F.2.1 dX19_leastSums_81 hl (by decide) rfl (fun ls hl => ?_)
      refine lv_aload_n F.1 F.2.1 dX19_leastSums_83 rfl (lv_at hl 1 rfl) ?_
      refine lv_iload_n F.1 F.2.1 dX19_leastSums_84 rfl (lv_at hl 4 rfl) ?_
      refine lv_iload F.1 F.2.1 dX19_leastSums_85 (lv_at hl 5 rfl) ?_
      refine lv_iconst (v := (2 : Int32)) F.1 F.2.1 dX19_leastSums_87 (by decide) ?_
      replace h := zc_some h
      obtain ⟨r11, z12, hc13, h⟩ := h
      refine zr_calli (zrun_V (As := [.int x3, .int x4, .int (2 : Int32)]) (rest := []) zq_2904 zq_2906 zs_X19_friendRow zq_2907 zq_4 hdX19_friendRow (by decide) (T := TX19) (N := 32) rfl (okX19_friendRow l D cy B ids hst N x0 hx0 x3  x4  (2 : Int32)  hr.2.2 hc13) F hr hx0 hl.1 rfl (by decide) dX19_leastSums_88 rfl rfl hroX19_leastSums_X19_friendRow ⟨Nat.zero_le _, Nat.zero_le _⟩) F hA hr (fun H locs hw14 hr => ?_)
      clear hc13
      refine lv_istore (lv' := [(6, .int r11), (5, .int r7), (0, .ref (B 19 x0)), (1, .ref (B 12 x1)), (2, .int x2), (3, .int x3), (4, .int x4)]) F.1 F.2.1 dX19_leastSums_91 hl (by decide) rfl (fun ls hl => ?_)
      refine lv_aload_n F.1 F.2.1 dX19_leastSums_93 rfl (lv_at hl 3 rfl) ?_
      refine gf19_448 F hx1 hr dX19_leastSums_94 ?_
      refine lv_iload F.1 F.2.1 dX19_leastSums_97 (lv_at hl 1 rfl) ?_
      replace h := zk_some h
      obtain ⟨c15, h⟩ := h
      refine zr_iald (k := 150) (by decide) rfl (by decide) F (zal_a F hx1 (j := 14) rfl) hr dX19_leastSums_99 c15 ?_
      refine lv_iconst (v := (-1 : Int32)) F.1 F.2.1 dX19_leastSums_100 (by decide) ?_
      refine lv_icmp_eq (tgt := 159) F.1 F.2.1 dX19_leastSums_101 (by decide) (fun c16 => ?_) (fun c16 => ?_)
      · replace h := zi_t c16 h
        exact bX19_leastSums_159 hst F hA E hK41 hK57 x0 x1 x2 x3 x4 hx0 hx1 hr (lv_sub hl [2, 3, 4, 5, 6] rfl) h
      · replace h := zi_f c16 h
        refine lv_aload_n F.1 F.2.1 dX19_leastSums_104 rfl (lv_at hl 2 rfl) ?_
        refine lv_aload_n F.1 F.2.1 dX19_leastSums_105 rfl (lv_at hl 3 rfl) ?_
        refine gf19_448 F hx1 hr dX19_leastSums_106 ?_
        refine lv_iload F.1 F.2.1 dX19_leastSums_109 (lv_at hl 1 rfl) ?_
        replace h := zk_some h
        obtain ⟨c17, h⟩ := h
        refine zr_iald (k := 150) (by decide) rfl (by decide) F (zal_a F hx1 (j := 14) rfl) hr dX19_leastSums_111 c17 ?_
        refine lv_iload_n F.1 F.2.1 dX19_leastSums_112 rfl (lv_at hl 4 rfl) ?_
        refine lv_aload_n F.1 F.2.1 dX19_leastSums_113 rfl (lv_at hl 2 rfl) ?_
        refine lv_iload_n F.1 F.2.1 dX19_leastSums_114 rfl (lv_at hl 5 rfl) ?_
        refine lv_iload F.1 F.2.1 dX19_leastSums_115 (lv_at hl 6 rfl) ?_
        refine lv_iconst (v := (1 : Int32)) F.1 F.2.1 dX19_leastSums_117 (by decide) ?_
        replace h := zc_some h
        obtain ⟨r18, z19, hc20, h⟩ := h
        refine zr_calli (zrun_V (As := [.int x3, .int x4, .int (1 : Int32)]) (rest := [.int x2, .int (zgA z12 150 x1 (Int32.toNatClampNeg r7)), .ref (B 19 x0)]) zq_2904 zq_2906 zs_X19_friendRow zq_2907 zq_4 hdX19_friendRow (by decide) (T := TX19) (N := 32) rfl (okX19_friendRow l D cy B ids hst N x0 hx0 x3  x4  (1 : Int32)  hr.2.2 hc20) F hr hx0 hl.1 rfl (Nat.le_of_ble_eq_true rfl) dX19_leastSums_118 rfl rfl hroX19_leastSums_X19_friendRow ⟨Nat.zero_le _, Nat.zero_le _⟩) F hA hr (fun H locs hw21 hr => ?_)
        clear hc20
        replace h := zc_some h
        obtain ⟨r22, z23, hc24, h⟩ := h
        refine zr_calli (zrun_V (As := [.int (zgA z12 150 x1 (Int32.toNatClampNeg r7)), .int x2, .int r18]) (rest := []) zq_2912 zq_2914 zs_X19_costTo zq_2915 zq_4 hdX19_costTo (by decide) (T := TX19) (N := 32) rfl (okX19_costTo l D cy B ids hst N x0 hx0 (zgA z12 150 x1 (Int32.toNatClampNeg r7))  x2  r18  hr.2.2 hc24) F hr hx0 hl.1 rfl (by decide) dX19_leastSums_121 rfl rfl hroX19_leastSums_X19_costTo ⟨Nat.zero_le _, Nat.zero_le _⟩) F hA hr (fun H locs hw25 hr => ?_)
        clear hc24
        refine lv_iconst (v := (-1 : Int32)) F.1 F.2.1 dX19_leastSums_124 (by decide) ?_
        refine lv_icmp_eq (tgt := 159) F.1 F.2.1 dX19_leastSums_125 (by decide) (fun c26 => ?_) (fun c26 => ?_)
        · replace h := zi_t c26 h
          exact bX19_leastSums_159 hst F hA E hK41 hK57 x0 x1 x2 x3 x4 hx0 hx1 hr (lv_sub hl [2, 3, 4, 5, 6] rfl) h
        · replace h := zi_f c26 h
          refine lv_iload F.1 F.2.1 dX19_leastSums_128 (lv_at hl 0 rfl) ?_
          refine lv_aload_n F.1 F.2.1 dX19_leastSums_130 rfl (lv_at hl 2 rfl) ?_
          refine gf19_130 F hx0 hr dX19_leastSums_131 ?_
          refine lv_bipush (v := (16 : Int32)) F.1 F.2.1 dX19_leastSums_134 (by decide) ?_
          refine lv_iload_n F.1 F.2.1 dX19_leastSums_136 rfl (lv_at hl 4 rfl) ?_
          refine lv_imul F.1 F.2.1 dX19_leastSums_137 ?_
          refine lv_iload F.1 F.2.1 dX19_leastSums_138 (lv_at hl 1 rfl) ?_
          refine lv_iadd F.1 F.2.1 dX19_leastSums_140 ?_
          replace h := zk_some h
          obtain ⟨c27, h⟩ := h
          refine zr_iald (k := 190) (by decide) rfl (by decide) F (zal_a F hx0 (j := 29) rfl) hr dX19_leastSums_141 c27 ?_
          refine lv_icmp_ge (tgt := 159) F.1 F.2.1 dX19_leastSums_142 (by decide) (fun c28 => ?_) (fun c28 => ?_)
          · replace h := zi_t c28 h
            exact bX19_leastSums_159 hst F hA E hK41 hK57 x0 x1 x2 x3 x4 hx0 hx1 hr (lv_sub hl [2, 3, 4, 5, 6] rfl) h
          · replace h := zi_f c28 h
            refine lv_aload_n F.1 F.2.1 dX19_leastSums_145 rfl (lv_at hl 2 rfl) ?_
            refine gf19_130 F hx0 hr dX19_leastSums_146 ?_
            refine lv_bipush (v := (16 : Int32)) F.1 F.2.1 dX19_leastSums_149 (by decide) ?_
            refine lv_iload_n F.1 F.2.1 dX19_leastSums_151 rfl (lv_at hl 4 rfl) ?_
            refine lv_imul F.1 F.2.1 dX19_leastSums_152 ?_
            refine lv_iload F.1 F.2.1 dX19_leastSums_153 (lv_at hl 1 rfl) ?_
            refine lv_iadd F.1 F.2.1 dX19_leastSums_155 ?_
            refine lv_iload F.1 F.2.1 dX19_leastSums_156 (lv_at hl 0 rfl) ?_
            replace h := zk_some h
            obtain ⟨c29, h⟩ := h
            refine zr_iast (k := 190) (by decide) rfl (by decide) F (zal_a F hx0 (j := 29) rfl) hr dX19_leastSums_158 c29 (fun H locs z30 ez30 hr => ?_)
            replace h := zl_sub ez30 h
            clear ez30
            exact bX19_leastSums_159 hst F hA E hK41 hK57 x0 x1 x2 x3 x4 hx0 hx1 hr (lv_sub hl [2, 3, 4, 5, 6] rfl) h
theorem lX19_leastSums_57 (hst : zSt B ids) (F : zFx p m c cX19_leastSums 7 s args RX19 D cy B ids A) (hA : ∀ q : Nat, s.heap.size ≤ q → A q) {r : Int32} {z' : St} (E : zEnd p l e rmX19_leastSums s m args below meth c cX19_leastSums D cy B ids A Q none z' .return_ True) {N : Nat} {K41 : Nat → Nat → Int32 → St → Option (Int32 × St)} (hK41 : ∀ (x0 : Nat) (x1 : Nat) (x2 : Int32) (hx0 : (19, x0) ∈ ids) (hx1 : (12, x1) ∈ ids) {z : St} {H : Heap} {locs : List Loc} {ls : Array Slot} (hr : zRep D cy B ids A s.heap z H locs) (hl : lv_has ls 7 [(0, .ref (B 19 x0)), (1, .ref (B 12 x1)), (2, .int x2)]), K41 x0 x1 x2 z = some (r, z') → W p l e rmX19_leastSums s m args below meth c H locs 0 0 Q (F0 m 41 ls [])) : ∀ (n : Nat) (x0 : Nat) (x1 : Nat) (x2 : Int32) (x3 : Int32) (x4 : Int32) (hx0 : (19, x0) ∈ ids) (hx1 : (12, x1) ∈ ids) {z : St} {H : Heap} {locs : List Loc} {ls : Array Slot} (hr : zRep D cy B ids A s.heap z H locs) (hl : lv_has ls 7 [(0, .ref (B 19 x0)), (1, .ref (B 12 x1)), (2, .int x2), (3, .int x3), (4, .int x4)]), fX19_leastSums_57 N K41 n x0 x1 x2 x3 x4 z = some (r, z') → W p l e rmX19_leastSums s m args below meth c H locs 0 0 Q (F0 m 57 ls []) := by
  intro n
  induction n with
  | zero => intro x0 x1 x2 x3 x4 hx0 hx1 z H locs ls hr hl h; cases h
  | succ n ih => intro x0 x1 x2 x3 x4 hx0 hx1 z H locs ls hr hl h; exact bX19_leastSums_57 hst F hA E hK41 ih x0 x1 x2 x3 x4 hx0 hx1 hr hl h
def fX19_leastSums_268 (N : Nat) (K173 : Nat → Int32 → St → Option (Int32 × St)) (K181 : Nat → Int32 → Int32 → St → Option (Int32 × St)) (K190 : Nat → Int32 → Int32 → Int32 → St → Option (Int32 × St)) (x0 : Nat) (x2 : Int32) (x3 : Int32) (x4 : Int32) (s0 : Nat) (s1 : Int32) (s2 : Int32) (z : St) : Option (Int32 × St) := zk s1 256 <| zl (zsA z 190 s0 (Int32.toNatClampNeg s1) s2) fun z2 => zl (x4 + 1) fun v3 => K190 x0 x2 x3 v3 z2
set_option maxHeartbeats 4000000 in
set_option maxRecDepth 100000 in
theorem bX19_leastSums_268 (hst : zSt B ids) (F : zFx p m c cX19_leastSums 7 s args RX19 D cy B ids A) (hA : ∀ q : Nat, s.heap.size ≤ q → A q) {r : Int32} {z' : St} (E : zEnd p l e rmX19_leastSums s m args below meth c cX19_leastSums D cy B ids A Q none z' .return_ True) {N : Nat} {K173 : Nat → Int32 → St → Option (Int32 × St)} {K181 : Nat → Int32 → Int32 → St → Option (Int32 × St)} {K190 : Nat → Int32 → Int32 → Int32 → St → Option (Int32 × St)} (hK173 : ∀ (x0 : Nat) (x2 : Int32) (hx0 : (19, x0) ∈ ids) {z : St} {H : Heap} {locs : List Loc} {ls : Array Slot} (hr : zRep D cy B ids A s.heap z H locs) (hl : lv_has ls 7 [(0, .ref (B 19 x0)), (2, .int x2)]), K173 x0 x2 z = some (r, z') → W p l e rmX19_leastSums s m args below meth c H locs 0 0 Q (F0 m 173 ls [])) (hK181 : ∀ (x0 : Nat) (x2 : Int32) (x3 : Int32) (hx0 : (19, x0) ∈ ids) {z : St} {H : Heap} {locs : List Loc} {ls : Array Slot} (hr : zRep D cy B ids A s.heap z H locs) (hl : lv_has ls 7 [(0, .ref (B 19 x0)), (2, .int x2), (3, .int x3)]), K181 x0 x2 x3 z = some (r, z') → W p l e rmX19_leastSums s m args below meth c H locs 0 0 Q (F0 m 181 ls [])) (hK190 : ∀ (x0 : Nat) (x2 : Int32) (x3 : Int32) (x4 : Int32) (hx0 : (19, x0) ∈ ids) {z : St} {H : Heap} {locs : List Loc} {ls : Array Slot} (hr : zRep D cy B ids A s.heap z H locs) (hl : lv_has ls 7 [(0, .ref (B 19 x0)), (2, .int x2), (3, .int x3), (4, .int x4)]), K190 x0 x2 x3 x4 z = some (r, z') → W p l e rmX19_leastSums s m args below meth c H locs 0 0 Q (F0 m 190 ls [])) (x0 : Nat) (x2 : Int32) (x3 : Int32) (x4 : Int32) (s0 : Nat) (s1 : Int32) (s2 : Int32) (hx0 : (19, x0) ∈ ids) (hs0 : (190, s0) ∈ ids) {z : St} {H : Heap} {locs : List Loc} {ls : Array Slot} (hr : zRep D cy B ids A s.heap z H locs) (hl : lv_has ls 7 [(0, .ref (B 19 x0)), (2, .int x2), (3, .int x3), (4, .int x4)]) (h : fX19_leastSums_268 N K173 K181 K190 x0 x2 x3 x4 s0 s1 s2 z = some (r, z')) : W p l e rmX19_leastSums s m args below meth c H locs 0 0 Q (F0 m 268 ls [.int s2, .int s1, .ref (B 190 s0)]) := by
  unfold fX19_leastSums_268 at h
  replace h := zk_some h
  obtain ⟨c1, h⟩ := h
  refine zr_iast (k := 190) (by decide) rfl (by decide) F hs0 hr dX19_leastSums_268 c1 (fun H locs z2 ez2 hr => ?_)
  replace h := zl_sub ez2 h
  clear ez2
  obtain ⟨v3, ev3⟩ : ∃ y : Int32, y = (x4 + 1) := ⟨_, rfl⟩
  replace h := zl_sub ev3 h
  refine lv_iinc (v := v3) (lv' := [(4, .int v3), (0, .ref (B 19 x0)), (2, .int x2), (3, .int x3)]) F.1 F.2.1 dX19_leastSums_269 hl (k := 3) rfl (by rw [ev3]; rfl) (by decide) rfl (fun ls hl => ?_)
  refine lv_goto (tgt := 190) F.1 F.2.1 dX19_leastSums_272 (by decide) ?_
  exact hK190 x0 x2 x3 v3 hx0 hr (lv_sub hl [1, 2, 3, 0] rfl) h
def fX19_leastSums_190b (N : Nat) (K173 : Nat → Int32 → St → Option (Int32 × St)) (K181 : Nat → Int32 → Int32 → St → Option (Int32 × St)) (K190 : Nat → Int32 → Int32 → Int32 → St → Option (Int32 × St)) (x0 : Nat) (x2 : Int32) (x3 : Int32) (x4 : Int32) (z : St) : Option (Int32 × St) := if (16 : Int32) ≤ x4 then (zl (x3 + 1) fun v2 => K181 x0 x2 v2 z) else (zk (((16 : Int32) * x3) + x2) 256 <| zk (((16 : Int32) * x2) + x4) 256 <| zl ((zgA z 190 x0 (Int32.toNatClampNeg (((16 : Int32) * x3) + x2))) + (zgA z 190 x0 (Int32.toNatClampNeg (((16 : Int32) * x2) + x4)))) fun v5 => zk (((16 : Int32) * x3) + x4) 256 <| if (zgA z 190 x0 (Int32.toNatClampNeg (((16 : Int32) * x3) + x4))) ≤ v5 then (zk (((16 : Int32) * x3) + x4) 256 <| fX19_leastSums_268 N K173 K181 K190 x0 x2 x3 x4 x0 (((16 : Int32) * x3) + x4) (zgA z 190 x0 (Int32.toNatClampNeg (((16 : Int32) * x3) + x4))) z) else (fX19_leastSums_268 N K173 K181 K190 x0 x2 x3 x4 x0 (((16 : Int32) * x3) + x4) v5 z))
def fX19_leastSums_190 (N : Nat) (K173 : Nat → Int32 → St → Option (Int32 × St)) (K181 : Nat → Int32 → Int32 → St → Option (Int32 × St)) : Nat → Nat → Int32 → Int32 → Int32 → St → Option (Int32 × St)
  | 0 => fun _ _ _ _ _ => none
  | n + 1 => fX19_leastSums_190b N K173 K181 (fX19_leastSums_190 N K173 K181 n)
set_option maxHeartbeats 4000000 in
set_option maxRecDepth 100000 in
theorem bX19_leastSums_190 (hst : zSt B ids) (F : zFx p m c cX19_leastSums 7 s args RX19 D cy B ids A) (hA : ∀ q : Nat, s.heap.size ≤ q → A q) {r : Int32} {z' : St} (E : zEnd p l e rmX19_leastSums s m args below meth c cX19_leastSums D cy B ids A Q none z' .return_ True) {N : Nat} {K173 : Nat → Int32 → St → Option (Int32 × St)} {K181 : Nat → Int32 → Int32 → St → Option (Int32 × St)} {K190 : Nat → Int32 → Int32 → Int32 → St → Option (Int32 × St)} (hK173 : ∀ (x0 : Nat) (x2 : Int32) (hx0 : (19, x0) ∈ ids) {z : St} {H : Heap} {locs : List Loc} {ls : Array Slot} (hr : zRep D cy B ids A s.heap z H locs) (hl : lv_has ls 7 [(0, .ref (B 19 x0)), (2, .int x2)]), K173 x0 x2 z = some (r, z') → W p l e rmX19_leastSums s m args below meth c H locs 0 0 Q (F0 m 173 ls [])) (hK181 : ∀ (x0 : Nat) (x2 : Int32) (x3 : Int32) (hx0 : (19, x0) ∈ ids) {z : St} {H : Heap} {locs : List Loc} {ls : Array Slot} (hr : zRep D cy B ids A s.heap z H locs) (hl : lv_has ls 7 [(0, .ref (B 19 x0)), (2, .int x2), (3, .int x3)]), K181 x0 x2 x3 z = some (r, z') → W p l e rmX19_leastSums s m args below meth c H locs 0 0 Q (F0 m 181 ls [])) (hK190 : ∀ (x0 : Nat) (x2 : Int32) (x3 : Int32) (x4 : Int32) (hx0 : (19, x0) ∈ ids) {z : St} {H : Heap} {locs : List Loc} {ls : Array Slot} (hr : zRep D cy B ids A s.heap z H locs) (hl : lv_has ls 7 [(0, .ref (B 19 x0)), (2, .int x2), (3, .int x3), (4, .int x4)]), K190 x0 x2 x3 x4 z = some (r, z') → W p l e rmX19_leastSums s m args below meth c H locs 0 0 Q (F0 m 190 ls [])) (x0 : Nat) (x2 : Int32) (x3 : Int32) (x4 : Int32) (hx0 : (19, x0) ∈ ids) {z : St} {H : Heap} {locs : List Loc} {ls : Array Slot} (hr : zRep D cy B ids A s.heap z H locs) (hl : lv_has ls 7 [(0, .ref (B 19 x0)), (2, .int x2), (3, .int x3), (4, .int x4)]) (h : fX19_leastSums_190b N K173 K181 K190 x0 x2 x3 x4 z = some (r, z')) : W p l e rmX19_leastSums s m args below meth c H locs 0 0 Q (F0 m 190 ls []) := by
  unfold fX19_leastSums_190b at h
  refine lv_iload F.1 F.2.1 dX19_leastSums_190 (lv_at hl 3 rfl) ?_
  refine lv_bipush (v := (16 : Int32)) F.1 F.2.1 dX19_leastSums_192 (by decide) ?_
  refine lv_icmp_ge (tgt := 275) F.1 F.2.1 dX19_leastSums_194 (by decide) (fun c1 => ?_) (fun c1 => ?_)
  · replace h := zi_t c1 h
    obtain ⟨v2, ev2⟩ : ∃ y : Int32, y = (x3 + 1) := ⟨_, rfl⟩
    replace h := zl_sub ev2 h
    refine lv_iinc (v := v2) (lv' := [(3, .int v2), (0, .ref (B 19 x0)), (2, .int x2), (4, .int x4)]) F.1 F.2.1 dX19_leastSums_275 hl (k := 2) rfl (by rw [ev2]; rfl) (by decide) rfl (fun ls hl => ?_)
    refine lv_goto (tgt := 181) F.1 F.2.1 dX19_leastSums_278 (by decide) ?_
    exact hK181 x0 x2 v2 hx0 hr (lv_sub hl [1, 2, 0] rfl) h
  · replace h := zi_f c1 h
    refine lv_aload_n F.1 F.2.1 dX19_leastSums_197 rfl (lv_at hl 0 rfl) ?_
    refine gf19_130 F hx0 hr dX19_leastSums_198 ?_
    refine lv_bipush (v := (16 : Int32)) F.1 F.2.1 dX19_leastSums_201 (by decide) ?_
    refine lv_iload_n F.1 F.2.1 dX19_leastSums_203 rfl (lv_at hl 2 rfl) ?_
    refine lv_imul F.1 F.2.1 dX19_leastSums_204 ?_
    refine lv_iload_n F.1 F.2.1 dX19_leastSums_205 rfl (lv_at hl 1 rfl) ?_
    refine lv_iadd F.1 F.2.1 dX19_leastSums_206 ?_
    replace h := zk_some h
    obtain ⟨c3, h⟩ := h
    refine zr_iald (k := 190) (by decide) rfl (by decide) F (zal_a F hx0 (j := 29) rfl) hr dX19_leastSums_207 c3 ?_
    refine lv_aload_n F.1 F.2.1 dX19_leastSums_208 rfl (lv_at hl 0 rfl) ?_
    refine gf19_130 F hx0 hr dX19_leastSums_209 ?_
    refine lv_bipush (v := (16 : Int32)) F.1 F.2.1 dX19_leastSums_212 (by decide) ?_
    refine lv_iload_n F.1 F.2.1 dX19_leastSums_214 rfl (lv_at hl 1 rfl) ?_
    refine lv_imul F.1 F.2.1 dX19_leastSums_215 ?_
    refine lv_iload F.1 F.2.1 dX19_leastSums_216 (lv_at hl 3 rfl) ?_
    refine lv_iadd F.1 F.2.1 dX19_leastSums_218 ?_
    replace h := zk_some h
    obtain ⟨c4, h⟩ := h
    refine zr_iald (k := 190) (by decide) rfl (by decide) F (zal_a F hx0 (j := 29) rfl) hr dX19_leastSums_219 c4 ?_
    refine lv_iadd F.1 F.2.1 dX19_leastSums_220 ?_
    refine lv_topi (fun v5 ev5 => ?_)
    replace h := zl_sub ev5 h
    refine lv_istore (lv' := [(5, .int v5), (0, .ref (B 19 x0)), (2, .int x2), (3, .int x3), (4, .int x4)]) F.1 F.2.1 dX19_leastSums_221 hl (by decide) rfl (fun ls hl => ?_)
    refine lv_aload_n F.1 F.2.1 dX19_leastSums_223 rfl (lv_at hl 1 rfl) ?_
    refine gf19_130 F hx0 hr dX19_leastSums_224 ?_
    refine lv_bipush (v := (16 : Int32)) F.1 F.2.1 dX19_leastSums_227 (by decide) ?_
    refine lv_iload_n F.1 F.2.1 dX19_leastSums_229 rfl (lv_at hl 3 rfl) ?_
    refine lv_imul F.1 F.2.1 dX19_leastSums_230 ?_
    refine lv_iload F.1 F.2.1 dX19_leastSums_231 (lv_at hl 4 rfl) ?_
    refine lv_iadd F.1 F.2.1 dX19_leastSums_233 ?_
    refine lv_iload F.1 F.2.1 dX19_leastSums_234 (lv_at hl 0 rfl) ?_
    refine lv_aload_n F.1 F.2.1 dX19_leastSums_236 rfl (lv_at hl 1 rfl) ?_
    refine gf19_130 F hx0 hr dX19_leastSums_237 ?_
    refine lv_bipush (v := (16 : Int32)) F.1 F.2.1 dX19_leastSums_240 (by decide) ?_
    refine lv_iload_n F.1 F.2.1 dX19_leastSums_242 rfl (lv_at hl 3 rfl) ?_
    refine lv_imul F.1 F.2.1 dX19_leastSums_243 ?_
    refine lv_iload F.1 F.2.1 dX19_leastSums_244 (lv_at hl 4 rfl) ?_
    refine lv_iadd F.1 F.2.1 dX19_leastSums_246 ?_
    replace h := zk_some h
    obtain ⟨c6, h⟩ := h
    refine zr_iald (k := 190) (by decide) rfl (by decide) F (zal_a F hx0 (j := 29) rfl) hr dX19_leastSums_247 c6 ?_
    refine lv_icmp_ge (tgt := 256) F.1 F.2.1 dX19_leastSums_248 (by decide) (fun c7 => ?_) (fun c7 => ?_)
    · replace h := zi_t c7 h
      refine lv_aload_n F.1 F.2.1 dX19_leastSums_256 rfl (lv_at hl 1 rfl) ?_
      refine gf19_130 F hx0 hr dX19_leastSums_257 ?_
      refine lv_bipush (v := (16 : Int32)) F.1 F.2.1 dX19_leastSums_260 (by decide) ?_
      refine lv_iload_n F.1 F.2.1 dX19_leastSums_262 rfl (lv_at hl 3 rfl) ?_
      refine lv_imul F.1 F.2.1 dX19_leastSums_263 ?_
      refine lv_iload F.1 F.2.1 dX19_leastSums_264 (lv_at hl 4 rfl) ?_
      refine lv_iadd F.1 F.2.1 dX19_leastSums_266 ?_
      replace h := zk_some h
      obtain ⟨c8, h⟩ := h
      refine zr_iald (k := 190) (by decide) rfl (by decide) F (zal_a F hx0 (j := 29) rfl) hr dX19_leastSums_267 c8 ?_
      exact bX19_leastSums_268 hst F hA E hK173 hK181 hK190 x0 x2 x3 x4 x0 (((16 : Int32) * x3) + x4) (zgA z 190 x0 (Int32.toNatClampNeg (((16 : Int32) * x3) + x4))) hx0 (zal_a F hx0 (j := 29) rfl) hr (lv_sub hl [1, 2, 3, 4] rfl) h
    · replace h := zi_f c7 h
      refine lv_iload F.1 F.2.1 dX19_leastSums_251 (lv_at hl 0 rfl) ?_
      refine lv_goto (tgt := 268) F.1 F.2.1 dX19_leastSums_253 (by decide) ?_
      exact bX19_leastSums_268 hst F hA E hK173 hK181 hK190 x0 x2 x3 x4 x0 (((16 : Int32) * x3) + x4) v5 hx0 (zal_a F hx0 (j := 29) rfl) hr (lv_sub hl [1, 2, 3, 4] rfl) h
theorem lX19_leastSums_190 (hst : zSt B ids) (F : zFx p m c cX19_leastSums 7 s args RX19 D cy B ids A) (hA : ∀ q : Nat, s.heap.size ≤ q → A q) {r : Int32} {z' : St} (E : zEnd p l e rmX19_leastSums s m args below meth c cX19_leastSums D cy B ids A Q none z' .return_ True) {N : Nat} {K173 : Nat → Int32 → St → Option (Int32 × St)} {K181 : Nat → Int32 → Int32 → St → Option (Int32 × St)} (hK173 : ∀ (x0 : Nat) (x2 : Int32) (hx0 : (19, x0) ∈ ids) {z : St} {H : Heap} {locs : List Loc} {ls : Array Slot} (hr : zRep D cy B ids A s.heap z H locs) (hl : lv_has ls 7 [(0, .ref (B 19 x0)), (2, .int x2)]), K173 x0 x2 z = some (r, z') → W p l e rmX19_leastSums s m args below meth c H locs 0 0 Q (F0 m 173 ls [])) (hK181 : ∀ (x0 : Nat) (x2 : Int32) (x3 : Int32) (hx0 : (19, x0) ∈ ids) {z : St} {H : Heap} {locs : List Loc} {ls : Array Slot} (hr : zRep D cy B ids A s.heap z H locs) (hl : lv_has ls 7 [(0, .ref (B 19 x0)), (2, .int x2), (3, .int x3)]), K181 x0 x2 x3 z = some (r, z') → W p l e rmX19_leastSums s m args below meth c H locs 0 0 Q (F0 m 181 ls [])) : ∀ (n : Nat) (x0 : Nat) (x2 : Int32) (x3 : Int32) (x4 : Int32) (hx0 : (19, x0) ∈ ids) {z : St} {H : Heap} {locs : List Loc} {ls : Array Slot} (hr : zRep D cy B ids A s.heap z H locs) (hl : lv_has ls 7 [(0, .ref (B 19 x0)), (2, .int x2), (3, .int x3), (4, .int x4)]), fX19_leastSums_190 N K173 K181 n x0 x2 x3 x4 z = some (r, z') → W p l e rmX19_leastSums s m args below meth c H locs 0 0 Q (F0 m 190 ls []) := by
  intro n
  induction n with
  | zero => intro x0 x2 x3 x4 hx0 z H locs ls hr hl h; cases h
  | succ n ih => intro x0 x2 x3 x4 hx0 z H locs ls hr hl h; exact bX19_leastSums_190 hst F hA E hK173 hK181 ih x0 x2 x3 x4 hx0 hr hl h
def fX19_leastSums_181b (N : Nat) (K173 : Nat → Int32 → St → Option (Int32 × St)) (K181 : Nat → Int32 → Int32 → St → Option (Int32 × St)) (x0 : Nat) (x2 : Int32) (x3 : Int32) (z : St) : Option (Int32 × St) := if (16 : Int32) ≤ x3 then (zl (x2 + 1) fun v2 => K173 x0 v2 z) else (fX19_leastSums_190 N K173 K181 N x0 x2 x3 (0 : Int32) z)
def fX19_leastSums_181 (N : Nat) (K173 : Nat → Int32 → St → Option (Int32 × St)) : Nat → Nat → Int32 → Int32 → St → Option (Int32 × St)
  | 0 => fun _ _ _ _ => none
  | n + 1 => fX19_leastSums_181b N K173 (fX19_leastSums_181 N K173 n)
set_option maxHeartbeats 4000000 in
set_option maxRecDepth 100000 in
theorem bX19_leastSums_181 (hst : zSt B ids) (F : zFx p m c cX19_leastSums 7 s args RX19 D cy B ids A) (hA : ∀ q : Nat, s.heap.size ≤ q → A q) {r : Int32} {z' : St} (E : zEnd p l e rmX19_leastSums s m args below meth c cX19_leastSums D cy B ids A Q none z' .return_ True) {N : Nat} {K173 : Nat → Int32 → St → Option (Int32 × St)} {K181 : Nat → Int32 → Int32 → St → Option (Int32 × St)} (hK173 : ∀ (x0 : Nat) (x2 : Int32) (hx0 : (19, x0) ∈ ids) {z : St} {H : Heap} {locs : List Loc} {ls : Array Slot} (hr : zRep D cy B ids A s.heap z H locs) (hl : lv_has ls 7 [(0, .ref (B 19 x0)), (2, .int x2)]), K173 x0 x2 z = some (r, z') → W p l e rmX19_leastSums s m args below meth c H locs 0 0 Q (F0 m 173 ls [])) (hK181 : ∀ (x0 : Nat) (x2 : Int32) (x3 : Int32) (hx0 : (19, x0) ∈ ids) {z : St} {H : Heap} {locs : List Loc} {ls : Array Slot} (hr : zRep D cy B ids A s.heap z H locs) (hl : lv_has ls 7 [(0, .ref (B 19 x0)), (2, .int x2), (3, .int x3)]), K181 x0 x2 x3 z = some (r, z') → W p l e rmX19_leastSums s m args below meth c H locs 0 0 Q (F0 m 181 ls [])) (x0 : Nat) (x2 : Int32) (x3 : Int32) (hx0 : (19, x0) ∈ ids) {z : St} {H : Heap} {locs : List Loc} {ls : Array Slot} (hr : zRep D cy B ids A s.heap z H locs) (hl : lv_has ls 7 [(0, .ref (B 19 x0)), (2, .int x2), (3, .int x3)]) (h : fX19_leastSums_181b N K173 K181 x0 x2 x3 z = some (r, z')) : W p l e rmX19_leastSums s m args below meth c H locs 0 0 Q (F0 m 181 ls []) := by
  unfold fX19_leastSums_181b at h
  refine lv_iload_n F.1 F.2.1 dX19_leastSums_181 rfl (lv_at hl 2 rfl) ?_
  refine lv_bipush (v := (16 : Int32)) F.1 F.2.1 dX19_leastSums_182 (by decide) ?_
  refine lv_icmp_ge (tgt := 281) F.1 F.2.1 dX19_leastSums_184 (by decide) (fun c1 => ?_) (fun c1 => ?_)
  · replace h := zi_t c1 h
    obtain ⟨v2, ev2⟩ : ∃ y : Int32, y = (x2 + 1) := ⟨_, rfl⟩
    replace h := zl_sub ev2 h
    refine lv_iinc (v := v2) (lv' := [(2, .int v2), (0, .ref (B 19 x0)), (3, .int x3)]) F.1 F.2.1 dX19_leastSums_281 hl (k := 1) rfl (by rw [ev2]; rfl) (by decide) rfl (fun ls hl => ?_)
    refine lv_goto (tgt := 173) F.1 F.2.1 dX19_leastSums_284 (by decide) ?_
    exact hK173 x0 v2 hx0 hr (lv_sub hl [1, 0] rfl) h
  · replace h := zi_f c1 h
    refine lv_iconst (v := (0 : Int32)) F.1 F.2.1 dX19_leastSums_187 (by decide) ?_
    refine lv_istore (lv' := [(4, .int (0 : Int32)), (0, .ref (B 19 x0)), (2, .int x2), (3, .int x3)]) F.1 F.2.1 dX19_leastSums_188 hl (by decide) rfl (fun ls hl => ?_)
    exact lX19_leastSums_190 hst F hA E hK173 hK181 _ x0 x2 x3 (0 : Int32) hx0 hr (lv_sub hl [1, 2, 3, 0] rfl) h
theorem lX19_leastSums_181 (hst : zSt B ids) (F : zFx p m c cX19_leastSums 7 s args RX19 D cy B ids A) (hA : ∀ q : Nat, s.heap.size ≤ q → A q) {r : Int32} {z' : St} (E : zEnd p l e rmX19_leastSums s m args below meth c cX19_leastSums D cy B ids A Q none z' .return_ True) {N : Nat} {K173 : Nat → Int32 → St → Option (Int32 × St)} (hK173 : ∀ (x0 : Nat) (x2 : Int32) (hx0 : (19, x0) ∈ ids) {z : St} {H : Heap} {locs : List Loc} {ls : Array Slot} (hr : zRep D cy B ids A s.heap z H locs) (hl : lv_has ls 7 [(0, .ref (B 19 x0)), (2, .int x2)]), K173 x0 x2 z = some (r, z') → W p l e rmX19_leastSums s m args below meth c H locs 0 0 Q (F0 m 173 ls [])) : ∀ (n : Nat) (x0 : Nat) (x2 : Int32) (x3 : Int32) (hx0 : (19, x0) ∈ ids) {z : St} {H : Heap} {locs : List Loc} {ls : Array Slot} (hr : zRep D cy B ids A s.heap z H locs) (hl : lv_has ls 7 [(0, .ref (B 19 x0)), (2, .int x2), (3, .int x3)]), fX19_leastSums_181 N K173 n x0 x2 x3 z = some (r, z') → W p l e rmX19_leastSums s m args below meth c H locs 0 0 Q (F0 m 181 ls []) := by
  intro n
  induction n with
  | zero => intro x0 x2 x3 hx0 z H locs ls hr hl h; cases h
  | succ n ih => intro x0 x2 x3 hx0 z H locs ls hr hl h; exact bX19_leastSums_181 hst F hA E hK173 ih x0 x2 x3 hx0 hr hl h
def fX19_leastSums_173b (N : Nat) (K173 : Nat → Int32 → St → Option (Int32 × St)) (x0 : Nat) (x2 : Int32) (z : St) : Option (Int32 × St) := if (16 : Int32) ≤ x2 then (some (0, z)) else (fX19_leastSums_181 N K173 N x0 x2 (0 : Int32) z)
def fX19_leastSums_173 (N : Nat)  : Nat → Nat → Int32 → St → Option (Int32 × St)
  | 0 => fun _ _ _ => none
  | n + 1 => fX19_leastSums_173b N (fX19_leastSums_173 N  n)
set_option maxHeartbeats 4000000 in
set_option maxRecDepth 100000 in
theorem bX19_leastSums_173 (hst : zSt B ids) (F : zFx p m c cX19_leastSums 7 s args RX19 D cy B ids A) (hA : ∀ q : Nat, s.heap.size ≤ q → A q) {r : Int32} {z' : St} (E : zEnd p l e rmX19_leastSums s m args below meth c cX19_leastSums D cy B ids A Q none z' .return_ True) {N : Nat} {K173 : Nat → Int32 → St → Option (Int32 × St)} (hK173 : ∀ (x0 : Nat) (x2 : Int32) (hx0 : (19, x0) ∈ ids) {z : St} {H : Heap} {locs : List Loc} {ls : Array Slot} (hr : zRep D cy B ids A s.heap z H locs) (hl : lv_has ls 7 [(0, .ref (B 19 x0)), (2, .int x2)]), K173 x0 x2 z = some (r, z') → W p l e rmX19_leastSums s m args below meth c H locs 0 0 Q (F0 m 173 ls [])) (x0 : Nat) (x2 : Int32) (hx0 : (19, x0) ∈ ids) {z : St} {H : Heap} {locs : List Loc} {ls : Array Slot} (hr : zRep D cy B ids A s.heap z H locs) (hl : lv_has ls 7 [(0, .ref (B 19 x0)), (2, .int x2)]) (h : fX19_leastSums_173b N K173 x0 x2 z = some (r, z')) : W p l e rmX19_leastSums s m args below meth c H locs 0 0 Q (F0 m 173 ls []) := by
  unfold fX19_leastSums_173b at h
  refine lv_iload_n F.1 F.2.1 dX19_leastSums_173 rfl (lv_at hl 1 rfl) ?_
  refine lv_bipush (v := (16 : Int32)) F.1 F.2.1 dX19_leastSums_174 (by decide) ?_
  refine lv_icmp_ge (tgt := 287) F.1 F.2.1 dX19_leastSums_176 (by decide) (fun c1 => ?_) (fun c1 => ?_)
  · replace h := zi_t c1 h
    obtain ⟨rfl, rfl⟩ := zret h
    exact E _ _ _ _ dX19_leastSums_287 trivial hr
  · replace h := zi_f c1 h
    refine lv_iconst (v := (0 : Int32)) F.1 F.2.1 dX19_leastSums_179 (by decide) ?_
    refine lv_istore_n (lv' := [(3, .int (0 : Int32)), (0, .ref (B 19 x0)), (2, .int x2)]) F.1 F.2.1 dX19_leastSums_180 rfl hl (by decide) rfl (fun ls hl => ?_)
    exact lX19_leastSums_181 hst F hA E hK173 _ x0 x2 (0 : Int32) hx0 hr (lv_sub hl [1, 2, 0] rfl) h
theorem lX19_leastSums_173 (hst : zSt B ids) (F : zFx p m c cX19_leastSums 7 s args RX19 D cy B ids A) (hA : ∀ q : Nat, s.heap.size ≤ q → A q) {r : Int32} {z' : St} (E : zEnd p l e rmX19_leastSums s m args below meth c cX19_leastSums D cy B ids A Q none z' .return_ True) {N : Nat}  : ∀ (n : Nat) (x0 : Nat) (x2 : Int32) (hx0 : (19, x0) ∈ ids) {z : St} {H : Heap} {locs : List Loc} {ls : Array Slot} (hr : zRep D cy B ids A s.heap z H locs) (hl : lv_has ls 7 [(0, .ref (B 19 x0)), (2, .int x2)]), fX19_leastSums_173 N  n x0 x2 z = some (r, z') → W p l e rmX19_leastSums s m args below meth c H locs 0 0 Q (F0 m 173 ls []) := by
  intro n
  induction n with
  | zero => intro x0 x2 hx0 z H locs ls hr hl h; cases h
  | succ n ih => intro x0 x2 hx0 z H locs ls hr hl h; exact bX19_leastSums_173 hst F hA E ih x0 x2 hx0 hr hl h
def fX19_leastSums_41b (N : Nat) (K41 : Nat → Nat → Int32 → St → Option (Int32 × St)) (x0 : Nat) (x1 : Nat) (x2 : Int32) (z : St) : Option (Int32 × St) := if (16 : Int32) ≤ x2 then (fX19_leastSums_173 N N x0 (0 : Int32) z) else (zk x2 16 <| zl (zgA z 150 x1 (Int32.toNatClampNeg x2)) fun v3 => fX19_leastSums_57 N K41 N x0 x1 x2 v3 (0 : Int32) z)
def fX19_leastSums_41 (N : Nat)  : Nat → Nat → Nat → Int32 → St → Option (Int32 × St)
  | 0 => fun _ _ _ _ => none
  | n + 1 => fX19_leastSums_41b N (fX19_leastSums_41 N  n)
set_option maxHeartbeats 4000000 in
set_option maxRecDepth 100000 in
theorem bX19_leastSums_41 (hst : zSt B ids) (F : zFx p m c cX19_leastSums 7 s args RX19 D cy B ids A) (hA : ∀ q : Nat, s.heap.size ≤ q → A q) {r : Int32} {z' : St} (E : zEnd p l e rmX19_leastSums s m args below meth c cX19_leastSums D cy B ids A Q none z' .return_ True) {N : Nat} {K41 : Nat → Nat → Int32 → St → Option (Int32 × St)} (hK41 : ∀ (x0 : Nat) (x1 : Nat) (x2 : Int32) (hx0 : (19, x0) ∈ ids) (hx1 : (12, x1) ∈ ids) {z : St} {H : Heap} {locs : List Loc} {ls : Array Slot} (hr : zRep D cy B ids A s.heap z H locs) (hl : lv_has ls 7 [(0, .ref (B 19 x0)), (1, .ref (B 12 x1)), (2, .int x2)]), K41 x0 x1 x2 z = some (r, z') → W p l e rmX19_leastSums s m args below meth c H locs 0 0 Q (F0 m 41 ls [])) (x0 : Nat) (x1 : Nat) (x2 : Int32) (hx0 : (19, x0) ∈ ids) (hx1 : (12, x1) ∈ ids) {z : St} {H : Heap} {locs : List Loc} {ls : Array Slot} (hr : zRep D cy B ids A s.heap z H locs) (hl : lv_has ls 7 [(0, .ref (B 19 x0)), (1, .ref (B 12 x1)), (2, .int x2)]) (h : fX19_leastSums_41b N K41 x0 x1 x2 z = some (r, z')) : W p l e rmX19_leastSums s m args below meth c H locs 0 0 Q (F0 m 41 ls []) := by
  unfold fX19_leastSums_41b at h
  refine lv_iload_n F.1 F.2.1 dX19_leastSums_41 rfl (lv_at hl 2 rfl) ?_
  refine lv_bipush (v := (16 : Int32)) F.1 F.2.1 dX19_leastSums_42 (by decide) ?_
  refine lv_icmp_ge (tgt := 171) F.1 F.2.1 dX19_leastSums_44 (by decide) (fun c1 => ?_) (fun c1 => ?_)
  · replace h := zi_t c1 h
    refine lv_iconst (v := (0 : Int32)) F.1 F.2.1 dX19_leastSums_171 (by decide) ?_
    refine lv_istore_n (lv' := [(2, .int (0 : Int32)), (0, .ref (B 19 x0)), (1, .ref (B 12 x1))]) F.1 F.2.1 dX19_leastSums_172 rfl hl (by decide) rfl (fun ls hl => ?_)
    exact lX19_leastSums_173 hst F hA E  _ x0 (0 : Int32) hx0 hr (lv_sub hl [1, 0] rfl) h
  · replace h := zi_f c1 h
    refine lv_aload_n F.1 F.2.1 dX19_leastSums_47 rfl (lv_at hl 1 rfl) ?_
    refine gf19_448 F hx1 hr dX19_leastSums_48 ?_
    refine lv_iload_n F.1 F.2.1 dX19_leastSums_51 rfl (lv_at hl 2 rfl) ?_
    replace h := zk_some h
    obtain ⟨c2, h⟩ := h
    refine zr_iald (k := 150) (by decide) rfl (by decide) F (zal_a F hx1 (j := 14) rfl) hr dX19_leastSums_52 c2 ?_
    refine lv_topi (fun v3 ev3 => ?_)
    replace h := zl_sub ev3 h
    refine lv_istore_n (lv' := [(3, .int v3), (0, .ref (B 19 x0)), (1, .ref (B 12 x1)), (2, .int x2)]) F.1 F.2.1 dX19_leastSums_53 rfl hl (by decide) rfl (fun ls hl => ?_)
    refine lv_iconst (v := (0 : Int32)) F.1 F.2.1 dX19_leastSums_54 (by decide) ?_
    refine lv_istore (lv' := [(4, .int (0 : Int32)), (3, .int v3), (0, .ref (B 19 x0)), (1, .ref (B 12 x1)), (2, .int x2)]) F.1 F.2.1 dX19_leastSums_55 hl (by decide) rfl (fun ls hl => ?_)
    exact lX19_leastSums_57 hst F hA E hK41 _ x0 x1 x2 v3 (0 : Int32) hx0 hx1 hr (lv_sub hl [2, 3, 4, 1, 0] rfl) h
theorem lX19_leastSums_41 (hst : zSt B ids) (F : zFx p m c cX19_leastSums 7 s args RX19 D cy B ids A) (hA : ∀ q : Nat, s.heap.size ≤ q → A q) {r : Int32} {z' : St} (E : zEnd p l e rmX19_leastSums s m args below meth c cX19_leastSums D cy B ids A Q none z' .return_ True) {N : Nat}  : ∀ (n : Nat) (x0 : Nat) (x1 : Nat) (x2 : Int32) (hx0 : (19, x0) ∈ ids) (hx1 : (12, x1) ∈ ids) {z : St} {H : Heap} {locs : List Loc} {ls : Array Slot} (hr : zRep D cy B ids A s.heap z H locs) (hl : lv_has ls 7 [(0, .ref (B 19 x0)), (1, .ref (B 12 x1)), (2, .int x2)]), fX19_leastSums_41 N  n x0 x1 x2 z = some (r, z') → W p l e rmX19_leastSums s m args below meth c H locs 0 0 Q (F0 m 41 ls []) := by
  intro n
  induction n with
  | zero => intro x0 x1 x2 hx0 hx1 z H locs ls hr hl h; cases h
  | succ n ih => intro x0 x1 x2 hx0 hx1 z H locs ls hr hl h; exact bX19_leastSums_41 hst F hA E ih x0 x1 x2 hx0 hx1 hr hl h
def fX19_leastSums_2b (N : Nat) (K2 : Nat → Nat → Int32 → St → Option (Int32 × St)) (x0 : Nat) (x1 : Nat) (x2 : Int32) (z : St) : Option (Int32 × St) := if (256 : Int32) ≤ x2 then (fX19_leastSums_41 N N x0 x1 (0 : Int32) z) else (if ¬ (x2 / (16 : Int32)) = (x2 - x2 / (16 : Int32) * (16 : Int32)) then (fX19_leastSums_32 N K2 x0 x1 x2 x0 x2 (1000000000 : Int32) z) else (fX19_leastSums_32 N K2 x0 x1 x2 x0 x2 (0 : Int32) z))
def fX19_leastSums_2 (N : Nat)  : Nat → Nat → Nat → Int32 → St → Option (Int32 × St)
  | 0 => fun _ _ _ _ => none
  | n + 1 => fX19_leastSums_2b N (fX19_leastSums_2 N  n)
set_option maxHeartbeats 4000000 in
set_option maxRecDepth 100000 in
theorem bX19_leastSums_2 (hst : zSt B ids) (F : zFx p m c cX19_leastSums 7 s args RX19 D cy B ids A) (hA : ∀ q : Nat, s.heap.size ≤ q → A q) {r : Int32} {z' : St} (E : zEnd p l e rmX19_leastSums s m args below meth c cX19_leastSums D cy B ids A Q none z' .return_ True) {N : Nat} {K2 : Nat → Nat → Int32 → St → Option (Int32 × St)} (hK2 : ∀ (x0 : Nat) (x1 : Nat) (x2 : Int32) (hx0 : (19, x0) ∈ ids) (hx1 : (12, x1) ∈ ids) {z : St} {H : Heap} {locs : List Loc} {ls : Array Slot} (hr : zRep D cy B ids A s.heap z H locs) (hl : lv_has ls 7 [(0, .ref (B 19 x0)), (1, .ref (B 12 x1)), (2, .int x2)]), K2 x0 x1 x2 z = some (r, z') → W p l e rmX19_leastSums s m args below meth c H locs 0 0 Q (F0 m 2 ls [])) (x0 : Nat) (x1 : Nat) (x2 : Int32) (hx0 : (19, x0) ∈ ids) (hx1 : (12, x1) ∈ ids) {z : St} {H : Heap} {locs : List Loc} {ls : Array Slot} (hr : zRep D cy B ids A s.heap z H locs) (hl : lv_has ls 7 [(0, .ref (B 19 x0)), (1, .ref (B 12 x1)), (2, .int x2)]) (h : fX19_leastSums_2b N K2 x0 x1 x2 z = some (r, z')) : W p l e rmX19_leastSums s m args below meth c H locs 0 0 Q (F0 m 2 ls []) := by
  unfold fX19_leastSums_2b at h
  refine lv_iload_n F.1 F.2.1 dX19_leastSums_2 rfl (lv_at hl 2 rfl) ?_
  refine lv_sipush (v := (256 : Int32)) F.1 F.2.1 dX19_leastSums_3 (by decide) ?_
  refine lv_icmp_ge (tgt := 39) F.1 F.2.1 dX19_leastSums_6 (by decide) (fun c1 => ?_) (fun c1 => ?_)
  · replace h := zi_t c1 h
    refine lv_iconst (v := (0 : Int32)) F.1 F.2.1 dX19_leastSums_39 (by decide) ?_
    refine lv_istore_n (lv' := [(2, .int (0 : Int32)), (0, .ref (B 19 x0)), (1, .ref (B 12 x1))]) F.1 F.2.1 dX19_leastSums_40 rfl hl (by decide) rfl (fun ls hl => ?_)
    exact lX19_leastSums_41 hst F hA E  _ x0 x1 (0 : Int32) hx0 hx1 hr (lv_sub hl [1, 2, 0] rfl) h
  · replace h := zi_f c1 h
    refine lv_aload_n F.1 F.2.1 dX19_leastSums_9 rfl (lv_at hl 0 rfl) ?_
    refine gf19_130 F hx0 hr dX19_leastSums_10 ?_
    refine lv_iload_n F.1 F.2.1 dX19_leastSums_13 rfl (lv_at hl 2 rfl) ?_
    refine lv_iload_n F.1 F.2.1 dX19_leastSums_14 rfl (lv_at hl 2 rfl) ?_
    refine lv_bipush (v := (16 : Int32)) F.1 F.2.1 dX19_leastSums_15 (by decide) ?_
    refine lv_idiv F.1 F.2.1 dX19_leastSums_17 (by decide) ?_
    refine lv_iload_n F.1 F.2.1 dX19_leastSums_18 rfl (lv_at hl 2 rfl) ?_
    refine lv_bipush (v := (16 : Int32)) F.1 F.2.1 dX19_leastSums_19 (by decide) ?_
    refine lv_irem F.1 F.2.1 dX19_leastSums_21 (by decide) ?_
    refine lv_icmp_ne (tgt := 29) F.1 F.2.1 dX19_leastSums_22 (by decide) (fun c2 => ?_) (fun c2 => ?_)
    · replace h := zi_t c2 h
      refine lv_ldcw (v := (1000000000)) F.1 F.2.1 F.2.2.2.1 (F.2.2.2.2.1 _ zq_2903) dX19_leastSums_29 ?_
      exact bX19_leastSums_32 hst F hA E hK2 x0 x1 x2 x0 x2 (1000000000 : Int32) hx0 hx1 (zal_a F hx0 (j := 29) rfl) hr (lv_sub hl [0, 1, 2] rfl) h
    · replace h := zi_f (fun q => q c2) h
      refine lv_iconst (v := (0 : Int32)) F.1 F.2.1 dX19_leastSums_25 (by decide) ?_
      refine lv_goto (tgt := 32) F.1 F.2.1 dX19_leastSums_26 (by decide) ?_
      exact bX19_leastSums_32 hst F hA E hK2 x0 x1 x2 x0 x2 (0 : Int32) hx0 hx1 (zal_a F hx0 (j := 29) rfl) hr (lv_sub hl [0, 1, 2] rfl) h
theorem lX19_leastSums_2 (hst : zSt B ids) (F : zFx p m c cX19_leastSums 7 s args RX19 D cy B ids A) (hA : ∀ q : Nat, s.heap.size ≤ q → A q) {r : Int32} {z' : St} (E : zEnd p l e rmX19_leastSums s m args below meth c cX19_leastSums D cy B ids A Q none z' .return_ True) {N : Nat}  : ∀ (n : Nat) (x0 : Nat) (x1 : Nat) (x2 : Int32) (hx0 : (19, x0) ∈ ids) (hx1 : (12, x1) ∈ ids) {z : St} {H : Heap} {locs : List Loc} {ls : Array Slot} (hr : zRep D cy B ids A s.heap z H locs) (hl : lv_has ls 7 [(0, .ref (B 19 x0)), (1, .ref (B 12 x1)), (2, .int x2)]), fX19_leastSums_2 N  n x0 x1 x2 z = some (r, z') → W p l e rmX19_leastSums s m args below meth c H locs 0 0 Q (F0 m 2 ls []) := by
  intro n
  induction n with
  | zero => intro x0 x1 x2 hx0 hx1 z H locs ls hr hl h; cases h
  | succ n ih => intro x0 x1 x2 hx0 hx1 z H locs ls hr hl h; exact bX19_leastSums_2 hst F hA E ih x0 x1 x2 hx0 hx1 hr hl h
def fX19_leastSums (N : Nat)  (x0 : Nat) (x1 : Nat) (z : St) : Option (Int32 × St) := fX19_leastSums_2 N N x0 x1 (0 : Int32) z
set_option maxHeartbeats 4000000 in
set_option maxRecDepth 100000 in
theorem bX19_leastSums_0 (hst : zSt B ids) (F : zFx p m c cX19_leastSums 7 s args RX19 D cy B ids A) (hA : ∀ q : Nat, s.heap.size ≤ q → A q) {r : Int32} {z' : St} (E : zEnd p l e rmX19_leastSums s m args below meth c cX19_leastSums D cy B ids A Q none z' .return_ True) {N : Nat}  (x0 : Nat) (x1 : Nat) (hx0 : (19, x0) ∈ ids) (hx1 : (12, x1) ∈ ids) {z : St} {H : Heap} {locs : List Loc} {ls : Array Slot} (hr : zRep D cy B ids A s.heap z H locs) (hl : lv_has ls 7 [(0, .ref (B 19 x0)), (1, .ref (B 12 x1))]) (h : fX19_leastSums N x0 x1 z = some (r, z')) : W p l e rmX19_leastSums s m args below meth c H locs 0 0 Q (F0 m 0 ls []) := by
  unfold fX19_leastSums at h
  refine lv_iconst (v := (0 : Int32)) F.1 F.2.1 dX19_leastSums_0 (by decide) ?_
  refine lv_istore_n (lv' := [(2, .int (0 : Int32)), (0, .ref (B 19 x0)), (1, .ref (B 12 x1))]) F.1 F.2.1 dX19_leastSums_1 rfl hl (by decide) rfl (fun ls hl => ?_)
  exact lX19_leastSums_2 hst F hA E  _ x0 x1 (0 : Int32) hx0 hx1 hr (lv_sub hl [1, 2, 0] rfl) h
end SX19_leastSums
set_option maxRecDepth 100000 in
theorem okX19_leastSums (l : Launch) (D : va_G) (cy : Nat → ClassId) (B : Nat → Nat → Nat) (ids : List (Nat × Nat)) (hst : zSt B ids) (N : Nat) (x0 : Nat) (hx0 : (19, x0) ∈ ids) (x1 : Nat) (hx1 : (12, x1) ∈ ids) {z : St} {r : Int32} {z' : St} (hW : zWf ids z) (h : fX19_leastSums N x0 x1 z = some (r, z')) : zM l yX19_leastSums (zws yX19_leastSums cX19_leastSums 7 none) rmX19_leastSums D cy B ids [.ref (B 19 x0), .ref (B 12 x1)] none True z z' :=
  zM_of hst hW (by decide +kernel) (Nat.le_of_ble_eq_true rfl) (fun p e s m args below meth c A ls F hA hret hlocks hr hl => bX19_leastSums_0 hst F hA (zEnd_v F hret hlocks) x0 x1 hx0 hx1 hr hl h)
