abbrev rmX19_comeBack_L2 : Room := { frames := 9, cells := 0, slots := 0, locals := 234 }
theorem hdX19_comeBack_L2 : yX19_comeBack.cls ≠ "java/lang/invoke/MethodHandle" ∧ yX19_comeBack.cls ≠ "java/lang/invoke/VarHandle" ∧ (parseMethodDescriptor yX19_comeBack.desc).map (fun d => d.parameters.length) = some 2 := by decide +kernel
theorem hroX19_comeBack_L2_X18_address : rmX18_address.frames + 1 ≤ rmX19_comeBack_L2.frames ∧ 8 + (1 + 11) + rmX18_address.locals ≤ rmX19_comeBack_L2.locals := by decide
theorem hroX19_comeBack_L2_X19_act : rmX19_act.frames + 1 ≤ rmX19_comeBack_L2.frames ∧ 8 + (8 + 11) + rmX19_act.locals ≤ rmX19_comeBack_L2.locals := by decide
theorem hroX19_comeBack_L2_X19_drop : rmX19_drop.frames + 1 ≤ rmX19_comeBack_L2.frames ∧ 8 + (2 + 11) + rmX19_drop.locals ≤ rmX19_comeBack_L2.locals := by decide
theorem hroX19_comeBack_L2_X19_hostSends_L2 : rmX19_hostSends_L2.frames + 1 ≤ rmX19_comeBack_L2.frames ∧ 8 + (6 + 11) + rmX19_hostSends_L2.locals ≤ rmX19_comeBack_L2.locals := by decide
theorem hroX19_comeBack_L2_X19_isOwn : rmX19_isOwn.frames + 1 ≤ rmX19_comeBack_L2.frames ∧ 8 + (4 + 11) + rmX19_isOwn.locals ≤ rmX19_comeBack_L2.locals := by decide
theorem hroX19_comeBack_L2_X19_make : rmX19_make.frames + 1 ≤ rmX19_comeBack_L2.frames ∧ 8 + (7 + 11) + rmX19_make.locals ≤ rmX19_comeBack_L2.locals := by decide
theorem hroX19_comeBack_L2_X19_of : rmX19_of.frames + 1 ≤ rmX19_comeBack_L2.frames ∧ 8 + (3 + 11) + rmX19_of.locals ≤ rmX19_comeBack_L2.locals := by decide
theorem hroX19_comeBack_L2_X19_routerSends_L2 : rmX19_routerSends_L2.frames + 1 ≤ rmX19_comeBack_L2.frames ∧ 8 + (8 + 11) + rmX19_routerSends_L2.locals ≤ rmX19_comeBack_L2.locals := by decide
theorem hroX19_comeBack_L2_X19_seg : rmX19_seg.frames + 1 ≤ rmX19_comeBack_L2.frames ∧ 8 + (3 + 11) + rmX19_seg.locals ≤ rmX19_comeBack_L2.locals := by decide
theorem hroX19_comeBack_L2_X19_set : rmX19_set.frames + 1 ≤ rmX19_comeBack_L2.frames ∧ 8 + (4 + 11) + rmX19_set.locals ≤ rmX19_comeBack_L2.locals := by decide
section SX19_comeBack_L2
variable {p : Program} {l : Launch} {e : Env} {s : State} {m : MethodId} {args : Array Value} {below : List Frame} {meth : Method} {c : Code} {Q : State → Prop} {D : va_G} {cy : Nat → ClassId} {B : Nat → Nat → Nat} {ids : List (Nat × Nat)} {A : Nat → Prop}
def fX19_comeBack_L2_186 (N : Nat)  (x0 : Nat) (x7 : Int32) (z : St) : Option (Int32 × St) := zc (fX19_drop N x0 x7 z) fun _ z2 => some (0, z2)
set_option maxHeartbeats 4000000 in
set_option maxRecDepth 100000 in
theorem bX19_comeBack_L2_186 (hst : zSt B ids) (F : zFx p m c cX19_comeBack 8 s args RX19 D cy B ids A) (hA : ∀ q : Nat, s.heap.size ≤ q → A q) {r : Int32} {z' : St} (E : zEnd p l e rmX19_comeBack_L2 s m args below meth c cX19_comeBack D cy B ids A Q none z' .return_ True) {N : Nat}  (x0 : Nat) (x7 : Int32) (hx0 : (19, x0) ∈ ids) {z : St} {H : Heap} {locs : List Loc} {ls : Array Slot} (hr : zRep D cy B ids A s.heap z H locs) (hl : lv_has ls 8 [(0, .ref (B 19 x0)), (7, .int x7)]) (h : fX19_comeBack_L2_186 N x0 x7 z = some (r, z')) : W p l e rmX19_comeBack_L2 s m args below meth c H locs 0 0 Q (F0 m 186 ls []) := by
  unfold fX19_comeBack_L2_186 at h
  refine lv_aload_n F.1 F.2.1 dX19_comeBack_186 rfl (lv_at hl 0 rfl) ?_
  refine lv_iload F.1 F.2.1 dX19_comeBack_187 (lv_at hl 1 rfl) ?_
  replace h := zc_some h
  obtain ⟨r1, z2, hc3, h⟩ := h
  refine zr_callv (zrun_V (As := [.int x7]) (rest := []) zq_2545 zq_2547 zs_X19_drop zq_2548 zq_4 hdX19_drop (by decide) (T := TX19) (N := 32) rfl (okX19_drop l D cy B ids hst N x0 hx0 x7  hr.2.2 hc3) F hr hx0 hl.1 rfl (by decide) dX19_comeBack_189 rfl rfl hroX19_comeBack_L2_X19_drop ⟨Nat.zero_le _, Nat.zero_le _⟩) F hA hr (fun H locs hw4 hr => ?_)
  clear hc3
  obtain ⟨rfl, rfl⟩ := zret h
  exact E _ _ _ _ dX19_comeBack_192 trivial hr
def fX19_comeBack_L2 (N : Nat)  (x0 : Nat) (x1 : Nat) (x2 : Int32) (z : St) : Option (Int32 × St) := zc (fX19_of N x0 x2 (2 : Int32) z) fun r1 z2 => if ¬ r1 = (1 : Int32) then (some (0, z2)) else (zc (fX19_of N x0 x2 (6 : Int32) z2) fun r6 z7 => if r6 = 0 then (zc (fX19_of N x0 x2 (0 : Int32) z7) fun r11 z12 => zc (fX19_of N x0 x2 (1 : Int32) z12) fun r15 z16 => zc (fX19_of N x0 x2 (10 : Int32) z16) fun r19 z20 => zc (fX19_seg N x0 r19 (0 : Int32) z20) fun r23 z24 => zc (fX19_of N x0 x2 (10 : Int32) z24) fun r27 z28 => zc (fX19_seg N x0 r27 (1 : Int32) z28) fun r31 z32 => zc (fX19_isOwn N x0 x1 r11 z32) fun r35 z36 => if r35 = 0 then (zc (fX19_of N x0 x2 (9 : Int32) z36) fun r40 z41 => zk r40 6 <| zl (zgQ z41 147 x1 (Int32.toNatClampNeg r40)) fun y45 => zd y45 fun a46 => zc (fX18_address N a46 z41) fun r47 z48 => zc (fX19_make N x0 x1 (0 : Int32) (36 : Int32) r47 r11 z48) fun r51 z52 => zc (fX19_set N x0 r51 (14 : Int32) r11 z52) fun _ z56 => zc (fX19_set N x0 r51 (15 : Int32) r15 z56) fun _ z60 => zc (fX19_set N x0 r51 (16 : Int32) r23 z60) fun _ z64 => zc (fX19_set N x0 r51 (17 : Int32) r31 z64) fun _ z68 => if (zgI z68 12 1 x1) = 0 then (zc (fX19_hostSends_L2 N x0 x1 r51 z68) fun _ z73 => fX19_comeBack_L2_186 N x0 r51 z73) else (zc (fX19_routerSends_L2 N x0 x1 r51 (0 : Int32) z68) fun _ z77 => fX19_comeBack_L2_186 N x0 r51 z77)) else (zl (zsI z36 12 9 x1 ((zgI z36 12 9 x1) + (1 : Int32))) fun z80 => zc (fX19_act N x0 x1 r11 r15 r23 r31 z80) fun _ z82 => some (0, z82))) else (some (0, z7)))
set_option maxHeartbeats 4000000 in
set_option maxRecDepth 100000 in
theorem bX19_comeBack_L2_0 (hst : zSt B ids) (F : zFx p m c cX19_comeBack 8 s args RX19 D cy B ids A) (hA : ∀ q : Nat, s.heap.size ≤ q → A q) {r : Int32} {z' : St} (E : zEnd p l e rmX19_comeBack_L2 s m args below meth c cX19_comeBack D cy B ids A Q none z' .return_ True) {N : Nat}  (x0 : Nat) (x1 : Nat) (x2 : Int32) (hx0 : (19, x0) ∈ ids) (hx1 : (12, x1) ∈ ids) {z : St} {H : Heap} {locs : List Loc} {ls : Array Slot} (hr : zRep D cy B ids A s.heap z H locs) (hl : lv_has ls 8 [(0, .ref (B 19 x0)), (1, .ref (B 12 x1)), (2, .int x2)]) (h : fX19_comeBack_L2 N x0 x1 x2 z = some (r, z')) : W p l e rmX19_comeBack_L2 s m args below meth c H locs 0 0 Q (F0 m 0 ls []) := by
  unfold fX19_comeBack_L2 at h
  refine lv_aload_n F.1 F.2.1 dX19_comeBack_0 rfl (lv_at hl 0 rfl) ?_
  refine lv_iload_n F.1 F.2.1 dX19_comeBack_1 rfl (lv_at hl 2 rfl) ?_
  refine lv_iconst (v := (2 : Int32)) F.1 F.2.1 dX19_comeBack_2 (by decide) ?_
  replace h := zc_some h
  obtain ⟨r1, z2, hc3, h⟩ := h
  refine zr_calli (zrun_V (As := [.int x2, .int (2 : Int32)]) (rest := []) zq_2549 zq_2551 zs_X19_of zq_2552 zq_4 hdX19_of (by decide) (T := TX19) (N := 32) rfl (okX19_of l D cy B ids hst N x0 hx0 x2  (2 : Int32)  hr.2.2 hc3) F hr hx0 hl.1 rfl (by decide) dX19_comeBack_3 rfl rfl hroX19_comeBack_L2_X19_of ⟨Nat.zero_le _, Nat.zero_le _⟩) F hA hr (fun H locs hw4 hr => ?_)
  clear hc3
  refine lv_iconst (v := (1 : Int32)) F.1 F.2.1 dX19_comeBack_6 (by decide) ?_
  refine lv_icmp_ne (tgt := 20) F.1 F.2.1 dX19_comeBack_7 (by decide) (fun c5 => ?_) (fun c5 => ?_)
  · replace h := zi_t c5 h
    obtain ⟨rfl, rfl⟩ := zret h
    exact E _ _ _ _ dX19_comeBack_20 trivial hr
  · replace h := zi_f (fun q => q c5) h
    refine lv_aload_n F.1 F.2.1 dX19_comeBack_10 rfl (lv_at hl 0 rfl) ?_
    refine lv_iload_n F.1 F.2.1 dX19_comeBack_11 rfl (lv_at hl 2 rfl) ?_
    refine lv_bipush (v := (6 : Int32)) F.1 F.2.1 dX19_comeBack_12 (by decide) ?_
    replace h := zc_some h
    obtain ⟨r6, z7, hc8, h⟩ := h
    refine zr_calli (zrun_V (As := [.int x2, .int (6 : Int32)]) (rest := []) zq_2549 zq_2551 zs_X19_of zq_2552 zq_4 hdX19_of (by decide) (T := TX19) (N := 32) rfl (okX19_of l D cy B ids hst N x0 hx0 x2  (6 : Int32)  hr.2.2 hc8) F hr hx0 hl.1 rfl (by decide) dX19_comeBack_14 rfl rfl hroX19_comeBack_L2_X19_of ⟨Nat.zero_le _, Nat.zero_le _⟩) F hA hr (fun H locs hw9 hr => ?_)
    clear hc8
    refine lv_if_eq (tgt := 21) F.1 F.2.1 dX19_comeBack_17 (by decide) (fun c10 => ?_) (fun c10 => ?_)
    · replace h := zi_t c10 h
      refine lv_aload_n F.1 F.2.1 dX19_comeBack_21 rfl (lv_at hl 0 rfl) ?_
      refine lv_iload_n F.1 F.2.1 dX19_comeBack_22 rfl (lv_at hl 2 rfl) ?_
      refine lv_iconst (v := (0 : Int32)) F.1 F.2.1 dX19_comeBack_23 (by decide) ?_
      replace h := zc_some h
      obtain ⟨r11, z12, hc13, h⟩ := h
      refine zr_calli (zrun_V (As := [.int x2, .int (0 : Int32)]) (rest := []) zq_2549 zq_2551 zs_X19_of zq_2552 zq_4 hdX19_of (by decide) (T := TX19) (N := 32) rfl (okX19_of l D cy B ids hst N x0 hx0 x2  (0 : Int32)  hr.2.2 hc13) F hr hx0 hl.1 rfl (by decide) dX19_comeBack_24 rfl rfl hroX19_comeBack_L2_X19_of ⟨Nat.zero_le _, Nat.zero_le _⟩) F hA hr (fun H locs hw14 hr => ?_)
      clear hc13
      refine lv_istore_n (lv' := [(3, .int r11), (0, .ref (B 19 x0)), (1, .ref (B 12 x1)), (2, .int x2)]) F.1 F.2.1 dX19_comeBack_27 rfl hl (by decide) rfl (fun ls hl => ?_)
      refine lv_aload_n F.1 F.2.1 dX19_comeBack_28 rfl (lv_at hl 1 rfl) ?_
      refine lv_iload_n F.1 F.2.1 dX19_comeBack_29 rfl (lv_at hl 3 rfl) ?_
      refine lv_iconst (v := (1 : Int32)) F.1 F.2.1 dX19_comeBack_30 (by decide) ?_
      replace h := zc_some h
      obtain ⟨r15, z16, hc17, h⟩ := h
      refine zr_calli (zrun_V (As := [.int x2, .int (1 : Int32)]) (rest := []) zq_2549 zq_2551 zs_X19_of zq_2552 zq_4 hdX19_of (by decide) (T := TX19) (N := 32) rfl (okX19_of l D cy B ids hst N x0 hx0 x2  (1 : Int32)  hr.2.2 hc17) F hr hx0 hl.1 rfl (by decide) dX19_comeBack_31 rfl rfl hroX19_comeBack_L2_X19_of ⟨Nat.zero_le _, Nat.zero_le _⟩) F hA hr (fun H locs hw18 hr => ?_)
      clear hc17
      refine lv_istore (lv' := [(4, .int r15), (3, .int r11), (0, .ref (B 19 x0)), (1, .ref (B 12 x1)), (2, .int x2)]) F.1 F.2.1 dX19_comeBack_34 hl (by decide) rfl (fun ls hl => ?_)
      refine lv_aload_n F.1 F.2.1 dX19_comeBack_36 rfl (lv_at hl 2 rfl) ?_
      refine lv_aload_n F.1 F.2.1 dX19_comeBack_37 rfl (lv_at hl 2 rfl) ?_
      refine lv_iload_n F.1 F.2.1 dX19_comeBack_38 rfl (lv_at hl 4 rfl) ?_
      refine lv_bipush (v := (10 : Int32)) F.1 F.2.1 dX19_comeBack_39 (by decide) ?_
      replace h := zc_some h
      obtain ⟨r19, z20, hc21, h⟩ := h
      refine zr_calli (zrun_V (As := [.int x2, .int (10 : Int32)]) (rest := [.ref (B 19 x0)]) zq_2549 zq_2551 zs_X19_of zq_2552 zq_4 hdX19_of (by decide) (T := TX19) (N := 32) rfl (okX19_of l D cy B ids hst N x0 hx0 x2  (10 : Int32)  hr.2.2 hc21) F hr hx0 hl.1 rfl (Nat.le_of_ble_eq_true rfl) dX19_comeBack_41 rfl rfl hroX19_comeBack_L2_X19_of ⟨Nat.zero_le _, Nat.zero_le _⟩) F hA hr (fun H locs hw22 hr => ?_)
      clear hc21
      refine lv_iconst (v := (0 : Int32)) F.1 F.2.1 dX19_comeBack_44 (by decide) ?_
      replace h := zc_some h
      obtain ⟨r23, z24, hc25, h⟩ := h
      refine zr_calli (zrun_V (As := [.int r19, .int (0 : Int32)]) (rest := []) zq_2557 zq_2559 zs_X19_seg zq_2560 zq_4 hdX19_seg (by decide) (T := TX19) (N := 32) rfl (okX19_seg l D cy B ids hst N x0 hx0 r19  (0 : Int32)  hr.2.2 hc25) F hr hx0 hl.1 rfl (by decide) dX19_comeBack_45 rfl rfl hroX19_comeBack_L2_X19_seg ⟨Nat.zero_le _, Nat.zero_le _⟩) F hA hr (fun H locs hw26 hr => ?_)
      clear hc25
      refine lv_istore (lv' := [(5, .int r23), (4, .int r15), (3, .int r11), (0, .ref (B 19 x0)), (1, .ref (B 12 x1)), (2, .int x2)]) F.1 F.2.1 dX19_comeBack_48 hl (by decide) rfl (fun ls hl => ?_)
      refine lv_aload_n F.1 F.2.1 dX19_comeBack_50 rfl (lv_at hl 3 rfl) ?_
      refine lv_aload_n F.1 F.2.1 dX19_comeBack_51 rfl (lv_at hl 3 rfl) ?_
      refine lv_iload_n F.1 F.2.1 dX19_comeBack_52 rfl (lv_at hl 5 rfl) ?_
      refine lv_bipush (v := (10 : Int32)) F.1 F.2.1 dX19_comeBack_53 (by decide) ?_
      replace h := zc_some h
      obtain ⟨r27, z28, hc29, h⟩ := h
      refine zr_calli (zrun_V (As := [.int x2, .int (10 : Int32)]) (rest := [.ref (B 19 x0)]) zq_2549 zq_2551 zs_X19_of zq_2552 zq_4 hdX19_of (by decide) (T := TX19) (N := 32) rfl (okX19_of l D cy B ids hst N x0 hx0 x2  (10 : Int32)  hr.2.2 hc29) F hr hx0 hl.1 rfl (Nat.le_of_ble_eq_true rfl) dX19_comeBack_55 rfl rfl hroX19_comeBack_L2_X19_of ⟨Nat.zero_le _, Nat.zero_le _⟩) F hA hr (fun H locs hw30 hr => ?_)
      clear hc29
      refine lv_iconst (v := (1 : Int32)) F.1 F.2.1 dX19_comeBack_58 (by decide) ?_
      replace h := zc_some h
      obtain ⟨r31, z32, hc33, h⟩ := h
      refine zr_calli (zrun_V (As := [.int r27, .int (1 : Int32)]) (rest := []) zq_2557 zq_2559 zs_X19_seg zq_2560 zq_4 hdX19_seg (by decide) (T := TX19) (N := 32) rfl (okX19_seg l D cy B ids hst N x0 hx0 r27  (1 : Int32)  hr.2.2 hc33) F hr hx0 hl.1 rfl (by decide) dX19_comeBack_59 rfl rfl hroX19_comeBack_L2_X19_seg ⟨Nat.zero_le _, Nat.zero_le _⟩) F hA hr (fun H locs hw34 hr => ?_)
      clear hc33
      refine lv_istore (lv' := [(6, .int r31), (5, .int r23), (4, .int r15), (3, .int r11), (0, .ref (B 19 x0)), (1, .ref (B 12 x1)), (2, .int x2)]) F.1 F.2.1 dX19_comeBack_62 hl (by decide) rfl (fun ls hl => ?_)
      refine lv_aload_n F.1 F.2.1 dX19_comeBack_64 rfl (lv_at hl 4 rfl) ?_
      refine lv_aload_n F.1 F.2.1 dX19_comeBack_65 rfl (lv_at hl 5 rfl) ?_
      refine lv_iload_n F.1 F.2.1 dX19_comeBack_66 rfl (lv_at hl 3 rfl) ?_
      replace h := zc_some h
      obtain ⟨r35, z36, hc37, h⟩ := h
      refine zr_calli (zrun_V (As := [.ref (B 12 x1), .int r11]) (rest := []) zq_2627 zq_2629 zs_X19_isOwn zq_2630 zq_4 hdX19_isOwn (by decide) (T := TX19) (N := 32) rfl (okX19_isOwn l D cy B ids hst N x0 hx0 x1 hx1 r11  hr.2.2 hc37) F hr hx0 hl.1 rfl (by decide) dX19_comeBack_67 rfl rfl hroX19_comeBack_L2_X19_isOwn ⟨Nat.zero_le _, Nat.zero_le _⟩) F hA hr (fun H locs hw38 hr => ?_)
      clear hc37
      refine lv_if_eq (tgt := 96) F.1 F.2.1 dX19_comeBack_70 (by decide) (fun c39 => ?_) (fun c39 => ?_)
      · replace h := zi_t c39 h
        refine lv_aload_n F.1 F.2.1 dX19_comeBack_96 rfl (lv_at hl 4 rfl) ?_
        refine lv_aload_n F.1 F.2.1 dX19_comeBack_97 rfl (lv_at hl 5 rfl) ?_
        refine lv_iconst (v := (0 : Int32)) F.1 F.2.1 dX19_comeBack_98 (by decide) ?_
        refine lv_bipush (v := (36 : Int32)) F.1 F.2.1 dX19_comeBack_99 (by decide) ?_
        refine lv_aload_n F.1 F.2.1 dX19_comeBack_101 rfl (lv_at hl 5 rfl) ?_
        refine gf19_276 F hx1 hr dX19_comeBack_102 ?_
        refine lv_aload_n F.1 F.2.1 dX19_comeBack_105 rfl (lv_at hl 4 rfl) ?_
        refine lv_iload_n F.1 F.2.1 dX19_comeBack_106 rfl (lv_at hl 6 rfl) ?_
        refine lv_bipush (v := (9 : Int32)) F.1 F.2.1 dX19_comeBack_107 (by decide) ?_
        replace h := zc_some h
        obtain ⟨r40, z41, hc42, h⟩ := h
        refine zr_calli (zrun_V (As := [.int x2, .int (9 : Int32)]) (rest := [.ref (B 147 x1), .int (36 : Int32), .int (0 : Int32), .ref (B 12 x1), .ref (B 19 x0)]) zq_2549 zq_2551 zs_X19_of zq_2552 zq_4 hdX19_of (by decide) (T := TX19) (N := 32) rfl (okX19_of l D cy B ids hst N x0 hx0 x2  (9 : Int32)  hr.2.2 hc42) F hr hx0 hl.1 rfl (Nat.le_of_ble_eq_true rfl) dX19_comeBack_109 rfl rfl hroX19_comeBack_L2_X19_of ⟨Nat.zero_le _, Nat.zero_le _⟩) F hA hr (fun H locs hw43 hr => ?_)
        clear hc42
        replace h := zk_some h
        obtain ⟨c44, h⟩ := h
        refine zr_aaldv (k := 147) (by decide) rfl rfl (zlen_d (by decide)) F (zal_a F hx1 (j := 2) rfl) hr dX19_comeBack_112 c44 (fun y45 ey45 => ?_)
        replace h := zl_sub ey45 h
        have hy45 := zal_q hr (zal_a F hx1 (j := 2) rfl) rfl ey45
        clear ey45
        replace h := zd_some h
        obtain ⟨a46, rfl, h⟩ := h
        replace h := zc_some h
        obtain ⟨r47, z48, hc49, h⟩ := h
        refine zr_calli (zrun_VN (As := []) (rest := [.int (36 : Int32), .int (0 : Int32), .ref (B 12 x1), .ref (B 19 x0)]) zn_2520 zq_2522 zs_X18_address zq_2523 zq_25 hdX18_address (by decide) (T := TX18) (N := 13) rfl (okX18_address l D cy B ids hst N a46 (hy45 _ rfl) hr.2.2 hc49) F hr (hy45 _ rfl) hl.1 rfl (Nat.le_of_ble_eq_true rfl) dX19_comeBack_113 rfl rfl hroX19_comeBack_L2_X18_address ⟨Nat.zero_le _, Nat.zero_le _⟩) F hA hr (fun H locs hw50 hr => ?_)
        clear hc49
        refine lv_iload_n F.1 F.2.1 dX19_comeBack_116 rfl (lv_at hl 3 rfl) ?_
        replace h := zc_some h
        obtain ⟨r51, z52, hc53, h⟩ := h
        refine zr_calli (zrun_V (As := [.ref (B 12 x1), .int (0 : Int32), .int (36 : Int32), .int r47, .int r11]) (rest := []) zq_2765 zq_2767 zs_X19_make zq_2768 zq_4 hdX19_make (by decide) (T := TX19) (N := 32) rfl (okX19_make l D cy B ids hst N x0 hx0 x1 hx1 (0 : Int32)  (36 : Int32)  r47  r11  hr.2.2 hc53) F hr hx0 hl.1 rfl (by decide) dX19_comeBack_117 rfl rfl hroX19_comeBack_L2_X19_make ⟨Nat.zero_le _, Nat.zero_le _⟩) F hA hr (fun H locs hw54 hr => ?_)
        clear hc53
        refine lv_istore (lv' := [(7, .int r51), (6, .int r31), (5, .int r23), (4, .int r15), (3, .int r11), (0, .ref (B 19 x0)), (1, .ref (B 12 x1)), (2, .int x2)]) F.1 F.2.1 dX19_comeBack_120 hl (by decide) rfl (fun ls hl => ?_)
        refine lv_aload_n F.1 F.2.1 dX19_comeBack_122 rfl (lv_at hl 5 rfl) ?_
        refine lv_iload F.1 F.2.1 dX19_comeBack_123 (lv_at hl 0 rfl) ?_
        refine lv_bipush (v := (14 : Int32)) F.1 F.2.1 dX19_comeBack_125 (by decide) ?_
        refine lv_iload_n F.1 F.2.1 dX19_comeBack_127 rfl (lv_at hl 4 rfl) ?_
        replace h := zc_some h
        obtain ⟨r55, z56, hc57, h⟩ := h
        refine zr_callv (zrun_V (As := [.int r51, .int (14 : Int32), .int r11]) (rest := []) zq_2623 zq_2625 zs_X19_set zq_2626 zq_4 hdX19_set (by decide) (T := TX19) (N := 32) rfl (okX19_set l D cy B ids hst N x0 hx0 r51  (14 : Int32)  r11  hr.2.2 hc57) F hr hx0 hl.1 rfl (by decide) dX19_comeBack_128 rfl rfl hroX19_comeBack_L2_X19_set ⟨Nat.zero_le _, Nat.zero_le _⟩) F hA hr (fun H locs hw58 hr => ?_)
        clear hc57
        refine lv_aload_n F.1 F.2.1 dX19_comeBack_131 rfl (lv_at hl 5 rfl) ?_
        refine lv_iload F.1 F.2.1 dX19_comeBack_132 (lv_at hl 0 rfl) ?_
        refine lv_bipush (v := (15 : Int32)) F.1 F.2.1 dX19_comeBack_134 (by decide) ?_
        refine lv_iload F.1 F.2.1 dX19_comeBack_136 (lv_at hl 3 rfl) ?_
        replace h := zc_some h
        obtain ⟨r59, z60, hc61, h⟩ := h
        refine zr_callv (zrun_V (As := [.int r51, .int (15 : Int32), .int r15]) (rest := []) zq_2623 zq_2625 zs_X19_set zq_2626 zq_4 hdX19_set (by decide) (T := TX19) (N := 32) rfl (okX19_set l D cy B ids hst N x0 hx0 r51  (15 : Int32)  r15  hr.2.2 hc61) F hr hx0 hl.1 rfl (by decide) dX19_comeBack_138 rfl rfl hroX19_comeBack_L2_X19_set ⟨Nat.zero_le _, Nat.zero_le _⟩) F hA hr (fun H locs hw62 hr => ?_)
        clear hc61
        refine lv_aload_n F.1 F.2.1 dX19_comeBack_141 rfl (lv_at hl 5 rfl) ?_
        refine lv_iload F.1 F.2.1 dX19_comeBack_142 (lv_at hl 0 rfl) ?_
        refine lv_bipush (v := (16 : Int32)) F.1 F.2.1 dX19_comeBack_144 (by decide) ?_
        refine lv_iload F.1 F.2.1 dX19_comeBack_146 (lv_at hl 2 rfl) ?_
        replace h := zc_some h
        obtain ⟨r63, z64, hc65, h⟩ := h
        refine zr_callv (zrun_V (As := [.int r51, .int (16 : Int32), .int r23]) (rest := []) zq_2623 zq_2625 zs_X19_set zq_2626 zq_4 hdX19_set (by decide) (T := TX19) (N := 32) rfl (okX19_set l D cy B ids hst N x0 hx0 r51  (16 : Int32)  r23  hr.2.2 hc65) F hr hx0 hl.1 rfl (by decide) dX19_comeBack_148 rfl rfl hroX19_comeBack_L2_X19_set ⟨Nat.zero_le _, Nat.zero_le _⟩) F hA hr (fun H locs hw66 hr => ?_)
        clear hc65
        refine lv_aload_n F.1 F.2.1 dX19_comeBack_151 rfl (lv_at hl 5 rfl) ?_
        refine lv_iload F.1 F.2.1 dX19_comeBack_152 (lv_at hl 0 rfl) ?_
        refine lv_bipush (v := (17 : Int32)) F.1 F.2.1 dX19_comeBack_154 (by decide) ?_
        refine lv_iload F.1 F.2.1 dX19_comeBack_156 (lv_at hl 1 rfl) ?_
        replace h := zc_some h
        obtain ⟨r67, z68, hc69, h⟩ := h
        refine zr_callv (zrun_V (As := [.int r51, .int (17 : Int32), .int r31]) (rest := []) zq_2623 zq_2625 zs_X19_set zq_2626 zq_4 hdX19_set (by decide) (T := TX19) (N := 32) rfl (okX19_set l D cy B ids hst N x0 hx0 r51  (17 : Int32)  r31  hr.2.2 hc69) F hr hx0 hl.1 rfl (by decide) dX19_comeBack_158 rfl rfl hroX19_comeBack_L2_X19_set ⟨Nat.zero_le _, Nat.zero_le _⟩) F hA hr (fun H locs hw70 hr => ?_)
        clear hc69
        refine lv_aload_n F.1 F.2.1 dX19_comeBack_161 rfl (lv_at hl 6 rfl) ?_
        refine gf19_298 F hx1 hr dX19_comeBack_162 ?_
        refine lv_if_eq (tgt := 179) F.1 F.2.1 dX19_comeBack_165 (by decide) (fun c71 => ?_) (fun c71 => ?_)
        · replace h := zi_t c71 h
          refine lv_aload_n F.1 F.2.1 dX19_comeBack_179 rfl (lv_at hl 5 rfl) ?_
          refine lv_aload_n F.1 F.2.1 dX19_comeBack_180 rfl (lv_at hl 6 rfl) ?_
          refine lv_iload F.1 F.2.1 dX19_comeBack_181 (lv_at hl 0 rfl) ?_
          replace h := zc_some h
          obtain ⟨r72, z73, hc74, h⟩ := h
          refine zr_callv (zrun_V (As := [.ref (B 12 x1), .int r51]) (rest := []) zq_2773 zq_2775 zs_X19_hostSends zq_2776 zq_4 hdX19_hostSends_L2 (by decide) (T := TX19) (N := 32) rfl (okX19_hostSends_L2 l D cy B ids hst N x0 hx0 x1 hx1 r51  hr.2.2 hc74) F hr hx0 hl.1 rfl (by decide) dX19_comeBack_183 rfl rfl hroX19_comeBack_L2_X19_hostSends_L2 ⟨Nat.zero_le _, Nat.zero_le _⟩) F hA hr (fun H locs hw75 hr => ?_)
          clear hc74
          exact bX19_comeBack_L2_186 hst F hA E  x0 r51 hx0 hr (lv_sub hl [5, 0] rfl) h
        · replace h := zi_f c71 h
          refine lv_aload_n F.1 F.2.1 dX19_comeBack_168 rfl (lv_at hl 5 rfl) ?_
          refine lv_aload_n F.1 F.2.1 dX19_comeBack_169 rfl (lv_at hl 6 rfl) ?_
          refine lv_iload F.1 F.2.1 dX19_comeBack_170 (lv_at hl 0 rfl) ?_
          refine lv_iconst (v := (0 : Int32)) F.1 F.2.1 dX19_comeBack_172 (by decide) ?_
          replace h := zc_some h
          obtain ⟨r76, z77, hc78, h⟩ := h
          refine zr_callv (zrun_V (As := [.ref (B 12 x1), .int r51, .int (0 : Int32)]) (rest := []) zq_2806 zq_2808 zs_X19_routerSends zq_2809 zq_4 hdX19_routerSends_L2 (by decide) (T := TX19) (N := 32) rfl (okX19_routerSends_L2 l D cy B ids hst N x0 hx0 x1 hx1 r51  (0 : Int32)  hr.2.2 hc78) F hr hx0 hl.1 rfl (by decide) dX19_comeBack_173 rfl rfl hroX19_comeBack_L2_X19_routerSends_L2 ⟨Nat.zero_le _, Nat.zero_le _⟩) F hA hr (fun H locs hw79 hr => ?_)
          clear hc78
          refine lv_goto (tgt := 186) F.1 F.2.1 dX19_comeBack_176 (by decide) ?_
          exact bX19_comeBack_L2_186 hst F hA E  x0 r51 hx0 hr (lv_sub hl [5, 0] rfl) h
      · replace h := zi_f c39 h
        refine lv_aload_n F.1 F.2.1 dX19_comeBack_73 rfl (lv_at hl 5 rfl) ?_
        refine lv_dup F.1 F.2.1 dX19_comeBack_74 rfl ?_
        refine gf19_322 F hx1 hr dX19_comeBack_75 ?_
        refine lv_iconst (v := (1 : Int32)) F.1 F.2.1 dX19_comeBack_78 (by decide) ?_
        refine lv_iadd F.1 F.2.1 dX19_comeBack_79 ?_
        refine pf19_322 F hx1 hr dX19_comeBack_80 ((zgI z36 12 9 x1) + (1 : Int32)) (fun H locs z80 ez80 hr => ?_)
        replace h := zl_sub ez80 h
        clear ez80
        refine lv_aload_n F.1 F.2.1 dX19_comeBack_83 rfl (lv_at hl 4 rfl) ?_
        refine lv_aload_n F.1 F.2.1 dX19_comeBack_84 rfl (lv_at hl 5 rfl) ?_
        refine lv_iload_n F.1 F.2.1 dX19_comeBack_85 rfl (lv_at hl 3 rfl) ?_
        refine lv_iload F.1 F.2.1 dX19_comeBack_86 (lv_at hl 2 rfl) ?_
        refine lv_iload F.1 F.2.1 dX19_comeBack_88 (lv_at hl 1 rfl) ?_
        refine lv_iload F.1 F.2.1 dX19_comeBack_90 (lv_at hl 0 rfl) ?_
        replace h := zc_some h
        obtain ⟨r81, z82, hc83, h⟩ := h
        refine zr_callv (zrun_V (As := [.ref (B 12 x1), .int r11, .int r15, .int r23, .int r31]) (rest := []) zq_2639 zq_2641 zs_X19_act zq_2642 zq_4 hdX19_act (by decide) (T := TX19) (N := 32) rfl (okX19_act l D cy B ids hst N x0 hx0 x1 hx1 r11  r15  r23  r31  hr.2.2 hc83) F hr hx0 hl.1 rfl (by decide) dX19_comeBack_92 rfl rfl hroX19_comeBack_L2_X19_act ⟨Nat.zero_le _, Nat.zero_le _⟩) F hA hr (fun H locs hw84 hr => ?_)
        clear hc83
        obtain ⟨rfl, rfl⟩ := zret h
        exact E _ _ _ _ dX19_comeBack_95 trivial hr
    · replace h := zi_f c10 h
      obtain ⟨rfl, rfl⟩ := zret h
      exact E _ _ _ _ dX19_comeBack_20 trivial hr
end SX19_comeBack_L2
set_option maxRecDepth 100000 in
theorem okX19_comeBack_L2 (l : Launch) (D : va_G) (cy : Nat → ClassId) (B : Nat → Nat → Nat) (ids : List (Nat × Nat)) (hst : zSt B ids) (N : Nat) (x0 : Nat) (hx0 : (19, x0) ∈ ids) (x1 : Nat) (hx1 : (12, x1) ∈ ids) (x2 : Int32) {z : St} {r : Int32} {z' : St} (hW : zWf ids z) (h : fX19_comeBack_L2 N x0 x1 x2 z = some (r, z')) : zM l yX19_comeBack (zws yX19_comeBack cX19_comeBack 8 none) rmX19_comeBack_L2 D cy B ids [.ref (B 19 x0), .ref (B 12 x1), .int x2] none True z z' :=
  zM_of hst hW (by decide +kernel) (Nat.le_of_ble_eq_true rfl) (fun p e s m args below meth c A ls F hA hret hlocks hr hl => bX19_comeBack_L2_0 hst F hA (zEnd_v F hret hlocks) x0 x1 x2 hx0 hx1 hr hl h)
abbrev rmX19_hostSends : Room := { frames := 10, cells := 0, slots := 0, locals := 261 }
theorem hdX19_hostSends : yX19_hostSends.cls ≠ "java/lang/invoke/MethodHandle" ∧ yX19_hostSends.cls ≠ "java/lang/invoke/VarHandle" ∧ (parseMethodDescriptor yX19_hostSends.desc).map (fun d => d.parameters.length) = some 2 := by decide +kernel
theorem hroX19_hostSends_X19_comeBack_L2 : rmX19_comeBack_L2.frames + 1 ≤ rmX19_hostSends.frames ∧ 8 + (8 + 11) + rmX19_comeBack_L2.locals ≤ rmX19_hostSends.locals := by decide
theorem hroX19_hostSends_X19_deliver : rmX19_deliver.frames + 1 ≤ rmX19_hostSends.frames ∧ 8 + (6 + 11) + rmX19_deliver.locals ≤ rmX19_hostSends.locals := by decide
theorem hroX19_hostSends_X19_isAddress : rmX19_isAddress.frames + 1 ≤ rmX19_hostSends.frames ∧ 8 + (3 + 11) + rmX19_isAddress.locals ≤ rmX19_hostSends.locals := by decide
theorem hroX19_hostSends_X19_isOf : rmX19_isOf.frames + 1 ≤ rmX19_hostSends.frames ∧ 8 + (2 + 11) + rmX19_isOf.locals ≤ rmX19_hostSends.locals := by decide
theorem hroX19_hostSends_X19_of : rmX19_of.frames + 1 ≤ rmX19_hostSends.frames ∧ 8 + (3 + 11) + rmX19_of.locals ≤ rmX19_hostSends.locals := by decide
theorem hroX19_hostSends_X19_set : rmX19_set.frames + 1 ≤ rmX19_hostSends.frames ∧ 8 + (4 + 11) + rmX19_set.locals ≤ rmX19_hostSends.locals := by decide
section SX19_hostSends
variable {p : Program} {l : Launch} {e : Env} {s : State} {m : MethodId} {args : Array Value} {below : List Frame} {meth : Method} {c : Code} {Q : State → Prop} {D : va_G} {cy : Nat → ClassId} {B : Nat → Nat → Nat} {ids : List (Nat × Nat)} {A : Nat → Prop}
def fX19_hostSends_82b (N : Nat) (K82 : Nat → Nat → Int32 → Nat → Int32 → St → Option (Int32 × St)) (x0 : Nat) (x1 : Nat) (x2 : Int32) (x3 : Nat) (x5 : Int32) (z : St) : Option (Int32 × St) := zl (zgR z 18 2 x3) fun y1 => zd y1 fun a2 => if (zgI z 16 5 a2) ≤ x5 then (zc (fX19_comeBack_L2 N x0 x1 x2 z) fun _ z5 => some (0, z5)) else (zl (zgR z 18 2 x3) fun y8 => zd y8 fun a9 => zk x5 8 <| zl (zgQ z 164 a9 (Int32.toNatClampNeg x5)) fun y11 => zd y11 fun a12 => zl (zgR z 18 0 a12) fun y13 => zd y13 fun a14 => if (zgI z 12 1 a14) = 0 then (zl (x5 + 1) fun v16 => K82 x0 x1 x2 x3 v16 z) else (zc (fX19_deliver N x0 x3 x5 x2 z) fun _ z18 => some (0, z18)))
def fX19_hostSends_82 (N : Nat)  : Nat → Nat → Nat → Int32 → Nat → Int32 → St → Option (Int32 × St)
  | 0 => fun _ _ _ _ _ _ => none
  | n + 1 => fX19_hostSends_82b N (fX19_hostSends_82 N  n)
set_option maxHeartbeats 4000000 in
set_option maxRecDepth 100000 in
theorem bX19_hostSends_82 (hst : zSt B ids) (F : zFx p m c cX19_hostSends 6 s args RX19 D cy B ids A) (hA : ∀ q : Nat, s.heap.size ≤ q → A q) {r : Int32} {z' : St} (E : zEnd p l e rmX19_hostSends s m args below meth c cX19_hostSends D cy B ids A Q none z' .return_ True) {N : Nat} {K82 : Nat → Nat → Int32 → Nat → Int32 → St → Option (Int32 × St)} (hK82 : ∀ (x0 : Nat) (x1 : Nat) (x2 : Int32) (x3 : Nat) (x5 : Int32) (hx0 : (19, x0) ∈ ids) (hx1 : (12, x1) ∈ ids) (hx3 : (18, x3) ∈ ids) {z : St} {H : Heap} {locs : List Loc} {ls : Array Slot} (hr : zRep D cy B ids A s.heap z H locs) (hl : lv_has ls 6 [(0, .ref (B 19 x0)), (1, .ref (B 12 x1)), (2, .int x2), (3, .ref (B 18 x3)), (5, .int x5)]), K82 x0 x1 x2 x3 x5 z = some (r, z') → W p l e rmX19_hostSends s m args below meth c H locs 0 0 Q (F0 m 82 ls [])) (x0 : Nat) (x1 : Nat) (x2 : Int32) (x3 : Nat) (x5 : Int32) (hx0 : (19, x0) ∈ ids) (hx1 : (12, x1) ∈ ids) (hx3 : (18, x3) ∈ ids) {z : St} {H : Heap} {locs : List Loc} {ls : Array Slot} (hr : zRep D cy B ids A s.heap z H locs) (hl : lv_has ls 6 [(0, .ref (B 19 x0)), (1, .ref (B 12 x1)), (2, .int x2), (3, .ref (B 18 x3)), (5, .int x5)]) (h : fX19_hostSends_82b N K82 x0 x1 x2 x3 x5 z = some (r, z')) : W p l e rmX19_hostSends s m args below meth c H locs 0 0 Q (F0 m 82 ls []) := by
  unfold fX19_hostSends_82b at h
  refine lv_iload F.1 F.2.1 dX19_hostSends_82 (lv_at hl 4 rfl) ?_
  refine lv_aload_n F.1 F.2.1 dX19_hostSends_84 rfl (lv_at hl 3 rfl) ?_
  refine gf19_149 F hx3 hr dX19_hostSends_85 (fun y1 ey1 => ?_)
  replace h := zl_sub ey1 h
  have hy1 := zal_g hr hx3 (j := 2) rfl ey1
  clear ey1
  replace h := zd_some h
  obtain ⟨a2, rfl, h⟩ := h
  refine gf19_292 F (hy1 _ rfl) hr dX19_hostSends_88 ?_
  refine lv_icmp_ge (tgt := 128) F.1 F.2.1 dX19_hostSends_91 (by decide) (fun c3 => ?_) (fun c3 => ?_)
  · replace h := zi_t c3 h
    refine lv_aload_n F.1 F.2.1 dX19_hostSends_128 rfl (lv_at hl 0 rfl) ?_
    refine lv_aload_n F.1 F.2.1 dX19_hostSends_129 rfl (lv_at hl 1 rfl) ?_
    refine lv_iload_n F.1 F.2.1 dX19_hostSends_130 rfl (lv_at hl 2 rfl) ?_
    replace h := zc_some h
    obtain ⟨r4, z5, hc6, h⟩ := h
    refine zr_callv (zrun_V (As := [.ref (B 12 x1), .int x2]) (rest := []) zq_2802 zq_2804 zs_X19_comeBack zq_2805 zq_4 hdX19_comeBack_L2 (by decide) (T := TX19) (N := 32) rfl (okX19_comeBack_L2 l D cy B ids hst N x0 hx0 x1 hx1 x2  hr.2.2 hc6) F hr hx0 hl.1 rfl (by decide) dX19_hostSends_131 rfl rfl hroX19_hostSends_X19_comeBack_L2 ⟨Nat.zero_le _, Nat.zero_le _⟩) F hA hr (fun H locs hw7 hr => ?_)
    clear hc6
    obtain ⟨rfl, rfl⟩ := zret h
    exact E _ _ _ _ dX19_hostSends_134 trivial hr
  · replace h := zi_f c3 h
    refine lv_aload_n F.1 F.2.1 dX19_hostSends_94 rfl (lv_at hl 3 rfl) ?_
    refine gf19_149 F hx3 hr dX19_hostSends_95 (fun y8 ey8 => ?_)
    replace h := zl_sub ey8 h
    have hy8 := zal_g hr hx3 (j := 2) rfl ey8
    clear ey8
    replace h := zd_some h
    obtain ⟨a9, rfl, h⟩ := h
    refine gf19_295 F (hy8 _ rfl) hr dX19_hostSends_98 ?_
    refine lv_iload F.1 F.2.1 dX19_hostSends_101 (lv_at hl 4 rfl) ?_
    replace h := zk_some h
    obtain ⟨c10, h⟩ := h
    refine zr_aaldv (k := 164) (by decide) rfl rfl (zlen_d (by decide)) F (zal_a F (hy8 _ rfl) (j := 4) rfl) hr dX19_hostSends_103 c10 (fun y11 ey11 => ?_)
    replace h := zl_sub ey11 h
    have hy11 := zal_q hr (zal_a F (hy8 _ rfl) (j := 4) rfl) rfl ey11
    clear ey11
    replace h := zd_some h
    obtain ⟨a12, rfl, h⟩ := h
    refine gf19_197 F (hy11 _ rfl) hr dX19_hostSends_104 (fun y13 ey13 => ?_)
    replace h := zl_sub ey13 h
    have hy13 := zal_g hr (hy11 _ rfl) (j := 0) rfl ey13
    clear ey13
    replace h := zd_some h
    obtain ⟨a14, rfl, h⟩ := h
    refine gf19_298 F (hy13 _ rfl) hr dX19_hostSends_107 ?_
    refine lv_if_eq (tgt := 122) F.1 F.2.1 dX19_hostSends_110 (by decide) (fun c15 => ?_) (fun c15 => ?_)
    · replace h := zi_t c15 h
      obtain ⟨v16, ev16⟩ : ∃ y : Int32, y = (x5 + 1) := ⟨_, rfl⟩
      replace h := zl_sub ev16 h
      refine lv_iinc (v := v16) (lv' := [(5, .int v16), (0, .ref (B 19 x0)), (1, .ref (B 12 x1)), (2, .int x2), (3, .ref (B 18 x3))]) F.1 F.2.1 dX19_hostSends_122 hl (k := 4) rfl (by rw [ev16]; rfl) (by decide) rfl (fun ls hl => ?_)
      refine lv_goto (tgt := 82) F.1 F.2.1 dX19_hostSends_125 (by decide) ?_
      exact hK82 x0 x1 x2 x3 v16 hx0 hx1 hx3 hr (lv_sub hl [1, 2, 3, 4, 0] rfl) h
    · replace h := zi_f c15 h
      refine lv_aload_n F.1 F.2.1 dX19_hostSends_113 rfl (lv_at hl 0 rfl) ?_
      refine lv_aload_n F.1 F.2.1 dX19_hostSends_114 rfl (lv_at hl 3 rfl) ?_
      refine lv_iload F.1 F.2.1 dX19_hostSends_115 (lv_at hl 4 rfl) ?_
      refine lv_iload_n F.1 F.2.1 dX19_hostSends_117 rfl (lv_at hl 2 rfl) ?_
      replace h := zc_some h
      obtain ⟨r17, z18, hc19, h⟩ := h
      refine zr_callv (zrun_V (As := [.ref (B 18 x3), .int x5, .int x2]) (rest := []) zq_2785 zq_2787 zs_X19_deliver zq_2788 zq_4 hdX19_deliver (by decide) (T := TX19) (N := 32) rfl (okX19_deliver l D cy B ids hst N x0 hx0 x3 hx3 x5  x2  hr.2.2 hc19) F hr hx0 hl.1 rfl (by decide) dX19_hostSends_118 rfl rfl hroX19_hostSends_X19_deliver ⟨Nat.zero_le _, Nat.zero_le _⟩) F hA hr (fun H locs hw20 hr => ?_)
      clear hc19
      obtain ⟨rfl, rfl⟩ := zret h
      exact E _ _ _ _ dX19_hostSends_121 trivial hr
theorem lX19_hostSends_82 (hst : zSt B ids) (F : zFx p m c cX19_hostSends 6 s args RX19 D cy B ids A) (hA : ∀ q : Nat, s.heap.size ≤ q → A q) {r : Int32} {z' : St} (E : zEnd p l e rmX19_hostSends s m args below meth c cX19_hostSends D cy B ids A Q none z' .return_ True) {N : Nat}  : ∀ (n : Nat) (x0 : Nat) (x1 : Nat) (x2 : Int32) (x3 : Nat) (x5 : Int32) (hx0 : (19, x0) ∈ ids) (hx1 : (12, x1) ∈ ids) (hx3 : (18, x3) ∈ ids) {z : St} {H : Heap} {locs : List Loc} {ls : Array Slot} (hr : zRep D cy B ids A s.heap z H locs) (hl : lv_has ls 6 [(0, .ref (B 19 x0)), (1, .ref (B 12 x1)), (2, .int x2), (3, .ref (B 18 x3)), (5, .int x5)]), fX19_hostSends_82 N  n x0 x1 x2 x3 x5 z = some (r, z') → W p l e rmX19_hostSends s m args below meth c H locs 0 0 Q (F0 m 82 ls []) := by
  intro n
  induction n with
  | zero => intro x0 x1 x2 x3 x5 hx0 hx1 hx3 z H locs ls hr hl h; cases h
  | succ n ih => intro x0 x1 x2 x3 x5 hx0 hx1 hx3 z H locs ls hr hl h; exact bX19_hostSends_82 hst F hA E ih x0 x1 x2 x3 x5 hx0 hx1 hx3 hr hl h
def fX19_hostSends (N : Nat)  (x0 : Nat) (x1 : Nat) (x2 : Int32) (z : St) : Option (Int32 × St) := if ¬ (zgI z 12 3 x1) = 0 then (zk (0 : Int32) 6 <| zl (zgQ z 147 x1 (Int32.toNatClampNeg (0 : Int32))) fun y3 => zc (fX19_set N x0 x2 (9 : Int32) (0 : Int32) z) fun _ z5 => zc (fX19_of N x0 x2 (1 : Int32) z5) fun r8 z9 => zd y3 fun a12 => zl (zgR z9 18 2 a12) fun y13 => zd y13 fun a14 => zc (fX19_isOf N r8 (zgI z9 16 0 a14) z9) fun r15 z16 => if r15 = 0 then (fX19_hostSends_82 N N x0 x1 x2 a12 (0 : Int32) z16) else (zc (fX19_isAddress N x0 r8 z16) fun r20 z21 => if r20 = 0 then (zc (fX19_comeBack_L2 N x0 x1 x2 z21) fun _ z26 => some (0, z26)) else (zc (fX19_deliver N x0 a12 ((r8 &&& (65535 : Int32)) - (1 : Int32)) x2 z21) fun _ z30 => some (0, z30)))) else (some (0, z))
set_option maxHeartbeats 4000000 in
set_option maxRecDepth 100000 in
theorem bX19_hostSends_0 (hst : zSt B ids) (F : zFx p m c cX19_hostSends 6 s args RX19 D cy B ids A) (hA : ∀ q : Nat, s.heap.size ≤ q → A q) {r : Int32} {z' : St} (E : zEnd p l e rmX19_hostSends s m args below meth c cX19_hostSends D cy B ids A Q none z' .return_ True) {N : Nat}  (x0 : Nat) (x1 : Nat) (x2 : Int32) (hx0 : (19, x0) ∈ ids) (hx1 : (12, x1) ∈ ids) {z : St} {H : Heap} {locs : List Loc} {ls : Array Slot} (hr : zRep D cy B ids A s.heap z H locs) (hl : lv_has ls 6 [(0, .ref (B 19 x0)), (1, .ref (B 12 x1)), (2, .int x2)]) (h : fX19_hostSends N x0 x1 x2 z = some (r, z')) : W p l e rmX19_hostSends s m args below meth c H locs 0 0 Q (F0 m 0 ls []) := by
  unfold fX19_hostSends at h
  refine lv_aload_n F.1 F.2.1 dX19_hostSends_0 rfl (lv_at hl 1 rfl) ?_
  refine gf19_273 F hx1 hr dX19_hostSends_1 ?_
  refine lv_if_ne (tgt := 8) F.1 F.2.1 dX19_hostSends_4 (by decide) (fun c1 => ?_) (fun c1 => ?_)
  · replace h := zi_t c1 h
    refine lv_aload_n F.1 F.2.1 dX19_hostSends_8 rfl (lv_at hl 1 rfl) ?_
    refine gf19_276 F hx1 hr dX19_hostSends_9 ?_
    refine lv_iconst (v := (0 : Int32)) F.1 F.2.1 dX19_hostSends_12 (by decide) ?_
    replace h := zk_some h
    obtain ⟨c2, h⟩ := h
    refine zr_aaldv (k := 147) (by decide) rfl rfl (zlen_d (by decide)) F (zal_a F hx1 (j := 2) rfl) hr dX19_hostSends_13 c2 (fun y3 ey3 => ?_)
    replace h := zl_sub ey3 h
    have hy3 := zal_q hr (zal_a F hx1 (j := 2) rfl) rfl ey3
    clear ey3
    refine zr_astore_n (lv' := [(3, va_rf (Option.map (B 18) y3)), (0, .ref (B 19 x0)), (1, .ref (B 12 x1)), (2, .int x2)]) F.1 F.2.1 dX19_hostSends_14 rfl hl (by decide) rfl (fun ls hl => ?_)
    refine lv_aload_n F.1 F.2.1 dX19_hostSends_15 rfl (lv_at hl 1 rfl) ?_
    refine lv_iload_n F.1 F.2.1 dX19_hostSends_16 rfl (lv_at hl 3 rfl) ?_
    refine lv_bipush (v := (9 : Int32)) F.1 F.2.1 dX19_hostSends_17 (by decide) ?_
    refine lv_iconst (v := (0 : Int32)) F.1 F.2.1 dX19_hostSends_19 (by decide) ?_
    replace h := zc_some h
    obtain ⟨r4, z5, hc6, h⟩ := h
    refine zr_callv (zrun_V (As := [.int x2, .int (9 : Int32), .int (0 : Int32)]) (rest := []) zq_2623 zq_2625 zs_X19_set zq_2626 zq_4 hdX19_set (by decide) (T := TX19) (N := 32) rfl (okX19_set l D cy B ids hst N x0 hx0 x2  (9 : Int32)  (0 : Int32)  hr.2.2 hc6) F hr hx0 hl.1 rfl (by decide) dX19_hostSends_20 rfl rfl hroX19_hostSends_X19_set ⟨Nat.zero_le _, Nat.zero_le _⟩) F hA hr (fun H locs hw7 hr => ?_)
    clear hc6
    refine lv_aload_n F.1 F.2.1 dX19_hostSends_23 rfl (lv_at hl 1 rfl) ?_
    refine lv_iload_n F.1 F.2.1 dX19_hostSends_24 rfl (lv_at hl 3 rfl) ?_
    refine lv_iconst (v := (1 : Int32)) F.1 F.2.1 dX19_hostSends_25 (by decide) ?_
    replace h := zc_some h
    obtain ⟨r8, z9, hc10, h⟩ := h
    refine zr_calli (zrun_V (As := [.int x2, .int (1 : Int32)]) (rest := []) zq_2549 zq_2551 zs_X19_of zq_2552 zq_4 hdX19_of (by decide) (T := TX19) (N := 32) rfl (okX19_of l D cy B ids hst N x0 hx0 x2  (1 : Int32)  hr.2.2 hc10) F hr hx0 hl.1 rfl (by decide) dX19_hostSends_26 rfl rfl hroX19_hostSends_X19_of ⟨Nat.zero_le _, Nat.zero_le _⟩) F hA hr (fun H locs hw11 hr => ?_)
    clear hc10
    refine lv_istore (lv' := [(4, .int r8), (3, va_rf (Option.map (B 18) y3)), (0, .ref (B 19 x0)), (1, .ref (B 12 x1)), (2, .int x2)]) F.1 F.2.1 dX19_hostSends_29 hl (by decide) (by simp only [List.filter, zrf_cat]; rfl) (fun ls hl => ?_)
    refine lv_iload F.1 F.2.1 dX19_hostSends_31 (lv_at hl 0 rfl) ?_
    refine zr_aload_n F.1 F.2.1 dX19_hostSends_33 rfl (lv_at hl 1 rfl) ?_
    replace h := zd_some h
    obtain ⟨a12, rfl, h⟩ := h
    refine gf19_149 F (hy3 _ rfl) hr dX19_hostSends_34 (fun y13 ey13 => ?_)
    replace h := zl_sub ey13 h
    have hy13 := zal_g hr (hy3 _ rfl) (j := 2) rfl ey13
    clear ey13
    replace h := zd_some h
    obtain ⟨a14, rfl, h⟩ := h
    refine gf19_181 F (hy13 _ rfl) hr dX19_hostSends_37 ?_
    replace h := zc_some h
    obtain ⟨r15, z16, hc17, h⟩ := h
    refine zr_calli (zrun_S (As := [.int r8, .int (zgI z9 16 0 a14)]) (rest := []) zq_2777 zq_2778 zq_2779 zq_4 hdX19_isOf (okX19_isOf l D cy B ids hst N r8  (zgI z9 16 0 a14)  hr.2.2 hc17) F hr hl.1 rfl (by decide) dX19_hostSends_40 rfl rfl hroX19_hostSends_X19_isOf ⟨Nat.zero_le _, Nat.zero_le _⟩) F hA hr (fun H locs hw18 hr => ?_)
    clear hc17
    refine lv_if_eq (tgt := 79) F.1 F.2.1 dX19_hostSends_43 (by decide) (fun c19 => ?_) (fun c19 => ?_)
    · replace h := zi_t c19 h
      refine lv_iconst (v := (0 : Int32)) F.1 F.2.1 dX19_hostSends_79 (by decide) ?_
      refine lv_istore (lv' := [(5, .int (0 : Int32)), (4, .int r8), (3, .ref (B 18 a12)), (0, .ref (B 19 x0)), (1, .ref (B 12 x1)), (2, .int x2)]) F.1 F.2.1 dX19_hostSends_80 hl (by decide) rfl (fun ls hl => ?_)
      exact lX19_hostSends_82 hst F hA E  _ x0 x1 x2 a12 (0 : Int32) hx0 hx1 (hy3 _ rfl) hr (lv_sub hl [3, 4, 5, 2, 0] rfl) h
    · replace h := zi_f c19 h
      refine lv_aload_n F.1 F.2.1 dX19_hostSends_46 rfl (lv_at hl 2 rfl) ?_
      refine lv_iload F.1 F.2.1 dX19_hostSends_47 (lv_at hl 0 rfl) ?_
      replace h := zc_some h
      obtain ⟨r20, z21, hc22, h⟩ := h
      refine zr_calli (zrun_V (As := [.int r8]) (rest := []) zq_2780 zq_2782 zs_X19_isAddress zq_2783 zq_4 hdX19_isAddress (by decide) (T := TX19) (N := 32) rfl (okX19_isAddress l D cy B ids hst N x0 hx0 r8  hr.2.2 hc22) F hr hx0 hl.1 rfl (by decide) dX19_hostSends_49 rfl rfl hroX19_hostSends_X19_isAddress ⟨Nat.zero_le _, Nat.zero_le _⟩) F hA hr (fun H locs hw23 hr => ?_)
      clear hc22
      refine lv_if_eq (tgt := 72) F.1 F.2.1 dX19_hostSends_52 (by decide) (fun c24 => ?_) (fun c24 => ?_)
      · replace h := zi_t c24 h
        refine lv_aload_n F.1 F.2.1 dX19_hostSends_72 rfl (lv_at hl 2 rfl) ?_
        refine lv_aload_n F.1 F.2.1 dX19_hostSends_73 rfl (lv_at hl 3 rfl) ?_
        refine lv_iload_n F.1 F.2.1 dX19_hostSends_74 rfl (lv_at hl 4 rfl) ?_
        replace h := zc_some h
        obtain ⟨r25, z26, hc27, h⟩ := h
        refine zr_callv (zrun_V (As := [.ref (B 12 x1), .int x2]) (rest := []) zq_2802 zq_2804 zs_X19_comeBack zq_2805 zq_4 hdX19_comeBack_L2 (by decide) (T := TX19) (N := 32) rfl (okX19_comeBack_L2 l D cy B ids hst N x0 hx0 x1 hx1 x2  hr.2.2 hc27) F hr hx0 hl.1 rfl (by decide) dX19_hostSends_75 rfl rfl hroX19_hostSends_X19_comeBack_L2 ⟨Nat.zero_le _, Nat.zero_le _⟩) F hA hr (fun H locs hw28 hr => ?_)
        clear hc27
        obtain ⟨rfl, rfl⟩ := zret h
        exact E _ _ _ _ dX19_hostSends_78 trivial hr
      · replace h := zi_f c24 h
        refine lv_aload_n F.1 F.2.1 dX19_hostSends_55 rfl (lv_at hl 2 rfl) ?_
        refine lv_aload_n F.1 F.2.1 dX19_hostSends_56 rfl (lv_at hl 1 rfl) ?_
        refine lv_iload F.1 F.2.1 dX19_hostSends_57 (lv_at hl 0 rfl) ?_
        refine lv_ldcw (v := (65535)) F.1 F.2.1 F.2.2.2.1 (F.2.2.2.2.1 _ zq_2784) dX19_hostSends_59 ?_
        refine lv_iand F.1 F.2.1 dX19_hostSends_62 ?_
        refine lv_iconst (v := (1 : Int32)) F.1 F.2.1 dX19_hostSends_63 (by decide) ?_
        refine lv_isub F.1 F.2.1 dX19_hostSends_64 ?_
        refine lv_iload_n F.1 F.2.1 dX19_hostSends_65 rfl (lv_at hl 4 rfl) ?_
        replace h := zc_some h
        obtain ⟨r29, z30, hc31, h⟩ := h
        refine zr_callv (zrun_V (As := [.ref (B 18 a12), .int ((r8 &&& (65535 : Int32)) - (1 : Int32)), .int x2]) (rest := []) zq_2785 zq_2787 zs_X19_deliver zq_2788 zq_4 hdX19_deliver (by decide) (T := TX19) (N := 32) rfl (okX19_deliver l D cy B ids hst N x0 hx0 a12 (hy3 _ rfl) ((r8 &&& (65535 : Int32)) - (1 : Int32))  x2  hr.2.2 hc31) F hr hx0 hl.1 rfl (by decide) dX19_hostSends_66 rfl rfl hroX19_hostSends_X19_deliver ⟨Nat.zero_le _, Nat.zero_le _⟩) F hA hr (fun H locs hw32 hr => ?_)
        clear hc31
        refine lv_goto (tgt := 78) F.1 F.2.1 dX19_hostSends_69 (by decide) ?_
        obtain ⟨rfl, rfl⟩ := zret h
        exact E _ _ _ _ dX19_hostSends_78 trivial hr
  · replace h := zi_f (fun q => q c1) h
    obtain ⟨rfl, rfl⟩ := zret h
    exact E _ _ _ _ dX19_hostSends_7 trivial hr
end SX19_hostSends
set_option maxRecDepth 100000 in
theorem okX19_hostSends (l : Launch) (D : va_G) (cy : Nat → ClassId) (B : Nat → Nat → Nat) (ids : List (Nat × Nat)) (hst : zSt B ids) (N : Nat) (x0 : Nat) (hx0 : (19, x0) ∈ ids) (x1 : Nat) (hx1 : (12, x1) ∈ ids) (x2 : Int32) {z : St} {r : Int32} {z' : St} (hW : zWf ids z) (h : fX19_hostSends N x0 x1 x2 z = some (r, z')) : zM l yX19_hostSends (zws yX19_hostSends cX19_hostSends 6 none) rmX19_hostSends D cy B ids [.ref (B 19 x0), .ref (B 12 x1), .int x2] none True z z' :=
  zM_of hst hW (by decide +kernel) (Nat.le_of_ble_eq_true rfl) (fun p e s m args below meth c A ls F hA hret hlocks hr hl => bX19_hostSends_0 hst F hA (zEnd_v F hret hlocks) x0 x1 x2 hx0 hx1 hr hl h)
abbrev rmX19_routerSends : Room := { frames := 10, cells := 0, slots := 0, locals := 261 }
theorem hdX19_routerSends : yX19_routerSends.cls ≠ "java/lang/invoke/MethodHandle" ∧ yX19_routerSends.cls ≠ "java/lang/invoke/VarHandle" ∧ (parseMethodDescriptor yX19_routerSends.desc).map (fun d => d.parameters.length) = some 3 := by decide +kernel
theorem hroX19_routerSends_X19_comeBack_L2 : rmX19_comeBack_L2.frames + 1 ≤ rmX19_routerSends.frames ∧ 8 + (8 + 11) + rmX19_comeBack_L2.locals ≤ rmX19_routerSends.locals := by decide
theorem hroX19_routerSends_X19_deliver : rmX19_deliver.frames + 1 ≤ rmX19_routerSends.frames ∧ 8 + (6 + 11) + rmX19_deliver.locals ≤ rmX19_routerSends.locals := by decide
theorem hroX19_routerSends_X19_isAddress : rmX19_isAddress.frames + 1 ≤ rmX19_routerSends.frames ∧ 8 + (3 + 11) + rmX19_isAddress.locals ≤ rmX19_routerSends.locals := by decide
theorem hroX19_routerSends_X19_of : rmX19_of.frames + 1 ≤ rmX19_routerSends.frames ∧ 8 + (3 + 11) + rmX19_of.locals ≤ rmX19_routerSends.locals := by decide
theorem hroX19_routerSends_X19_stationOf : rmX19_stationOf.frames + 1 ≤ rmX19_routerSends.frames ∧ 8 + (3 + 11) + rmX19_stationOf.locals ≤ rmX19_routerSends.locals := by decide
section SX19_routerSends
variable {p : Program} {l : Launch} {e : Env} {s : State} {m : MethodId} {args : Array Value} {below : List Frame} {meth : Method} {c : Code} {Q : State → Prop} {D : va_G} {cy : Nat → ClassId} {B : Nat → Nat → Nat} {ids : List (Nat × Nat)} {A : Nat → Prop}
def fX19_routerSends_39 (N : Nat)  (x0 : Nat) (x1 : Nat) (x2 : Int32) (z : St) : Option (Int32 × St) := zc (fX19_comeBack_L2 N x0 x1 x2 z) fun _ z2 => some (0, z2)
set_option maxHeartbeats 4000000 in
set_option maxRecDepth 100000 in
theorem bX19_routerSends_39 (hst : zSt B ids) (F : zFx p m c cX19_routerSends 8 s args RX19 D cy B ids A) (hA : ∀ q : Nat, s.heap.size ≤ q → A q) {r : Int32} {z' : St} (E : zEnd p l e rmX19_routerSends s m args below meth c cX19_routerSends D cy B ids A Q none z' .return_ True) {N : Nat}  (x0 : Nat) (x1 : Nat) (x2 : Int32) (hx0 : (19, x0) ∈ ids) (hx1 : (12, x1) ∈ ids) {z : St} {H : Heap} {locs : List Loc} {ls : Array Slot} (hr : zRep D cy B ids A s.heap z H locs) (hl : lv_has ls 8 [(0, .ref (B 19 x0)), (1, .ref (B 12 x1)), (2, .int x2)]) (h : fX19_routerSends_39 N x0 x1 x2 z = some (r, z')) : W p l e rmX19_routerSends s m args below meth c H locs 0 0 Q (F0 m 39 ls []) := by
  unfold fX19_routerSends_39 at h
  refine lv_aload_n F.1 F.2.1 dX19_routerSends_39 rfl (lv_at hl 0 rfl) ?_
  refine lv_aload_n F.1 F.2.1 dX19_routerSends_40 rfl (lv_at hl 1 rfl) ?_
  refine lv_iload_n F.1 F.2.1 dX19_routerSends_41 rfl (lv_at hl 2 rfl) ?_
  replace h := zc_some h
  obtain ⟨r1, z2, hc3, h⟩ := h
  refine zr_callv (zrun_V (As := [.ref (B 12 x1), .int x2]) (rest := []) zq_2802 zq_2804 zs_X19_comeBack zq_2805 zq_4 hdX19_comeBack_L2 (by decide) (T := TX19) (N := 32) rfl (okX19_comeBack_L2 l D cy B ids hst N x0 hx0 x1 hx1 x2  hr.2.2 hc3) F hr hx0 hl.1 rfl (by decide) dX19_routerSends_42 rfl rfl hroX19_routerSends_X19_comeBack_L2 ⟨Nat.zero_le _, Nat.zero_le _⟩) F hA hr (fun H locs hw4 hr => ?_)
  clear hc3
  obtain ⟨rfl, rfl⟩ := zret h
  exact E _ _ _ _ dX19_routerSends_45 trivial hr
def fX19_routerSends_96 (N : Nat) (K52 : Nat → Nat → Int32 → Int32 → Int32 → Int32 → Option Nat → Int32 → St → Option (Int32 × St)) (x0 : Nat) (x1 : Nat) (x2 : Int32) (x3 : Int32) (x4 : Int32) (x5 : Int32) (x7 : Int32) (s0 : Option Nat) (z : St) : Option (Int32 × St) := zl (x7 + 1) fun v1 => K52 x0 x1 x2 x3 x4 x5 s0 v1 z
set_option maxHeartbeats 4000000 in
set_option maxRecDepth 100000 in
theorem bX19_routerSends_96 (hst : zSt B ids) (F : zFx p m c cX19_routerSends 8 s args RX19 D cy B ids A) (hA : ∀ q : Nat, s.heap.size ≤ q → A q) {r : Int32} {z' : St} (E : zEnd p l e rmX19_routerSends s m args below meth c cX19_routerSends D cy B ids A Q none z' .return_ True) {N : Nat} {K52 : Nat → Nat → Int32 → Int32 → Int32 → Int32 → Option Nat → Int32 → St → Option (Int32 × St)} (hK52 : ∀ (x0 : Nat) (x1 : Nat) (x2 : Int32) (x3 : Int32) (x4 : Int32) (x5 : Int32) (x6 : Option Nat) (x7 : Int32) (hx0 : (19, x0) ∈ ids) (hx1 : (12, x1) ∈ ids) (hx6 : ∀ t, x6 = some t → (18, t) ∈ ids) {z : St} {H : Heap} {locs : List Loc} {ls : Array Slot} (hr : zRep D cy B ids A s.heap z H locs) (hl : lv_has ls 8 [(0, .ref (B 19 x0)), (1, .ref (B 12 x1)), (2, .int x2), (3, .int x3), (4, .int x4), (5, .int x5), (6, va_rf (Option.map (B 18) x6)), (7, .int x7)]), K52 x0 x1 x2 x3 x4 x5 x6 x7 z = some (r, z') → W p l e rmX19_routerSends s m args below meth c H locs 0 0 Q (F0 m 52 ls [])) (x0 : Nat) (x1 : Nat) (x2 : Int32) (x3 : Int32) (x4 : Int32) (x5 : Int32) (x7 : Int32) (s0 : Option Nat) (hx0 : (19, x0) ∈ ids) (hx1 : (12, x1) ∈ ids) (hs0 : ∀ t, s0 = some t → (18, t) ∈ ids) {z : St} {H : Heap} {locs : List Loc} {ls : Array Slot} (hr : zRep D cy B ids A s.heap z H locs) (hl : lv_has ls 8 [(0, .ref (B 19 x0)), (1, .ref (B 12 x1)), (2, .int x2), (3, .int x3), (4, .int x4), (5, .int x5), (7, .int x7)]) (h : fX19_routerSends_96 N K52 x0 x1 x2 x3 x4 x5 x7 s0 z = some (r, z')) : W p l e rmX19_routerSends s m args below meth c H locs 0 0 Q (F0 m 96 ls [va_rf (Option.map (B 18) s0)]) := by
  unfold fX19_routerSends_96 at h
  refine zr_astore (lv' := [(6, va_rf (Option.map (B 18) s0)), (0, .ref (B 19 x0)), (1, .ref (B 12 x1)), (2, .int x2), (3, .int x3), (4, .int x4), (5, .int x5), (7, .int x7)]) F.1 F.2.1 dX19_routerSends_96 hl (by decide) rfl (fun ls hl => ?_)
  obtain ⟨v1, ev1⟩ : ∃ y : Int32, y = (x7 + 1) := ⟨_, rfl⟩
  replace h := zl_sub ev1 h
  refine lv_iinc (v := v1) (lv' := [(7, .int v1), (6, va_rf (Option.map (B 18) s0)), (0, .ref (B 19 x0)), (1, .ref (B 12 x1)), (2, .int x2), (3, .int x3), (4, .int x4), (5, .int x5)]) F.1 F.2.1 dX19_routerSends_98 hl (k := 7) rfl (by rw [ev1]; rfl) (by decide) (by simp only [List.filter, zrf_cat]; rfl) (fun ls hl => ?_)
  refine lv_goto (tgt := 52) F.1 F.2.1 dX19_routerSends_101 (by decide) ?_
  exact hK52 x0 x1 x2 x3 x4 x5 s0 v1 hx0 hx1 hs0 hr (lv_sub hl [2, 3, 4, 5, 6, 7, 1, 0] rfl) h
def fX19_routerSends_164 (N : Nat)  (x0 : Nat) (x2 : Int32) (x6 : Option Nat) (x7 : Int32) (s0 : Nat) (s1 : Int32) (s2 : Int32) (z : St) : Option (Int32 × St) := zl (zsI z 12 6 s0 (s1 + s2)) fun z1 => zd x6 fun a2 => zc (fX19_deliver N x0 a2 x7 x2 z1) fun _ z4 => some (0, z4)
set_option maxHeartbeats 4000000 in
set_option maxRecDepth 100000 in
theorem bX19_routerSends_164 (hst : zSt B ids) (F : zFx p m c cX19_routerSends 8 s args RX19 D cy B ids A) (hA : ∀ q : Nat, s.heap.size ≤ q → A q) {r : Int32} {z' : St} (E : zEnd p l e rmX19_routerSends s m args below meth c cX19_routerSends D cy B ids A Q none z' .return_ True) {N : Nat}  (x0 : Nat) (x2 : Int32) (x6 : Option Nat) (x7 : Int32) (s0 : Nat) (s1 : Int32) (s2 : Int32) (hx0 : (19, x0) ∈ ids) (hx6 : ∀ t, x6 = some t → (18, t) ∈ ids) (hs0 : (12, s0) ∈ ids) {z : St} {H : Heap} {locs : List Loc} {ls : Array Slot} (hr : zRep D cy B ids A s.heap z H locs) (hl : lv_has ls 8 [(0, .ref (B 19 x0)), (2, .int x2), (6, va_rf (Option.map (B 18) x6)), (7, .int x7)]) (h : fX19_routerSends_164 N x0 x2 x6 x7 s0 s1 s2 z = some (r, z')) : W p l e rmX19_routerSends s m args below meth c H locs 0 0 Q (F0 m 164 ls [.int s2, .int s1, .ref (B 12 s0)]) := by
  unfold fX19_routerSends_164 at h
  refine lv_iadd F.1 F.2.1 dX19_routerSends_164 ?_
  refine pf19_315 F hs0 hr dX19_routerSends_165 (s1 + s2) (fun H locs z1 ez1 hr => ?_)
  replace h := zl_sub ez1 h
  clear ez1
  refine lv_aload_n F.1 F.2.1 dX19_routerSends_168 rfl (lv_at hl 0 rfl) ?_
  refine zr_aload F.1 F.2.1 dX19_routerSends_169 (lv_at hl 2 rfl) ?_
  refine lv_iload F.1 F.2.1 dX19_routerSends_171 (lv_at hl 3 rfl) ?_
  refine lv_iload_n F.1 F.2.1 dX19_routerSends_173 rfl (lv_at hl 1 rfl) ?_
  replace h := zd_some h
  obtain ⟨a2, rfl, h⟩ := h
  replace h := zc_some h
  obtain ⟨r3, z4, hc5, h⟩ := h
  refine zr_callv (zrun_V (As := [.ref (B 18 a2), .int x7, .int x2]) (rest := []) zq_2785 zq_2787 zs_X19_deliver zq_2788 zq_4 hdX19_deliver (by decide) (T := TX19) (N := 32) rfl (okX19_deliver l D cy B ids hst N x0 hx0 a2 (hx6 _ rfl) x7  x2  hr.2.2 hc5) F hr hx0 hl.1 rfl (by decide) dX19_routerSends_174 rfl rfl hroX19_routerSends_X19_deliver ⟨Nat.zero_le _, Nat.zero_le _⟩) F hA hr (fun H locs hw6 hr => ?_)
  clear hc5
  obtain ⟨rfl, rfl⟩ := zret h
  exact E _ _ _ _ dX19_routerSends_177 trivial hr
def fX19_routerSends_150 (N : Nat)  (x0 : Nat) (x1 : Nat) (x2 : Int32) (x3 : Int32) (x6 : Option Nat) (x7 : Int32) (z : St) : Option (Int32 × St) := if x3 = 0 then (fX19_routerSends_164 N x0 x2 x6 x7 x1 (zgI z 12 6 x1) (0 : Int32) z) else (fX19_routerSends_164 N x0 x2 x6 x7 x1 (zgI z 12 6 x1) (1 : Int32) z)
set_option maxHeartbeats 4000000 in
set_option maxRecDepth 100000 in
theorem bX19_routerSends_150 (hst : zSt B ids) (F : zFx p m c cX19_routerSends 8 s args RX19 D cy B ids A) (hA : ∀ q : Nat, s.heap.size ≤ q → A q) {r : Int32} {z' : St} (E : zEnd p l e rmX19_routerSends s m args below meth c cX19_routerSends D cy B ids A Q none z' .return_ True) {N : Nat}  (x0 : Nat) (x1 : Nat) (x2 : Int32) (x3 : Int32) (x6 : Option Nat) (x7 : Int32) (hx0 : (19, x0) ∈ ids) (hx1 : (12, x1) ∈ ids) (hx6 : ∀ t, x6 = some t → (18, t) ∈ ids) {z : St} {H : Heap} {locs : List Loc} {ls : Array Slot} (hr : zRep D cy B ids A s.heap z H locs) (hl : lv_has ls 8 [(0, .ref (B 19 x0)), (1, .ref (B 12 x1)), (2, .int x2), (3, .int x3), (6, va_rf (Option.map (B 18) x6)), (7, .int x7)]) (h : fX19_routerSends_150 N x0 x1 x2 x3 x6 x7 z = some (r, z')) : W p l e rmX19_routerSends s m args below meth c H locs 0 0 Q (F0 m 150 ls []) := by
  unfold fX19_routerSends_150 at h
  refine lv_aload_n F.1 F.2.1 dX19_routerSends_150 rfl (lv_at hl 1 rfl) ?_
  refine lv_dup F.1 F.2.1 dX19_routerSends_151 rfl ?_
  refine gf19_315 F hx1 hr dX19_routerSends_152 ?_
  refine lv_iload_n F.1 F.2.1 dX19_routerSends_155 rfl (lv_at hl 3 rfl) ?_
  refine lv_if_eq (tgt := 163) F.1 F.2.1 dX19_routerSends_156 (by decide) (fun c1 => ?_) (fun c1 => ?_)
  · replace h := zi_t c1 h
    refine lv_iconst (v := (0 : Int32)) F.1 F.2.1 dX19_routerSends_163 (by decide) ?_
    exact bX19_routerSends_164 hst F hA E  x0 x2 x6 x7 x1 (zgI z 12 6 x1) (0 : Int32) hx0 hx6 hx1 hr (lv_sub hl [0, 2, 4, 5] rfl) h
  · replace h := zi_f c1 h
    refine lv_iconst (v := (1 : Int32)) F.1 F.2.1 dX19_routerSends_159 (by decide) ?_
    refine lv_goto (tgt := 164) F.1 F.2.1 dX19_routerSends_160 (by decide) ?_
    exact bX19_routerSends_164 hst F hA E  x0 x2 x6 x7 x1 (zgI z 12 6 x1) (1 : Int32) hx0 hx6 hx1 hr (lv_sub hl [0, 2, 4, 5] rfl) h
def fX19_routerSends_52b (N : Nat) (K52 : Nat → Nat → Int32 → Int32 → Int32 → Int32 → Option Nat → Int32 → St → Option (Int32 × St)) (x0 : Nat) (x1 : Nat) (x2 : Int32) (x3 : Int32) (x4 : Int32) (x5 : Int32) (x6 : Option Nat) (x7 : Int32) (z : St) : Option (Int32 × St) := if (zgI z 12 3 x1) ≤ x7 then (zl ((x4 &&& (65535 : Int32)) - (1 : Int32)) fun v2 => zk x5 24 <| if (zgA z 156 x1 (Int32.toNatClampNeg x5)) = (zgI z 12 0 x1) then (fX19_routerSends_150 N x0 x1 x2 x3 x6 v2 z) else (zk x5 24 <| zk (zgA z 156 x1 (Int32.toNatClampNeg x5)) 16 <| zl (zgQ z 186 x0 (Int32.toNatClampNeg (zgA z 156 x1 (Int32.toNatClampNeg x5)))) fun y7 => zd x6 fun a8 => zl (zgR z 18 2 a8) fun y9 => zd y7 fun a10 => zd y9 fun a11 => zc (fX19_stationOf N a10 a11 z) fun r12 z13 => fX19_routerSends_150 N x0 x1 x2 x3 (some a8) r12 z13)) else (zk x7 6 <| zl (zgQ z 147 x1 (Int32.toNatClampNeg x7)) fun y17 => zd y17 fun a18 => zl (zgR z 18 2 a18) fun y19 => zd y19 fun a20 => zk x5 24 <| if ¬ (zgI z 16 0 a20) = (zgA z 157 x1 (Int32.toNatClampNeg x5)) then (fX19_routerSends_96 N K52 x0 x1 x2 x3 x4 x5 x7 x6 z) else (zk x7 6 <| zl (zgQ z 147 x1 (Int32.toNatClampNeg x7)) fun y24 => fX19_routerSends_96 N K52 x0 x1 x2 x3 x4 x5 x7 y24 z))
def fX19_routerSends_52 (N : Nat)  : Nat → Nat → Nat → Int32 → Int32 → Int32 → Int32 → Option Nat → Int32 → St → Option (Int32 × St)
  | 0 => fun _ _ _ _ _ _ _ _ _ => none
  | n + 1 => fX19_routerSends_52b N (fX19_routerSends_52 N  n)
set_option maxHeartbeats 4000000 in
set_option maxRecDepth 100000 in
theorem bX19_routerSends_52 (hst : zSt B ids) (F : zFx p m c cX19_routerSends 8 s args RX19 D cy B ids A) (hA : ∀ q : Nat, s.heap.size ≤ q → A q) {r : Int32} {z' : St} (E : zEnd p l e rmX19_routerSends s m args below meth c cX19_routerSends D cy B ids A Q none z' .return_ True) {N : Nat} {K52 : Nat → Nat → Int32 → Int32 → Int32 → Int32 → Option Nat → Int32 → St → Option (Int32 × St)} (hK52 : ∀ (x0 : Nat) (x1 : Nat) (x2 : Int32) (x3 : Int32) (x4 : Int32) (x5 : Int32) (x6 : Option Nat) (x7 : Int32) (hx0 : (19, x0) ∈ ids) (hx1 : (12, x1) ∈ ids) (hx6 : ∀ t, x6 = some t → (18, t) ∈ ids) {z : St} {H : Heap} {locs : List Loc} {ls : Array Slot} (hr : zRep D cy B ids A s.heap z H locs) (hl : lv_has ls 8 [(0, .ref (B 19 x0)), (1, .ref (B 12 x1)), (2, .int x2), (3, .int x3), (4, .int x4), (5, .int x5), (6, va_rf (Option.map (B 18) x6)), (7, .int x7)]), K52 x0 x1 x2 x3 x4 x5 x6 x7 z = some (r, z') → W p l e rmX19_routerSends s m args below meth c H locs 0 0 Q (F0 m 52 ls [])) (x0 : Nat) (x1 : Nat) (x2 : Int32) (x3 : Int32) (x4 : Int32) (x5 : Int32) (x6 : Option Nat) (x7 : Int32) (hx0 : (19, x0) ∈ ids) (hx1 : (12, x1) ∈ ids) (hx6 : ∀ t, x6 = some t → (18, t) ∈ ids) {z : St} {H : Heap} {locs : List Loc} {ls : Array Slot} (hr : zRep D cy B ids A s.heap z H locs) (hl : lv_has ls 8 [(0, .ref (B 19 x0)), (1, .ref (B 12 x1)), (2, .int x2), (3, .int x3), (4, .int x4), (5, .int x5), (6, va_rf (Option.map (B 18) x6)), (7, .int x7)]) (h : fX19_routerSends_52b N K52 x0 x1 x2 x3 x4 x5 x6 x7 z = some (r, z')) : W p l e rmX19_routerSends s m args below meth c H locs 0 0 Q (F0 m 52 ls []) := by
  unfold fX19_routerSends_52b at h
  refine lv_iload F.1 F.2.1 dX19_routerSends_52 (lv_at hl 7 rfl) ?_
  refine lv_aload_n F.1 F.2.1 dX19_routerSends_54 rfl (lv_at hl 1 rfl) ?_
  refine gf19_273 F hx1 hr dX19_routerSends_55 ?_
  refine lv_icmp_ge (tgt := 104) F.1 F.2.1 dX19_routerSends_58 (by decide) (fun c1 => ?_) (fun c1 => ?_)
  · replace h := zi_t c1 h
    refine lv_iload F.1 F.2.1 dX19_routerSends_104 (lv_at hl 4 rfl) ?_
    refine lv_ldcw (v := (65535)) F.1 F.2.1 F.2.2.2.1 (F.2.2.2.2.1 _ zq_2784) dX19_routerSends_106 ?_
    refine lv_iand F.1 F.2.1 dX19_routerSends_109 ?_
    refine lv_iconst (v := (1 : Int32)) F.1 F.2.1 dX19_routerSends_110 (by decide) ?_
    refine lv_isub F.1 F.2.1 dX19_routerSends_111 ?_
    refine lv_topi (fun v2 ev2 => ?_)
    replace h := zl_sub ev2 h
    refine lv_istore (lv' := [(7, .int v2), (0, .ref (B 19 x0)), (1, .ref (B 12 x1)), (2, .int x2), (3, .int x3), (4, .int x4), (5, .int x5), (6, va_rf (Option.map (B 18) x6))]) F.1 F.2.1 dX19_routerSends_112 hl (by decide) (by simp only [List.filter, zrf_cat]; rfl) (fun ls hl => ?_)
    refine lv_aload_n F.1 F.2.1 dX19_routerSends_114 rfl (lv_at hl 2 rfl) ?_
    refine gf19_307 F hx1 hr dX19_routerSends_115 ?_
    refine lv_iload F.1 F.2.1 dX19_routerSends_118 (lv_at hl 6 rfl) ?_
    replace h := zk_some h
    obtain ⟨c3, h⟩ := h
    refine zr_iald (k := 156) (by decide) rfl (by decide) F (zal_a F hx1 (j := 26) rfl) hr dX19_routerSends_120 c3 ?_
    refine lv_aload_n F.1 F.2.1 dX19_routerSends_121 rfl (lv_at hl 2 rfl) ?_
    refine gf19_310 F hx1 hr dX19_routerSends_122 ?_
    refine lv_icmp_eq (tgt := 150) F.1 F.2.1 dX19_routerSends_125 (by decide) (fun c4 => ?_) (fun c4 => ?_)
    · replace h := zi_t c4 h
      exact bX19_routerSends_150 hst F hA E  x0 x1 x2 x3 x6 v2 hx0 hx1 hx6 hr (lv_sub hl [1, 2, 3, 4, 7, 0] rfl) h
    · replace h := zi_f c4 h
      refine lv_aload_n F.1 F.2.1 dX19_routerSends_128 rfl (lv_at hl 1 rfl) ?_
      refine gf19_114 F hx0 hr dX19_routerSends_129 ?_
      refine lv_aload_n F.1 F.2.1 dX19_routerSends_132 rfl (lv_at hl 2 rfl) ?_
      refine gf19_307 F hx1 hr dX19_routerSends_133 ?_
      refine lv_iload F.1 F.2.1 dX19_routerSends_136 (lv_at hl 6 rfl) ?_
      replace h := zk_some h
      obtain ⟨c5, h⟩ := h
      refine zr_iald (k := 156) (by decide) rfl (by decide) F (zal_a F hx1 (j := 26) rfl) hr dX19_routerSends_138 c5 ?_
      replace h := zk_some h
      obtain ⟨c6, h⟩ := h
      refine zr_aaldv (k := 186) (by decide) rfl rfl (zlen_d (by decide)) F (zal_a F hx0 (j := 18) rfl) hr dX19_routerSends_139 c6 (fun y7 ey7 => ?_)
      replace h := zl_sub ey7 h
      have hy7 := zal_q hr (zal_a F hx0 (j := 18) rfl) rfl ey7
      clear ey7
      refine zr_aload F.1 F.2.1 dX19_routerSends_140 (lv_at hl 7 rfl) ?_
      replace h := zd_some h
      obtain ⟨a8, rfl, h⟩ := h
      refine gf19_149 F (hx6 _ rfl) hr dX19_routerSends_142 (fun y9 ey9 => ?_)
      replace h := zl_sub ey9 h
      have hy9 := zal_g hr (hx6 _ rfl) (j := 2) rfl ey9
      clear ey9
      replace h := zd_some h
      obtain ⟨a10, rfl, h⟩ := h
      replace h := zd_some h
      obtain ⟨a11, rfl, h⟩ := h
      replace h := zc_some h
      obtain ⟨r12, z13, hc14, h⟩ := h
      refine zr_calli (zrun_S (As := [.ref (B 12 a10), .ref (B 16 a11)]) (rest := []) zq_2459 zq_2460 zq_2461 zq_4 hdX19_stationOf (okX19_stationOf l D cy B ids hst N a10 (hy7 _ rfl) a11 (hy9 _ rfl) hr.2.2 hc14) F hr hl.1 rfl (by decide) dX19_routerSends_145 rfl rfl hroX19_routerSends_X19_stationOf ⟨Nat.zero_le _, Nat.zero_le _⟩) F hA hr (fun H locs hw15 hr => ?_)
      clear hc14
      refine lv_istore (lv' := [(7, .int r12), (0, .ref (B 19 x0)), (1, .ref (B 12 x1)), (2, .int x2), (3, .int x3), (4, .int x4), (5, .int x5), (6, .ref (B 18 a8))]) F.1 F.2.1 dX19_routerSends_148 hl (by decide) rfl (fun ls hl => ?_)
      exact bX19_routerSends_150 hst F hA E  x0 x1 x2 x3 (some a8) r12 hx0 hx1 (zal_s (hx6 _ rfl)) hr (lv_sub hl [1, 2, 3, 4, 7, 0] rfl) h
  · replace h := zi_f c1 h
    refine lv_aload_n F.1 F.2.1 dX19_routerSends_61 rfl (lv_at hl 1 rfl) ?_
    refine gf19_276 F hx1 hr dX19_routerSends_62 ?_
    refine lv_iload F.1 F.2.1 dX19_routerSends_65 (lv_at hl 7 rfl) ?_
    replace h := zk_some h
    obtain ⟨c16, h⟩ := h
    refine zr_aaldv (k := 147) (by decide) rfl rfl (zlen_d (by decide)) F (zal_a F hx1 (j := 2) rfl) hr dX19_routerSends_67 c16 (fun y17 ey17 => ?_)
    replace h := zl_sub ey17 h
    have hy17 := zal_q hr (zal_a F hx1 (j := 2) rfl) rfl ey17
    clear ey17
    replace h := zd_some h
    obtain ⟨a18, rfl, h⟩ := h
    refine gf19_149 F (hy17 _ rfl) hr dX19_routerSends_68 (fun y19 ey19 => ?_)
    replace h := zl_sub ey19 h
    have hy19 := zal_g hr (hy17 _ rfl) (j := 2) rfl ey19
    clear ey19
    replace h := zd_some h
    obtain ⟨a20, rfl, h⟩ := h
    refine gf19_181 F (hy19 _ rfl) hr dX19_routerSends_71 ?_
    refine lv_aload_n F.1 F.2.1 dX19_routerSends_74 rfl (lv_at hl 1 rfl) ?_
    refine gf19_304 F hx1 hr dX19_routerSends_75 ?_
    refine lv_iload F.1 F.2.1 dX19_routerSends_78 (lv_at hl 5 rfl) ?_
    replace h := zk_some h
    obtain ⟨c21, h⟩ := h
    refine zr_iald (k := 157) (by decide) rfl (by decide) F (zal_a F hx1 (j := 27) rfl) hr dX19_routerSends_80 c21 ?_
    refine lv_icmp_ne (tgt := 94) F.1 F.2.1 dX19_routerSends_81 (by decide) (fun c22 => ?_) (fun c22 => ?_)
    · replace h := zi_t c22 h
      refine zr_aload F.1 F.2.1 dX19_routerSends_94 (lv_at hl 6 rfl) ?_
      exact bX19_routerSends_96 hst F hA E hK52 x0 x1 x2 x3 x4 x5 x7 x6 hx0 hx1 hx6 hr (lv_sub hl [0, 1, 2, 3, 4, 5, 7] rfl) h
    · replace h := zi_f (fun q => q c22) h
      refine lv_aload_n F.1 F.2.1 dX19_routerSends_84 rfl (lv_at hl 1 rfl) ?_
      refine gf19_276 F hx1 hr dX19_routerSends_85 ?_
      refine lv_iload F.1 F.2.1 dX19_routerSends_88 (lv_at hl 7 rfl) ?_
      replace h := zk_some h
      obtain ⟨c23, h⟩ := h
      refine zr_aaldv (k := 147) (by decide) rfl rfl (zlen_d (by decide)) F (zal_a F hx1 (j := 2) rfl) hr dX19_routerSends_90 c23 (fun y24 ey24 => ?_)
      replace h := zl_sub ey24 h
      have hy24 := zal_q hr (zal_a F hx1 (j := 2) rfl) rfl ey24
      clear ey24
      refine lv_goto (tgt := 96) F.1 F.2.1 dX19_routerSends_91 (by decide) ?_
      exact bX19_routerSends_96 hst F hA E hK52 x0 x1 x2 x3 x4 x5 x7 y24 hx0 hx1 hy24 hr (lv_sub hl [0, 1, 2, 3, 4, 5, 7] rfl) h
theorem lX19_routerSends_52 (hst : zSt B ids) (F : zFx p m c cX19_routerSends 8 s args RX19 D cy B ids A) (hA : ∀ q : Nat, s.heap.size ≤ q → A q) {r : Int32} {z' : St} (E : zEnd p l e rmX19_routerSends s m args below meth c cX19_routerSends D cy B ids A Q none z' .return_ True) {N : Nat}  : ∀ (n : Nat) (x0 : Nat) (x1 : Nat) (x2 : Int32) (x3 : Int32) (x4 : Int32) (x5 : Int32) (x6 : Option Nat) (x7 : Int32) (hx0 : (19, x0) ∈ ids) (hx1 : (12, x1) ∈ ids) (hx6 : ∀ t, x6 = some t → (18, t) ∈ ids) {z : St} {H : Heap} {locs : List Loc} {ls : Array Slot} (hr : zRep D cy B ids A s.heap z H locs) (hl : lv_has ls 8 [(0, .ref (B 19 x0)), (1, .ref (B 12 x1)), (2, .int x2), (3, .int x3), (4, .int x4), (5, .int x5), (6, va_rf (Option.map (B 18) x6)), (7, .int x7)]), fX19_routerSends_52 N  n x0 x1 x2 x3 x4 x5 x6 x7 z = some (r, z') → W p l e rmX19_routerSends s m args below meth c H locs 0 0 Q (F0 m 52 ls []) := by
  intro n
  induction n with
  | zero => intro x0 x1 x2 x3 x4 x5 x6 x7 hx0 hx1 hx6 z H locs ls hr hl h; cases h
  | succ n ih => intro x0 x1 x2 x3 x4 x5 x6 x7 hx0 hx1 hx6 z H locs ls hr hl h; exact bX19_routerSends_52 hst F hA E ih x0 x1 x2 x3 x4 x5 x6 x7 hx0 hx1 hx6 hr hl h
def fX19_routerSends (N : Nat)  (x0 : Nat) (x1 : Nat) (x2 : Int32) (x3 : Int32) (z : St) : Option (Int32 × St) := zc (fX19_of N x0 x2 (1 : Int32) z) fun r1 z2 => zl ((r1 >>> ((16 : Int32) &&& 31)) &&& (255 : Int32)) fun v5 => zc (fX19_isAddress N x0 r1 z2) fun r6 z7 => if r6 = 0 then (fX19_routerSends_39 N x0 x1 x2 z7) else (zk v5 24 <| if ¬ (zgA z7 155 x1 (Int32.toNatClampNeg v5)) = (-1 : Int32) then (fX19_routerSends_52 N N x0 x1 x2 x3 r1 v5 none (0 : Int32) z7) else (fX19_routerSends_39 N x0 x1 x2 z7))
set_option maxHeartbeats 4000000 in
set_option maxRecDepth 100000 in
theorem bX19_routerSends_0 (hst : zSt B ids) (F : zFx p m c cX19_routerSends 8 s args RX19 D cy B ids A) (hA : ∀ q : Nat, s.heap.size ≤ q → A q) {r : Int32} {z' : St} (E : zEnd p l e rmX19_routerSends s m args below meth c cX19_routerSends D cy B ids A Q none z' .return_ True) {N : Nat}  (x0 : Nat) (x1 : Nat) (x2 : Int32) (x3 : Int32) (hx0 : (19, x0) ∈ ids) (hx1 : (12, x1) ∈ ids) {z : St} {H : Heap} {locs : List Loc} {ls : Array Slot} (hr : zRep D cy B ids A s.heap z H locs) (hl : lv_has ls 8 [(0, .ref (B 19 x0)), (1, .ref (B 12 x1)), (2, .int x2), (3, .int x3)]) (h : fX19_routerSends N x0 x1 x2 x3 z = some (r, z')) : W p l e rmX19_routerSends s m args below meth c H locs 0 0 Q (F0 m 0 ls []) := by
  unfold fX19_routerSends at h
  refine lv_aload_n F.1 F.2.1 dX19_routerSends_0 rfl (lv_at hl 0 rfl) ?_
  refine lv_iload_n F.1 F.2.1 dX19_routerSends_1 rfl (lv_at hl 2 rfl) ?_
  refine lv_iconst (v := (1 : Int32)) F.1 F.2.1 dX19_routerSends_2 (by decide) ?_
  replace h := zc_some h
  obtain ⟨r1, z2, hc3, h⟩ := h
  refine zr_calli (zrun_V (As := [.int x2, .int (1 : Int32)]) (rest := []) zq_2549 zq_2551 zs_X19_of zq_2552 zq_4 hdX19_of (by decide) (T := TX19) (N := 32) rfl (okX19_of l D cy B ids hst N x0 hx0 x2  (1 : Int32)  hr.2.2 hc3) F hr hx0 hl.1 rfl (by decide) dX19_routerSends_3 rfl rfl hroX19_routerSends_X19_of ⟨Nat.zero_le _, Nat.zero_le _⟩) F hA hr (fun H locs hw4 hr => ?_)
  clear hc3
  refine lv_istore (lv' := [(4, .int r1), (0, .ref (B 19 x0)), (1, .ref (B 12 x1)), (2, .int x2), (3, .int x3)]) F.1 F.2.1 dX19_routerSends_6 hl (by decide) rfl (fun ls hl => ?_)
  refine lv_iload F.1 F.2.1 dX19_routerSends_8 (lv_at hl 0 rfl) ?_
  refine lv_bipush (v := (16 : Int32)) F.1 F.2.1 dX19_routerSends_10 (by decide) ?_
  refine lv_ishr F.1 F.2.1 dX19_routerSends_12 ?_
  refine lv_sipush (v := (255 : Int32)) F.1 F.2.1 dX19_routerSends_13 (by decide) ?_
  refine lv_iand F.1 F.2.1 dX19_routerSends_16 ?_
  refine lv_topi (fun v5 ev5 => ?_)
  replace h := zl_sub ev5 h
  refine lv_istore (lv' := [(5, .int v5), (4, .int r1), (0, .ref (B 19 x0)), (1, .ref (B 12 x1)), (2, .int x2), (3, .int x3)]) F.1 F.2.1 dX19_routerSends_17 hl (by decide) rfl (fun ls hl => ?_)
  refine lv_aload_n F.1 F.2.1 dX19_routerSends_19 rfl (lv_at hl 2 rfl) ?_
  refine lv_iload F.1 F.2.1 dX19_routerSends_20 (lv_at hl 1 rfl) ?_
  replace h := zc_some h
  obtain ⟨r6, z7, hc8, h⟩ := h
  refine zr_calli (zrun_V (As := [.int r1]) (rest := []) zq_2780 zq_2782 zs_X19_isAddress zq_2783 zq_4 hdX19_isAddress (by decide) (T := TX19) (N := 32) rfl (okX19_isAddress l D cy B ids hst N x0 hx0 r1  hr.2.2 hc8) F hr hx0 hl.1 rfl (by decide) dX19_routerSends_22 rfl rfl hroX19_routerSends_X19_isAddress ⟨Nat.zero_le _, Nat.zero_le _⟩) F hA hr (fun H locs hw9 hr => ?_)
  clear hc8
  refine lv_if_eq (tgt := 39) F.1 F.2.1 dX19_routerSends_25 (by decide) (fun c10 => ?_) (fun c10 => ?_)
  · replace h := zi_t c10 h
    exact bX19_routerSends_39 hst F hA E  x0 x1 x2 hx0 hx1 hr (lv_sub hl [2, 3, 4] rfl) h
  · replace h := zi_f c10 h
    refine lv_aload_n F.1 F.2.1 dX19_routerSends_28 rfl (lv_at hl 3 rfl) ?_
    refine gf19_301 F hx1 hr dX19_routerSends_29 ?_
    refine lv_iload F.1 F.2.1 dX19_routerSends_32 (lv_at hl 0 rfl) ?_
    replace h := zk_some h
    obtain ⟨c11, h⟩ := h
    refine zr_iald (k := 155) (by decide) rfl (by decide) F (zal_a F hx1 (j := 25) rfl) hr dX19_routerSends_34 c11 ?_
    refine lv_iconst (v := (-1 : Int32)) F.1 F.2.1 dX19_routerSends_35 (by decide) ?_
    refine lv_icmp_ne (tgt := 46) F.1 F.2.1 dX19_routerSends_36 (by decide) (fun c12 => ?_) (fun c12 => ?_)
    · replace h := zi_t c12 h
      refine lv_null F.1 F.2.1 dX19_routerSends_46 ?_
      refine lv_astoreN (lv' := [(6, .null), (5, .int v5), (4, .int r1), (0, .ref (B 19 x0)), (1, .ref (B 12 x1)), (2, .int x2), (3, .int x3)]) F.1 F.2.1 dX19_routerSends_47 hl (by decide) rfl (fun ls hl => ?_)
      refine lv_iconst (v := (0 : Int32)) F.1 F.2.1 dX19_routerSends_49 (by decide) ?_
      refine lv_istore (lv' := [(7, .int (0 : Int32)), (6, .null), (5, .int v5), (4, .int r1), (0, .ref (B 19 x0)), (1, .ref (B 12 x1)), (2, .int x2), (3, .int x3)]) F.1 F.2.1 dX19_routerSends_50 hl (by decide) rfl (fun ls hl => ?_)
      exact lX19_routerSends_52 hst F hA E  _ x0 x1 x2 x3 r1 v5 none (0 : Int32) hx0 hx1 zal_0 hr (lv_sub hl [4, 5, 6, 7, 3, 2, 1, 0] rfl) h
    · replace h := zi_f (fun q => q c12) h
      exact bX19_routerSends_39 hst F hA E  x0 x1 x2 hx0 hx1 hr (lv_sub hl [2, 3, 4] rfl) h
end SX19_routerSends
set_option maxRecDepth 100000 in
theorem okX19_routerSends (l : Launch) (D : va_G) (cy : Nat → ClassId) (B : Nat → Nat → Nat) (ids : List (Nat × Nat)) (hst : zSt B ids) (N : Nat) (x0 : Nat) (hx0 : (19, x0) ∈ ids) (x1 : Nat) (hx1 : (12, x1) ∈ ids) (x2 : Int32) (x3 : Int32) {z : St} {r : Int32} {z' : St} (hW : zWf ids z) (h : fX19_routerSends N x0 x1 x2 x3 z = some (r, z')) : zM l yX19_routerSends (zws yX19_routerSends cX19_routerSends 8 none) rmX19_routerSends D cy B ids [.ref (B 19 x0), .ref (B 12 x1), .int x2, .int x3] none True z z' :=
  zM_of hst hW (by decide +kernel) (Nat.le_of_ble_eq_true rfl) (fun p e s m args below meth c A ls F hA hret hlocks hr hl => bX19_routerSends_0 hst F hA (zEnd_v F hret hlocks) x0 x1 x2 x3 hx0 hx1 hr hl h)
abbrev rmX19_comeBack : Room := { frames := 11, cells := 0, slots := 0, locals := 288 }
theorem hdX19_comeBack : yX19_comeBack.cls ≠ "java/lang/invoke/MethodHandle" ∧ yX19_comeBack.cls ≠ "java/lang/invoke/VarHandle" ∧ (parseMethodDescriptor yX19_comeBack.desc).map (fun d => d.parameters.length) = some 2 := by decide +kernel
theorem hroX19_comeBack_X18_address : rmX18_address.frames + 1 ≤ rmX19_comeBack.frames ∧ 8 + (1 + 11) + rmX18_address.locals ≤ rmX19_comeBack.locals := by decide
theorem hroX19_comeBack_X19_act : rmX19_act.frames + 1 ≤ rmX19_comeBack.frames ∧ 8 + (8 + 11) + rmX19_act.locals ≤ rmX19_comeBack.locals := by decide
theorem hroX19_comeBack_X19_drop : rmX19_drop.frames + 1 ≤ rmX19_comeBack.frames ∧ 8 + (2 + 11) + rmX19_drop.locals ≤ rmX19_comeBack.locals := by decide
theorem hroX19_comeBack_X19_hostSends : rmX19_hostSends.frames + 1 ≤ rmX19_comeBack.frames ∧ 8 + (6 + 11) + rmX19_hostSends.locals ≤ rmX19_comeBack.locals := by decide
theorem hroX19_comeBack_X19_isOwn : rmX19_isOwn.frames + 1 ≤ rmX19_comeBack.frames ∧ 8 + (4 + 11) + rmX19_isOwn.locals ≤ rmX19_comeBack.locals := by decide
theorem hroX19_comeBack_X19_make : rmX19_make.frames + 1 ≤ rmX19_comeBack.frames ∧ 8 + (7 + 11) + rmX19_make.locals ≤ rmX19_comeBack.locals := by decide
theorem hroX19_comeBack_X19_of : rmX19_of.frames + 1 ≤ rmX19_comeBack.frames ∧ 8 + (3 + 11) + rmX19_of.locals ≤ rmX19_comeBack.locals := by decide
theorem hroX19_comeBack_X19_routerSends : rmX19_routerSends.frames + 1 ≤ rmX19_comeBack.frames ∧ 8 + (8 + 11) + rmX19_routerSends.locals ≤ rmX19_comeBack.locals := by decide
theorem hroX19_comeBack_X19_seg : rmX19_seg.frames + 1 ≤ rmX19_comeBack.frames ∧ 8 + (3 + 11) + rmX19_seg.locals ≤ rmX19_comeBack.locals := by decide
theorem hroX19_comeBack_X19_set : rmX19_set.frames + 1 ≤ rmX19_comeBack.frames ∧ 8 + (4 + 11) + rmX19_set.locals ≤ rmX19_comeBack.locals := by decide
section SX19_comeBack
variable {p : Program} {l : Launch} {e : Env} {s : State} {m : MethodId} {args : Array Value} {below : List Frame} {meth : Method} {c : Code} {Q : State → Prop} {D : va_G} {cy : Nat → ClassId} {B : Nat → Nat → Nat} {ids : List (Nat × Nat)} {A : Nat → Prop}
def fX19_comeBack_186 (N : Nat)  (x0 : Nat) (x7 : Int32) (z : St) : Option (Int32 × St) := zc (fX19_drop N x0 x7 z) fun _ z2 => some (0, z2)
set_option maxHeartbeats 4000000 in
set_option maxRecDepth 100000 in
theorem bX19_comeBack_186 (hst : zSt B ids) (F : zFx p m c cX19_comeBack 8 s args RX19 D cy B ids A) (hA : ∀ q : Nat, s.heap.size ≤ q → A q) {r : Int32} {z' : St} (E : zEnd p l e rmX19_comeBack s m args below meth c cX19_comeBack D cy B ids A Q none z' .return_ True) {N : Nat}  (x0 : Nat) (x7 : Int32) (hx0 : (19, x0) ∈ ids) {z : St} {H : Heap} {locs : List Loc} {ls : Array Slot} (hr : zRep D cy B ids A s.heap z H locs) (hl : lv_has ls 8 [(0, .ref (B 19 x0)), (7, .int x7)]) (h : fX19_comeBack_186 N x0 x7 z = some (r, z')) : W p l e rmX19_comeBack s m args below meth c H locs 0 0 Q (F0 m 186 ls []) := by
  unfold fX19_comeBack_186 at h
  refine lv_aload_n F.1 F.2.1 dX19_comeBack_186 rfl (lv_at hl 0 rfl) ?_
  refine lv_iload F.1 F.2.1 dX19_comeBack_187 (lv_at hl 1 rfl) ?_
  replace h := zc_some h
  obtain ⟨r1, z2, hc3, h⟩ := h
  refine zr_callv (zrun_V (As := [.int x7]) (rest := []) zq_2545 zq_2547 zs_X19_drop zq_2548 zq_4 hdX19_drop (by decide) (T := TX19) (N := 32) rfl (okX19_drop l D cy B ids hst N x0 hx0 x7  hr.2.2 hc3) F hr hx0 hl.1 rfl (by decide) dX19_comeBack_189 rfl rfl hroX19_comeBack_X19_drop ⟨Nat.zero_le _, Nat.zero_le _⟩) F hA hr (fun H locs hw4 hr => ?_)
  clear hc3
  obtain ⟨rfl, rfl⟩ := zret h
  exact E _ _ _ _ dX19_comeBack_192 trivial hr
def fX19_comeBack (N : Nat)  (x0 : Nat) (x1 : Nat) (x2 : Int32) (z : St) : Option (Int32 × St) := zc (fX19_of N x0 x2 (2 : Int32) z) fun r1 z2 => if ¬ r1 = (1 : Int32) then (some (0, z2)) else (zc (fX19_of N x0 x2 (6 : Int32) z2) fun r6 z7 => if r6 = 0 then (zc (fX19_of N x0 x2 (0 : Int32) z7) fun r11 z12 => zc (fX19_of N x0 x2 (1 : Int32) z12) fun r15 z16 => zc (fX19_of N x0 x2 (10 : Int32) z16) fun r19 z20 => zc (fX19_seg N x0 r19 (0 : Int32) z20) fun r23 z24 => zc (fX19_of N x0 x2 (10 : Int32) z24) fun r27 z28 => zc (fX19_seg N x0 r27 (1 : Int32) z28) fun r31 z32 => zc (fX19_isOwn N x0 x1 r11 z32) fun r35 z36 => if r35 = 0 then (zc (fX19_of N x0 x2 (9 : Int32) z36) fun r40 z41 => zk r40 6 <| zl (zgQ z41 147 x1 (Int32.toNatClampNeg r40)) fun y45 => zd y45 fun a46 => zc (fX18_address N a46 z41) fun r47 z48 => zc (fX19_make N x0 x1 (0 : Int32) (36 : Int32) r47 r11 z48) fun r51 z52 => zc (fX19_set N x0 r51 (14 : Int32) r11 z52) fun _ z56 => zc (fX19_set N x0 r51 (15 : Int32) r15 z56) fun _ z60 => zc (fX19_set N x0 r51 (16 : Int32) r23 z60) fun _ z64 => zc (fX19_set N x0 r51 (17 : Int32) r31 z64) fun _ z68 => if (zgI z68 12 1 x1) = 0 then (zc (fX19_hostSends N x0 x1 r51 z68) fun _ z73 => fX19_comeBack_186 N x0 r51 z73) else (zc (fX19_routerSends N x0 x1 r51 (0 : Int32) z68) fun _ z77 => fX19_comeBack_186 N x0 r51 z77)) else (zl (zsI z36 12 9 x1 ((zgI z36 12 9 x1) + (1 : Int32))) fun z80 => zc (fX19_act N x0 x1 r11 r15 r23 r31 z80) fun _ z82 => some (0, z82))) else (some (0, z7)))
set_option maxHeartbeats 4000000 in
set_option maxRecDepth 100000 in
theorem bX19_comeBack_0 (hst : zSt B ids) (F : zFx p m c cX19_comeBack 8 s args RX19 D cy B ids A) (hA : ∀ q : Nat, s.heap.size ≤ q → A q) {r : Int32} {z' : St} (E : zEnd p l e rmX19_comeBack s m args below meth c cX19_comeBack D cy B ids A Q none z' .return_ True) {N : Nat}  (x0 : Nat) (x1 : Nat) (x2 : Int32) (hx0 : (19, x0) ∈ ids) (hx1 : (12, x1) ∈ ids) {z : St} {H : Heap} {locs : List Loc} {ls : Array Slot} (hr : zRep D cy B ids A s.heap z H locs) (hl : lv_has ls 8 [(0, .ref (B 19 x0)), (1, .ref (B 12 x1)), (2, .int x2)]) (h : fX19_comeBack N x0 x1 x2 z = some (r, z')) : W p l e rmX19_comeBack s m args below meth c H locs 0 0 Q (F0 m 0 ls []) := by
  unfold fX19_comeBack at h
  refine lv_aload_n F.1 F.2.1 dX19_comeBack_0 rfl (lv_at hl 0 rfl) ?_
  refine lv_iload_n F.1 F.2.1 dX19_comeBack_1 rfl (lv_at hl 2 rfl) ?_
  refine lv_iconst (v := (2 : Int32)) F.1 F.2.1 dX19_comeBack_2 (by decide) ?_
  replace h := zc_some h
  obtain ⟨r1, z2, hc3, h⟩ := h
  refine zr_calli (zrun_V (As := [.int x2, .int (2 : Int32)]) (rest := []) zq_2549 zq_2551 zs_X19_of zq_2552 zq_4 hdX19_of (by decide) (T := TX19) (N := 32) rfl (okX19_of l D cy B ids hst N x0 hx0 x2  (2 : Int32)  hr.2.2 hc3) F hr hx0 hl.1 rfl (by decide) dX19_comeBack_3 rfl rfl hroX19_comeBack_X19_of ⟨Nat.zero_le _, Nat.zero_le _⟩) F hA hr (fun H locs hw4 hr => ?_)
  clear hc3
  refine lv_iconst (v := (1 : Int32)) F.1 F.2.1 dX19_comeBack_6 (by decide) ?_
  refine lv_icmp_ne (tgt := 20) F.1 F.2.1 dX19_comeBack_7 (by decide) (fun c5 => ?_) (fun c5 => ?_)
  · replace h := zi_t c5 h
    obtain ⟨rfl, rfl⟩ := zret h
    exact E _ _ _ _ dX19_comeBack_20 trivial hr
  · replace h := zi_f (fun q => q c5) h
    refine lv_aload_n F.1 F.2.1 dX19_comeBack_10 rfl (lv_at hl 0 rfl) ?_
    refine lv_iload_n F.1 F.2.1 dX19_comeBack_11 rfl (lv_at hl 2 rfl) ?_
    refine lv_bipush (v := (6 : Int32)) F.1 F.2.1 dX19_comeBack_12 (by decide) ?_
    replace h := zc_some h
    obtain ⟨r6, z7, hc8, h⟩ := h
    refine zr_calli (zrun_V (As := [.int x2, .int (6 : Int32)]) (rest := []) zq_2549 zq_2551 zs_X19_of zq_2552 zq_4 hdX19_of (by decide) (T := TX19) (N := 32) rfl (okX19_of l D cy B ids hst N x0 hx0 x2  (6 : Int32)  hr.2.2 hc8) F hr hx0 hl.1 rfl (by decide) dX19_comeBack_14 rfl rfl hroX19_comeBack_X19_of ⟨Nat.zero_le _, Nat.zero_le _⟩) F hA hr (fun H locs hw9 hr => ?_)
    clear hc8
    refine lv_if_eq (tgt := 21) F.1 F.2.1 dX19_comeBack_17 (by decide) (fun c10 => ?_) (fun c10 => ?_)
    · replace h := zi_t c10 h
      refine lv_aload_n F.1 F.2.1 dX19_comeBack_21 rfl (lv_at hl 0 rfl) ?_
      refine lv_iload_n F.1 F.2.1 dX19_comeBack_22 rfl (lv_at hl 2 rfl) ?_
      refine lv_iconst (v := (0 : Int32)) F.1 F.2.1 dX19_comeBack_23 (by decide) ?_
      replace h := zc_some h
      obtain ⟨r11, z12, hc13, h⟩ := h
      refine zr_calli (zrun_V (As := [.int x2, .int (0 : Int32)]) (rest := []) zq_2549 zq_2551 zs_X19_of zq_2552 zq_4 hdX19_of (by decide) (T := TX19) (N := 32) rfl (okX19_of l D cy B ids hst N x0 hx0 x2  (0 : Int32)  hr.2.2 hc13) F hr hx0 hl.1 rfl (by decide) dX19_comeBack_24 rfl rfl hroX19_comeBack_X19_of ⟨Nat.zero_le _, Nat.zero_le _⟩) F hA hr (fun H locs hw14 hr => ?_)
      clear hc13
      refine lv_istore_n (lv' := [(3, .int r11), (0, .ref (B 19 x0)), (1, .ref (B 12 x1)), (2, .int x2)]) F.1 F.2.1 dX19_comeBack_27 rfl hl (by decide) rfl (fun ls hl => ?_)
      refine lv_aload_n F.1 F.2.1 dX19_comeBack_28 rfl (lv_at hl 1 rfl) ?_
      refine lv_iload_n F.1 F.2.1 dX19_comeBack_29 rfl (lv_at hl 3 rfl) ?_
      refine lv_iconst (v := (1 : Int32)) F.1 F.2.1 dX19_comeBack_30 (by decide) ?_
      replace h := zc_some h
      obtain ⟨r15, z16, hc17, h⟩ := h
      refine zr_calli (zrun_V (As := [.int x2, .int (1 : Int32)]) (rest := []) zq_2549 zq_2551 zs_X19_of zq_2552 zq_4 hdX19_of (by decide) (T := TX19) (N := 32) rfl (okX19_of l D cy B ids hst N x0 hx0 x2  (1 : Int32)  hr.2.2 hc17) F hr hx0 hl.1 rfl (by decide) dX19_comeBack_31 rfl rfl hroX19_comeBack_X19_of ⟨Nat.zero_le _, Nat.zero_le _⟩) F hA hr (fun H locs hw18 hr => ?_)
      clear hc17
      refine lv_istore (lv' := [(4, .int r15), (3, .int r11), (0, .ref (B 19 x0)), (1, .ref (B 12 x1)), (2, .int x2)]) F.1 F.2.1 dX19_comeBack_34 hl (by decide) rfl (fun ls hl => ?_)
      refine lv_aload_n F.1 F.2.1 dX19_comeBack_36 rfl (lv_at hl 2 rfl) ?_
      refine lv_aload_n F.1 F.2.1 dX19_comeBack_37 rfl (lv_at hl 2 rfl) ?_
      refine lv_iload_n F.1 F.2.1 dX19_comeBack_38 rfl (lv_at hl 4 rfl) ?_
      refine lv_bipush (v := (10 : Int32)) F.1 F.2.1 dX19_comeBack_39 (by decide) ?_
      replace h := zc_some h
      obtain ⟨r19, z20, hc21, h⟩ := h
      refine zr_calli (zrun_V (As := [.int x2, .int (10 : Int32)]) (rest := [.ref (B 19 x0)]) zq_2549 zq_2551 zs_X19_of zq_2552 zq_4 hdX19_of (by decide) (T := TX19) (N := 32) rfl (okX19_of l D cy B ids hst N x0 hx0 x2  (10 : Int32)  hr.2.2 hc21) F hr hx0 hl.1 rfl (Nat.le_of_ble_eq_true rfl) dX19_comeBack_41 rfl rfl hroX19_comeBack_X19_of ⟨Nat.zero_le _, Nat.zero_le _⟩) F hA hr (fun H locs hw22 hr => ?_)
      clear hc21
      refine lv_iconst (v := (0 : Int32)) F.1 F.2.1 dX19_comeBack_44 (by decide) ?_
      replace h := zc_some h
      obtain ⟨r23, z24, hc25, h⟩ := h
      refine zr_calli (zrun_V (As := [.int r19, .int (0 : Int32)]) (rest := []) zq_2557 zq_2559 zs_X19_seg zq_2560 zq_4 hdX19_seg (by decide) (T := TX19) (N := 32) rfl (okX19_seg l D cy B ids hst N x0 hx0 r19  (0 : Int32)  hr.2.2 hc25) F hr hx0 hl.1 rfl (by decide) dX19_comeBack_45 rfl rfl hroX19_comeBack_X19_seg ⟨Nat.zero_le _, Nat.zero_le _⟩) F hA hr (fun H locs hw26 hr => ?_)
      clear hc25
      refine lv_istore (lv' := [(5, .int r23), (4, .int r15), (3, .int r11), (0, .ref (B 19 x0)), (1, .ref (B 12 x1)), (2, .int x2)]) F.1 F.2.1 dX19_comeBack_48 hl (by decide) rfl (fun ls hl => ?_)
      refine lv_aload_n F.1 F.2.1 dX19_comeBack_50 rfl (lv_at hl 3 rfl) ?_
      refine lv_aload_n F.1 F.2.1 dX19_comeBack_51 rfl (lv_at hl 3 rfl) ?_
      refine lv_iload_n F.1 F.2.1 dX19_comeBack_52 rfl (lv_at hl 5 rfl) ?_
      refine lv_bipush (v := (10 : Int32)) F.1 F.2.1 dX19_comeBack_53 (by decide) ?_
      replace h := zc_some h
      obtain ⟨r27, z28, hc29, h⟩ := h
      refine zr_calli (zrun_V (As := [.int x2, .int (10 : Int32)]) (rest := [.ref (B 19 x0)]) zq_2549 zq_2551 zs_X19_of zq_2552 zq_4 hdX19_of (by decide) (T := TX19) (N := 32) rfl (okX19_of l D cy B ids hst N x0 hx0 x2  (10 : Int32)  hr.2.2 hc29) F hr hx0 hl.1 rfl (Nat.le_of_ble_eq_true rfl) dX19_comeBack_55 rfl rfl hroX19_comeBack_X19_of ⟨Nat.zero_le _, Nat.zero_le _⟩) F hA hr (fun H locs hw30 hr => ?_)
      clear hc29
      refine lv_iconst (v := (1 : Int32)) F.1 F.2.1 dX19_comeBack_58 (by decide) ?_
      replace h := zc_some h
      obtain ⟨r31, z32, hc33, h⟩ := h
      refine zr_calli (zrun_V (As := [.int r27, .int (1 : Int32)]) (rest := []) zq_2557 zq_2559 zs_X19_seg zq_2560 zq_4 hdX19_seg (by decide) (T := TX19) (N := 32) rfl (okX19_seg l D cy B ids hst N x0 hx0 r27  (1 : Int32)  hr.2.2 hc33) F hr hx0 hl.1 rfl (by decide) dX19_comeBack_59 rfl rfl hroX19_comeBack_X19_seg ⟨Nat.zero_le _, Nat.zero_le _⟩) F hA hr (fun H locs hw34 hr => ?_)
      clear hc33
      refine lv_istore (lv' := [(6, .int r31), (5, .int r23), (4, .int r15), (3, .int r11), (0, .ref (B 19 x0)), (1, .ref (B 12 x1)), (2, .int x2)]) F.1 F.2.1 dX19_comeBack_62 hl (by decide) rfl (fun ls hl => ?_)
      refine lv_aload_n F.1 F.2.1 dX19_comeBack_64 rfl (lv_at hl 4 rfl) ?_
      refine lv_aload_n F.1 F.2.1 dX19_comeBack_65 rfl (lv_at hl 5 rfl) ?_
      refine lv_iload_n F.1 F.2.1 dX19_comeBack_66 rfl (lv_at hl 3 rfl) ?_
      replace h := zc_some h
      obtain ⟨r35, z36, hc37, h⟩ := h
      refine zr_calli (zrun_V (As := [.ref (B 12 x1), .int r11]) (rest := []) zq_2627 zq_2629 zs_X19_isOwn zq_2630 zq_4 hdX19_isOwn (by decide) (T := TX19) (N := 32) rfl (okX19_isOwn l D cy B ids hst N x0 hx0 x1 hx1 r11  hr.2.2 hc37) F hr hx0 hl.1 rfl (by decide) dX19_comeBack_67 rfl rfl hroX19_comeBack_X19_isOwn ⟨Nat.zero_le _, Nat.zero_le _⟩) F hA hr (fun H locs hw38 hr => ?_)
      clear hc37
      refine lv_if_eq (tgt := 96) F.1 F.2.1 dX19_comeBack_70 (by decide) (fun c39 => ?_) (fun c39 => ?_)
      · replace h := zi_t c39 h
        refine lv_aload_n F.1 F.2.1 dX19_comeBack_96 rfl (lv_at hl 4 rfl) ?_
        refine lv_aload_n F.1 F.2.1 dX19_comeBack_97 rfl (lv_at hl 5 rfl) ?_
        refine lv_iconst (v := (0 : Int32)) F.1 F.2.1 dX19_comeBack_98 (by decide) ?_
        refine lv_bipush (v := (36 : Int32)) F.1 F.2.1 dX19_comeBack_99 (by decide) ?_
        refine lv_aload_n F.1 F.2.1 dX19_comeBack_101 rfl (lv_at hl 5 rfl) ?_
        refine gf19_276 F hx1 hr dX19_comeBack_102 ?_
        refine lv_aload_n F.1 F.2.1 dX19_comeBack_105 rfl (lv_at hl 4 rfl) ?_
        refine lv_iload_n F.1 F.2.1 dX19_comeBack_106 rfl (lv_at hl 6 rfl) ?_
        refine lv_bipush (v := (9 : Int32)) F.1 F.2.1 dX19_comeBack_107 (by decide) ?_
        replace h := zc_some h
        obtain ⟨r40, z41, hc42, h⟩ := h
        refine zr_calli (zrun_V (As := [.int x2, .int (9 : Int32)]) (rest := [.ref (B 147 x1), .int (36 : Int32), .int (0 : Int32), .ref (B 12 x1), .ref (B 19 x0)]) zq_2549 zq_2551 zs_X19_of zq_2552 zq_4 hdX19_of (by decide) (T := TX19) (N := 32) rfl (okX19_of l D cy B ids hst N x0 hx0 x2  (9 : Int32)  hr.2.2 hc42) F hr hx0 hl.1 rfl (Nat.le_of_ble_eq_true rfl) dX19_comeBack_109 rfl rfl hroX19_comeBack_X19_of ⟨Nat.zero_le _, Nat.zero_le _⟩) F hA hr (fun H locs hw43 hr => ?_)
        clear hc42
        replace h := zk_some h
        obtain ⟨c44, h⟩ := h
        refine zr_aaldv (k := 147) (by decide) rfl rfl (zlen_d (by decide)) F (zal_a F hx1 (j := 2) rfl) hr dX19_comeBack_112 c44 (fun y45 ey45 => ?_)
        replace h := zl_sub ey45 h
        have hy45 := zal_q hr (zal_a F hx1 (j := 2) rfl) rfl ey45
        clear ey45
        replace h := zd_some h
        obtain ⟨a46, rfl, h⟩ := h
        replace h := zc_some h
        obtain ⟨r47, z48, hc49, h⟩ := h
        refine zr_calli (zrun_VN (As := []) (rest := [.int (36 : Int32), .int (0 : Int32), .ref (B 12 x1), .ref (B 19 x0)]) zn_2520 zq_2522 zs_X18_address zq_2523 zq_25 hdX18_address (by decide) (T := TX18) (N := 13) rfl (okX18_address l D cy B ids hst N a46 (hy45 _ rfl) hr.2.2 hc49) F hr (hy45 _ rfl) hl.1 rfl (Nat.le_of_ble_eq_true rfl) dX19_comeBack_113 rfl rfl hroX19_comeBack_X18_address ⟨Nat.zero_le _, Nat.zero_le _⟩) F hA hr (fun H locs hw50 hr => ?_)
        clear hc49
        refine lv_iload_n F.1 F.2.1 dX19_comeBack_116 rfl (lv_at hl 3 rfl) ?_
        replace h := zc_some h
        obtain ⟨r51, z52, hc53, h⟩ := h
        refine zr_calli (zrun_V (As := [.ref (B 12 x1), .int (0 : Int32), .int (36 : Int32), .int r47, .int r11]) (rest := []) zq_2765 zq_2767 zs_X19_make zq_2768 zq_4 hdX19_make (by decide) (T := TX19) (N := 32) rfl (okX19_make l D cy B ids hst N x0 hx0 x1 hx1 (0 : Int32)  (36 : Int32)  r47  r11  hr.2.2 hc53) F hr hx0 hl.1 rfl (by decide) dX19_comeBack_117 rfl rfl hroX19_comeBack_X19_make ⟨Nat.zero_le _, Nat.zero_le _⟩) F hA hr (fun H locs hw54 hr => ?_)
        clear hc53
        refine lv_istore (lv' := [(7, .int r51), (6, .int r31), (5, .int r23), (4, .int r15), (3, .int r11), (0, .ref (B 19 x0)), (1, .ref (B 12 x1)), (2, .int x2)]) F.1 F.2.1 dX19_comeBack_120 hl (by decide) rfl (fun ls hl => ?_)
        refine lv_aload_n F.1 F.2.1 dX19_comeBack_122 rfl (lv_at hl 5 rfl) ?_
        refine lv_iload F.1 F.2.1 dX19_comeBack_123 (lv_at hl 0 rfl) ?_
        refine lv_bipush (v := (14 : Int32)) F.1 F.2.1 dX19_comeBack_125 (by decide) ?_
        refine lv_iload_n F.1 F.2.1 dX19_comeBack_127 rfl (lv_at hl 4 rfl) ?_
        replace h := zc_some h
        obtain ⟨r55, z56, hc57, h⟩ := h
        refine zr_callv (zrun_V (As := [.int r51, .int (14 : Int32), .int r11]) (rest := []) zq_2623 zq_2625 zs_X19_set zq_2626 zq_4 hdX19_set (by decide) (T := TX19) (N := 32) rfl (okX19_set l D cy B ids hst N x0 hx0 r51  (14 : Int32)  r11  hr.2.2 hc57) F hr hx0 hl.1 rfl (by decide) dX19_comeBack_128 rfl rfl hroX19_comeBack_X19_set ⟨Nat.zero_le _, Nat.zero_le _⟩) F hA hr (fun H locs hw58 hr => ?_)
        clear hc57
        refine lv_aload_n F.1 F.2.1 dX19_comeBack_131 rfl (lv_at hl 5 rfl) ?_
        refine lv_iload F.1 F.2.1 dX19_comeBack_132 (lv_at hl 0 rfl) ?_
        refine lv_bipush (v := (15 : Int32)) F.1 F.2.1 dX19_comeBack_134 (by decide) ?_
        refine lv_iload F.1 F.2.1 dX19_comeBack_136 (lv_at hl 3 rfl) ?_
        replace h := zc_some h
        obtain ⟨r59, z60, hc61, h⟩ := h
        refine zr_callv (zrun_V (As := [.int r51, .int (15 : Int32), .int r15]) (rest := []) zq_2623 zq_2625 zs_X19_set zq_2626 zq_4 hdX19_set (by decide) (T := TX19) (N := 32) rfl (okX19_set l D cy B ids hst N x0 hx0 r51  (15 : Int32)  r15  hr.2.2 hc61) F hr hx0 hl.1 rfl (by decide) dX19_comeBack_138 rfl rfl hroX19_comeBack_X19_set ⟨Nat.zero_le _, Nat.zero_le _⟩) F hA hr (fun H locs hw62 hr => ?_)
        clear hc61
        refine lv_aload_n F.1 F.2.1 dX19_comeBack_141 rfl (lv_at hl 5 rfl) ?_
        refine lv_iload F.1 F.2.1 dX19_comeBack_142 (lv_at hl 0 rfl) ?_
        refine lv_bipush (v := (16 : Int32)) F.1 F.2.1 dX19_comeBack_144 (by decide) ?_
        refine lv_iload F.1 F.2.1 dX19_comeBack_146 (lv_at hl 2 rfl) ?_
        replace h := zc_some h
        obtain ⟨r63, z64, hc65, h⟩ := h
        refine zr_callv (zrun_V (As := [.int r51, .int (16 : Int32), .int r23]) (rest := []) zq_2623 zq_2625 zs_X19_set zq_2626 zq_4 hdX19_set (by decide) (T := TX19) (N := 32) rfl (okX19_set l D cy B ids hst N x0 hx0 r51  (16 : Int32)  r23  hr.2.2 hc65) F hr hx0 hl.1 rfl (by decide) dX19_comeBack_148 rfl rfl hroX19_comeBack_X19_set ⟨Nat.zero_le _, Nat.zero_le _⟩) F hA hr (fun H locs hw66 hr => ?_)
        clear hc65
        refine lv_aload_n F.1 F.2.1 dX19_comeBack_151 rfl (lv_at hl 5 rfl) ?_
        refine lv_iload F.1 F.2.1 dX19_comeBack_152 (lv_at hl 0 rfl) ?_
        refine lv_bipush (v := (17 : Int32)) F.1 F.2.1 dX19_comeBack_154 (by decide) ?_
        refine lv_iload F.1 F.2.1 dX19_comeBack_156 (lv_at hl 1 rfl) ?_
        replace h := zc_some h
        obtain ⟨r67, z68, hc69, h⟩ := h
        refine zr_callv (zrun_V (As := [.int r51, .int (17 : Int32), .int r31]) (rest := []) zq_2623 zq_2625 zs_X19_set zq_2626 zq_4 hdX19_set (by decide) (T := TX19) (N := 32) rfl (okX19_set l D cy B ids hst N x0 hx0 r51  (17 : Int32)  r31  hr.2.2 hc69) F hr hx0 hl.1 rfl (by decide) dX19_comeBack_158 rfl rfl hroX19_comeBack_X19_set ⟨Nat.zero_le _, Nat.zero_le _⟩) F hA hr (fun H locs hw70 hr => ?_)
        clear hc69
        refine lv_aload_n F.1 F.2.1 dX19_comeBack_161 rfl (lv_at hl 6 rfl) ?_
        refine gf19_298 F hx1 hr dX19_comeBack_162 ?_
        refine lv_if_eq (tgt := 179) F.1 F.2.1 dX19_comeBack_165 (by decide) (fun c71 => ?_) (fun c71 => ?_)
        · replace h := zi_t c71 h
          refine lv_aload_n F.1 F.2.1 dX19_comeBack_179 rfl (lv_at hl 5 rfl) ?_
          refine lv_aload_n F.1 F.2.1 dX19_comeBack_180 rfl (lv_at hl 6 rfl) ?_
          refine lv_iload F.1 F.2.1 dX19_comeBack_181 (lv_at hl 0 rfl) ?_
          replace h := zc_some h
          obtain ⟨r72, z73, hc74, h⟩ := h
          refine zr_callv (zrun_V (As := [.ref (B 12 x1), .int r51]) (rest := []) zq_2773 zq_2775 zs_X19_hostSends zq_2776 zq_4 hdX19_hostSends (by decide) (T := TX19) (N := 32) rfl (okX19_hostSends l D cy B ids hst N x0 hx0 x1 hx1 r51  hr.2.2 hc74) F hr hx0 hl.1 rfl (by decide) dX19_comeBack_183 rfl rfl hroX19_comeBack_X19_hostSends ⟨Nat.zero_le _, Nat.zero_le _⟩) F hA hr (fun H locs hw75 hr => ?_)
          clear hc74
          exact bX19_comeBack_186 hst F hA E  x0 r51 hx0 hr (lv_sub hl [5, 0] rfl) h
        · replace h := zi_f c71 h
          refine lv_aload_n F.1 F.2.1 dX19_comeBack_168 rfl (lv_at hl 5 rfl) ?_
          refine lv_aload_n F.1 F.2.1 dX19_comeBack_169 rfl (lv_at hl 6 rfl) ?_
          refine lv_iload F.1 F.2.1 dX19_comeBack_170 (lv_at hl 0 rfl) ?_
          refine lv_iconst (v := (0 : Int32)) F.1 F.2.1 dX19_comeBack_172 (by decide) ?_
          replace h := zc_some h
          obtain ⟨r76, z77, hc78, h⟩ := h
          refine zr_callv (zrun_V (As := [.ref (B 12 x1), .int r51, .int (0 : Int32)]) (rest := []) zq_2806 zq_2808 zs_X19_routerSends zq_2809 zq_4 hdX19_routerSends (by decide) (T := TX19) (N := 32) rfl (okX19_routerSends l D cy B ids hst N x0 hx0 x1 hx1 r51  (0 : Int32)  hr.2.2 hc78) F hr hx0 hl.1 rfl (by decide) dX19_comeBack_173 rfl rfl hroX19_comeBack_X19_routerSends ⟨Nat.zero_le _, Nat.zero_le _⟩) F hA hr (fun H locs hw79 hr => ?_)
          clear hc78
          refine lv_goto (tgt := 186) F.1 F.2.1 dX19_comeBack_176 (by decide) ?_
          exact bX19_comeBack_186 hst F hA E  x0 r51 hx0 hr (lv_sub hl [5, 0] rfl) h
      · replace h := zi_f c39 h
        refine lv_aload_n F.1 F.2.1 dX19_comeBack_73 rfl (lv_at hl 5 rfl) ?_
        refine lv_dup F.1 F.2.1 dX19_comeBack_74 rfl ?_
        refine gf19_322 F hx1 hr dX19_comeBack_75 ?_
        refine lv_iconst (v := (1 : Int32)) F.1 F.2.1 dX19_comeBack_78 (by decide) ?_
        refine lv_iadd F.1 F.2.1 dX19_comeBack_79 ?_
        refine pf19_322 F hx1 hr dX19_comeBack_80 ((zgI z36 12 9 x1) + (1 : Int32)) (fun H locs z80 ez80 hr => ?_)
        replace h := zl_sub ez80 h
        clear ez80
        refine lv_aload_n F.1 F.2.1 dX19_comeBack_83 rfl (lv_at hl 4 rfl) ?_
        refine lv_aload_n F.1 F.2.1 dX19_comeBack_84 rfl (lv_at hl 5 rfl) ?_
        refine lv_iload_n F.1 F.2.1 dX19_comeBack_85 rfl (lv_at hl 3 rfl) ?_
        refine lv_iload F.1 F.2.1 dX19_comeBack_86 (lv_at hl 2 rfl) ?_
        refine lv_iload F.1 F.2.1 dX19_comeBack_88 (lv_at hl 1 rfl) ?_
        refine lv_iload F.1 F.2.1 dX19_comeBack_90 (lv_at hl 0 rfl) ?_
        replace h := zc_some h
        obtain ⟨r81, z82, hc83, h⟩ := h
        refine zr_callv (zrun_V (As := [.ref (B 12 x1), .int r11, .int r15, .int r23, .int r31]) (rest := []) zq_2639 zq_2641 zs_X19_act zq_2642 zq_4 hdX19_act (by decide) (T := TX19) (N := 32) rfl (okX19_act l D cy B ids hst N x0 hx0 x1 hx1 r11  r15  r23  r31  hr.2.2 hc83) F hr hx0 hl.1 rfl (by decide) dX19_comeBack_92 rfl rfl hroX19_comeBack_X19_act ⟨Nat.zero_le _, Nat.zero_le _⟩) F hA hr (fun H locs hw84 hr => ?_)
        clear hc83
        obtain ⟨rfl, rfl⟩ := zret h
        exact E _ _ _ _ dX19_comeBack_95 trivial hr
    · replace h := zi_f c10 h
      obtain ⟨rfl, rfl⟩ := zret h
      exact E _ _ _ _ dX19_comeBack_20 trivial hr
end SX19_comeBack
set_option maxRecDepth 100000 in
theorem okX19_comeBack (l : Launch) (D : va_G) (cy : Nat → ClassId) (B : Nat → Nat → Nat) (ids : List (Nat × Nat)) (hst : zSt B ids) (N : Nat) (x0 : Nat) (hx0 : (19, x0) ∈ ids) (x1 : Nat) (hx1 : (12, x1) ∈ ids) (x2 : Int32) {z : St} {r : Int32} {z' : St} (hW : zWf ids z) (h : fX19_comeBack N x0 x1 x2 z = some (r, z')) : zM l yX19_comeBack (zws yX19_comeBack cX19_comeBack 8 none) rmX19_comeBack D cy B ids [.ref (B 19 x0), .ref (B 12 x1), .int x2] none True z z' :=
  zM_of hst hW (by decide +kernel) (Nat.le_of_ble_eq_true rfl) (fun p e s m args below meth c A ls F hA hret hlocks hr hl => bX19_comeBack_0 hst F hA (zEnd_v F hret hlocks) x0 x1 x2 hx0 hx1 hr hl h)
