abbrev rmX19_takeEnd : Room := { frames := 1, cells := 0, slots := 0, locals := 21 }
theorem hdX19_takeEnd : yX19_takeEnd.cls ≠ "java/lang/invoke/MethodHandle" ∧ yX19_takeEnd.cls ≠ "java/lang/invoke/VarHandle" ∧ (parseMethodDescriptor yX19_takeEnd.desc).map (fun d => d.parameters.length) = some 1 := by decide +kernel
theorem hroX19_takeEnd_X19_dropBook : rmX19_dropBook.frames + 1 ≤ rmX19_takeEnd.frames ∧ 8 + (2 + 11) + rmX19_dropBook.locals ≤ rmX19_takeEnd.locals := by decide
section SX19_takeEnd
variable {p : Program} {l : Launch} {e : Env} {s : State} {m : MethodId} {args : Array Value} {below : List Frame} {meth : Method} {c : Code} {Q : State → Prop} {D : va_G} {cy : Nat → ClassId} {B : Nat → Nat → Nat} {ids : List (Nat × Nat)} {A : Nat → Prop}
def fX19_takeEnd (N : Nat)  (x0 : Nat) (x1 : Nat) (z : St) : Option (Int32 × St) := zl (zsI z 13 3 x1 (0 : Int32)) fun z1 => zl (zgR z1 13 4 x1) fun y2 => zd y2 fun a3 => zc (fX19_dropBook N x0 (zgI z1 14 44 a3) z1) fun _ z5 => zl (zgR z5 13 4 x1) fun y8 => zd y8 fun a9 => zc (fX19_dropBook N x0 (zgI z5 14 45 a9) z5) fun _ z11 => zl (zgR z11 13 4 x1) fun y14 => zd y14 fun a15 => zl (zsI z11 14 44 a15 (-1 : Int32)) fun z16 => zl (zgR z16 13 4 x1) fun y17 => zd y17 fun a18 => zl (zsI z16 14 45 a18 (-1 : Int32)) fun z19 => some (0, z19)
set_option maxHeartbeats 4000000 in
set_option maxRecDepth 100000 in
theorem bX19_takeEnd_0 (hst : zSt B ids) (F : zFx p m c cX19_takeEnd 2 s args RX19 D cy B ids A) (hA : ∀ q : Nat, s.heap.size ≤ q → A q) {r : Int32} {z' : St} (E : zEnd p l e rmX19_takeEnd s m args below meth c cX19_takeEnd D cy B ids A Q none z' .return_ True) {N : Nat}  (x0 : Nat) (x1 : Nat) (hx0 : (19, x0) ∈ ids) (hx1 : (13, x1) ∈ ids) {z : St} {H : Heap} {locs : List Loc} {ls : Array Slot} (hr : zRep D cy B ids A s.heap z H locs) (hl : lv_has ls 2 [(0, .ref (B 19 x0)), (1, .ref (B 13 x1))]) (h : fX19_takeEnd N x0 x1 z = some (r, z')) : W p l e rmX19_takeEnd s m args below meth c H locs 0 0 Q (F0 m 0 ls []) := by
  unfold fX19_takeEnd at h
  refine lv_aload_n F.1 F.2.1 dX19_takeEnd_0 rfl (lv_at hl 1 rfl) ?_
  refine lv_iconst (v := (0 : Int32)) F.1 F.2.1 dX19_takeEnd_1 (by decide) ?_
  refine pf19_350 F hx1 hr dX19_takeEnd_2 (0 : Int32) (by decide) (fun H locs z1 ez1 hr => ?_)
  replace h := zl_sub ez1 h
  clear ez1
  refine lv_aload_n F.1 F.2.1 dX19_takeEnd_5 rfl (lv_at hl 0 rfl) ?_
  refine lv_aload_n F.1 F.2.1 dX19_takeEnd_6 rfl (lv_at hl 1 rfl) ?_
  refine gf19_344 F hx1 hr dX19_takeEnd_7 (fun y2 ey2 => ?_)
  replace h := zl_sub ey2 h
  have hy2 := zal_g hr hx1 (j := 4) rfl ey2
  clear ey2
  replace h := zd_some h
  obtain ⟨a3, rfl, h⟩ := h
  refine gf19_732 F (hy2 _ rfl) hr dX19_takeEnd_10 ?_
  replace h := zc_some h
  obtain ⟨r4, z5, hc6, h⟩ := h
  refine zr_callv (zrun_V (As := [.int (zgI z1 14 44 a3)]) (rest := []) zq_2561 zq_2563 zs_X19_dropBook zq_2564 zq_4 hdX19_dropBook (by decide) (T := TX19) (N := 32) rfl (okX19_dropBook l D cy B ids hst N x0 hx0 (zgI z1 14 44 a3)  hr.2.2 hc6) F hr hx0 hl.1 rfl (by decide) dX19_takeEnd_13 rfl rfl hroX19_takeEnd_X19_dropBook ⟨Nat.zero_le _, Nat.zero_le _⟩) F hA hr (fun H locs hw7 hr => ?_)
  clear hc6
  refine lv_aload_n F.1 F.2.1 dX19_takeEnd_16 rfl (lv_at hl 0 rfl) ?_
  refine lv_aload_n F.1 F.2.1 dX19_takeEnd_17 rfl (lv_at hl 1 rfl) ?_
  refine gf19_344 F hx1 hr dX19_takeEnd_18 (fun y8 ey8 => ?_)
  replace h := zl_sub ey8 h
  have hy8 := zal_g hr hx1 (j := 4) rfl ey8
  clear ey8
  replace h := zd_some h
  obtain ⟨a9, rfl, h⟩ := h
  refine gf19_594 F (hy8 _ rfl) hr dX19_takeEnd_21 ?_
  replace h := zc_some h
  obtain ⟨r10, z11, hc12, h⟩ := h
  refine zr_callv (zrun_V (As := [.int (zgI z5 14 45 a9)]) (rest := []) zq_2561 zq_2563 zs_X19_dropBook zq_2564 zq_4 hdX19_dropBook (by decide) (T := TX19) (N := 32) rfl (okX19_dropBook l D cy B ids hst N x0 hx0 (zgI z5 14 45 a9)  hr.2.2 hc12) F hr hx0 hl.1 rfl (by decide) dX19_takeEnd_24 rfl rfl hroX19_takeEnd_X19_dropBook ⟨Nat.zero_le _, Nat.zero_le _⟩) F hA hr (fun H locs hw13 hr => ?_)
  clear hc12
  refine lv_aload_n F.1 F.2.1 dX19_takeEnd_27 rfl (lv_at hl 1 rfl) ?_
  refine gf19_344 F hx1 hr dX19_takeEnd_28 (fun y14 ey14 => ?_)
  replace h := zl_sub ey14 h
  have hy14 := zal_g hr hx1 (j := 4) rfl ey14
  clear ey14
  refine lv_iconst (v := (-1 : Int32)) F.1 F.2.1 dX19_takeEnd_31 (by decide) ?_
  replace h := zd_some h
  obtain ⟨a15, rfl, h⟩ := h
  refine pf19_732 F (hy14 _ rfl) hr dX19_takeEnd_32 (-1 : Int32) (fun H locs z16 ez16 hr => ?_)
  replace h := zl_sub ez16 h
  clear ez16
  refine lv_aload_n F.1 F.2.1 dX19_takeEnd_35 rfl (lv_at hl 1 rfl) ?_
  refine gf19_344 F hx1 hr dX19_takeEnd_36 (fun y17 ey17 => ?_)
  replace h := zl_sub ey17 h
  have hy17 := zal_g hr hx1 (j := 4) rfl ey17
  clear ey17
  refine lv_iconst (v := (-1 : Int32)) F.1 F.2.1 dX19_takeEnd_39 (by decide) ?_
  replace h := zd_some h
  obtain ⟨a18, rfl, h⟩ := h
  refine pf19_594 F (hy17 _ rfl) hr dX19_takeEnd_40 (-1 : Int32) (fun H locs z19 ez19 hr => ?_)
  replace h := zl_sub ez19 h
  clear ez19
  obtain ⟨rfl, rfl⟩ := zret h
  exact E _ _ _ _ dX19_takeEnd_43 trivial hr
end SX19_takeEnd
set_option maxRecDepth 100000 in
theorem okX19_takeEnd (l : Launch) (D : va_G) (cy : Nat → ClassId) (B : Nat → Nat → Nat) (ids : List (Nat × Nat)) (hst : zSt B ids) (N : Nat) (x0 : Nat) (hx0 : (19, x0) ∈ ids) (x1 : Nat) (hx1 : (13, x1) ∈ ids) {z : St} {r : Int32} {z' : St} (hW : zWf ids z) (h : fX19_takeEnd N x0 x1 z = some (r, z')) : zM l yX19_takeEnd (zws yX19_takeEnd cX19_takeEnd 2 none) rmX19_takeEnd D cy B ids [.ref (B 19 x0), .ref (B 13 x1)] none True z z' :=
  zM_of hst hW (by decide +kernel) (Nat.le_of_ble_eq_true rfl) (fun p e s m args below meth c A ls F hA hret hlocks hr hl => bX19_takeEnd_0 hst F hA (zEnd_v F hret hlocks) x0 x1 hx0 hx1 hr hl h)
abbrev rmX19_read : Room := { frames := 3, cells := 0, slots := 0, locals := 63 }
theorem hdX19_read : yX19_read.cls ≠ "java/lang/invoke/MethodHandle" ∧ yX19_read.cls ≠ "java/lang/invoke/VarHandle" ∧ (parseMethodDescriptor yX19_read.desc).map (fun d => d.parameters.length) = some 1 := by decide +kernel
theorem hroX19_read_X14_read : rmX14_read.frames + 1 ≤ rmX19_read.frames ∧ 8 + (4 + 11) + rmX14_read.locals ≤ rmX19_read.locals := by decide
theorem hroX19_read_X19_written : rmX19_written.frames + 1 ≤ rmX19_read.frames ∧ 8 + (4 + 11) + rmX19_written.locals ≤ rmX19_read.locals := by decide
section SX19_read
variable {p : Program} {l : Launch} {e : Env} {s : State} {m : MethodId} {args : Array Value} {below : List Frame} {meth : Method} {c : Code} {Q : State → Prop} {D : va_G} {cy : Nat → ClassId} {B : Nat → Nat → Nat} {ids : List (Nat × Nat)} {A : Nat → Prop}
def fX19_read_65 (N : Nat)  (x1 : Nat) (x2 : Int32) (s0 : Nat) (s1 : Int32) (s2 : Int32) (z : St) : Option (Int32 × St) := zl (zsI z 19 26 s0 (s1 + s2)) fun z1 => zl (zsI z1 14 46 x1 ((zgI z1 14 46 x1) + (1 : Int32))) fun z2 => some (x2, z2)
set_option maxHeartbeats 4000000 in
set_option maxRecDepth 100000 in
theorem bX19_read_65 (hst : zSt B ids) (F : zFx p m c cX19_read 4 s args RX19 D cy B ids A) (hA : ∀ q : Nat, s.heap.size ≤ q → A q) {r : Int32} {z' : St} (E : zEnd p l e rmX19_read s m args below meth c cX19_read D cy B ids A Q (some (.int r)) z' .ireturn True) {N : Nat}  (x1 : Nat) (x2 : Int32) (s0 : Nat) (s1 : Int32) (s2 : Int32) (hx1 : (14, x1) ∈ ids) (hs0 : (19, s0) ∈ ids) {z : St} {H : Heap} {locs : List Loc} {ls : Array Slot} (hr : zRep D cy B ids A s.heap z H locs) (hl : lv_has ls 4 [(1, .ref (B 14 x1)), (2, .int x2)]) (h : fX19_read_65 N x1 x2 s0 s1 s2 z = some (r, z')) : W p l e rmX19_read s m args below meth c H locs 0 0 Q (F0 m 65 ls [.int s2, .int s1, .ref (B 19 s0)]) := by
  unfold fX19_read_65 at h
  refine lv_iadd F.1 F.2.1 dX19_read_65 ?_
  refine pf19_807 F hs0 hr dX19_read_66 (s1 + s2) (fun H locs z1 ez1 hr => ?_)
  replace h := zl_sub ez1 h
  clear ez1
  refine lv_aload_n F.1 F.2.1 dX19_read_69 rfl (lv_at hl 0 rfl) ?_
  refine lv_dup F.1 F.2.1 dX19_read_70 rfl ?_
  refine gf19_597 F hx1 hr dX19_read_71 ?_
  refine lv_iconst (v := (1 : Int32)) F.1 F.2.1 dX19_read_74 (by decide) ?_
  refine lv_iadd F.1 F.2.1 dX19_read_75 ?_
  refine pf19_597 F hx1 hr dX19_read_76 ((zgI z1 14 46 x1) + (1 : Int32)) (fun H locs z2 ez2 hr => ?_)
  replace h := zl_sub ez2 h
  clear ez2
  refine lv_iload_n F.1 F.2.1 dX19_read_79 rfl (lv_at hl 1 rfl) ?_
  obtain ⟨rfl, rfl⟩ := zret h
  exact E _ _ _ _ dX19_read_80 trivial hr
def fX19_read_50 (N : Nat)  (x0 : Nat) (x1 : Nat) (x2 : Int32) (s0 : Int32) (z : St) : Option (Int32 × St) := if s0 = 0 then (fX19_read_65 N x1 x2 x0 (zgI z 19 26 x0) (1 : Int32) z) else (fX19_read_65 N x1 x2 x0 (zgI z 19 26 x0) (0 : Int32) z)
set_option maxHeartbeats 4000000 in
set_option maxRecDepth 100000 in
theorem bX19_read_50 (hst : zSt B ids) (F : zFx p m c cX19_read 4 s args RX19 D cy B ids A) (hA : ∀ q : Nat, s.heap.size ≤ q → A q) {r : Int32} {z' : St} (E : zEnd p l e rmX19_read s m args below meth c cX19_read D cy B ids A Q (some (.int r)) z' .ireturn True) {N : Nat}  (x0 : Nat) (x1 : Nat) (x2 : Int32) (s0 : Int32) (hx0 : (19, x0) ∈ ids) (hx1 : (14, x1) ∈ ids) {z : St} {H : Heap} {locs : List Loc} {ls : Array Slot} (hr : zRep D cy B ids A s.heap z H locs) (hl : lv_has ls 4 [(0, .ref (B 19 x0)), (1, .ref (B 14 x1)), (2, .int x2)]) (h : fX19_read_50 N x0 x1 x2 s0 z = some (r, z')) : W p l e rmX19_read s m args below meth c H locs 0 0 Q (F0 m 50 ls [.int s0]) := by
  unfold fX19_read_50 at h
  refine lv_istore_n (lv' := [(3, .int s0), (0, .ref (B 19 x0)), (1, .ref (B 14 x1)), (2, .int x2)]) F.1 F.2.1 dX19_read_50 rfl hl (by decide) rfl (fun ls hl => ?_)
  refine lv_aload_n F.1 F.2.1 dX19_read_51 rfl (lv_at hl 1 rfl) ?_
  refine lv_dup F.1 F.2.1 dX19_read_52 rfl ?_
  refine gf19_807 F hx0 hr dX19_read_53 ?_
  refine lv_iload_n F.1 F.2.1 dX19_read_56 rfl (lv_at hl 0 rfl) ?_
  refine lv_if_eq (tgt := 64) F.1 F.2.1 dX19_read_57 (by decide) (fun c1 => ?_) (fun c1 => ?_)
  · replace h := zi_t c1 h
    refine lv_iconst (v := (1 : Int32)) F.1 F.2.1 dX19_read_64 (by decide) ?_
    exact bX19_read_65 hst F hA E  x1 x2 x0 (zgI z 19 26 x0) (1 : Int32) hx1 hx0 hr (lv_sub hl [2, 3] rfl) h
  · replace h := zi_f c1 h
    refine lv_iconst (v := (0 : Int32)) F.1 F.2.1 dX19_read_60 (by decide) ?_
    refine lv_goto (tgt := 65) F.1 F.2.1 dX19_read_61 (by decide) ?_
    exact bX19_read_65 hst F hA E  x1 x2 x0 (zgI z 19 26 x0) (0 : Int32) hx1 hx0 hr (lv_sub hl [2, 3] rfl) h
def fX19_read_49 (N : Nat)  (x0 : Nat) (x1 : Nat) (x2 : Int32) (z : St) : Option (Int32 × St) := fX19_read_50 N x0 x1 x2 (0 : Int32) z
set_option maxHeartbeats 4000000 in
set_option maxRecDepth 100000 in
theorem bX19_read_49 (hst : zSt B ids) (F : zFx p m c cX19_read 4 s args RX19 D cy B ids A) (hA : ∀ q : Nat, s.heap.size ≤ q → A q) {r : Int32} {z' : St} (E : zEnd p l e rmX19_read s m args below meth c cX19_read D cy B ids A Q (some (.int r)) z' .ireturn True) {N : Nat}  (x0 : Nat) (x1 : Nat) (x2 : Int32) (hx0 : (19, x0) ∈ ids) (hx1 : (14, x1) ∈ ids) {z : St} {H : Heap} {locs : List Loc} {ls : Array Slot} (hr : zRep D cy B ids A s.heap z H locs) (hl : lv_has ls 4 [(0, .ref (B 19 x0)), (1, .ref (B 14 x1)), (2, .int x2)]) (h : fX19_read_49 N x0 x1 x2 z = some (r, z')) : W p l e rmX19_read s m args below meth c H locs 0 0 Q (F0 m 49 ls []) := by
  unfold fX19_read_49 at h
  refine lv_iconst (v := (0 : Int32)) F.1 F.2.1 dX19_read_49 (by decide) ?_
  exact bX19_read_50 hst F hA E  x0 x1 x2 (0 : Int32) hx0 hx1 hr (lv_sub hl [0, 1, 2] rfl) h
def fX19_read (N : Nat)  (x0 : Nat) (x1 : Nat) (z : St) : Option (Int32 × St) := zc (fX14_read N x1 z) fun r1 z2 => if (zgI z2 14 45 x1) = (-1 : Int32) then (fX19_read_49 N x0 x1 r1 z2) else (zk (zgI z2 14 45 x1) 2592 <| if (zgA z2 182 x0 (Int32.toNatClampNeg (zgI z2 14 45 x1))) ≤ (zgI z2 14 46 x1) then (fX19_read_49 N x0 x1 r1 z2) else (zc (fX19_written N x0 (zgI z2 14 45 x1) (zgI z2 14 46 x1) z2) fun r8 z9 => if ¬ r8 = r1 then (fX19_read_49 N x0 x1 r1 z9) else (fX19_read_50 N x0 x1 r1 (1 : Int32) z9)))
set_option maxHeartbeats 4000000 in
set_option maxRecDepth 100000 in
theorem bX19_read_0 (hst : zSt B ids) (F : zFx p m c cX19_read 4 s args RX19 D cy B ids A) (hA : ∀ q : Nat, s.heap.size ≤ q → A q) {r : Int32} {z' : St} (E : zEnd p l e rmX19_read s m args below meth c cX19_read D cy B ids A Q (some (.int r)) z' .ireturn True) {N : Nat}  (x0 : Nat) (x1 : Nat) (hx0 : (19, x0) ∈ ids) (hx1 : (14, x1) ∈ ids) {z : St} {H : Heap} {locs : List Loc} {ls : Array Slot} (hr : zRep D cy B ids A s.heap z H locs) (hl : lv_has ls 4 [(0, .ref (B 19 x0)), (1, .ref (B 14 x1))]) (h : fX19_read N x0 x1 z = some (r, z')) : W p l e rmX19_read s m args below meth c H locs 0 0 Q (F0 m 0 ls []) := by
  unfold fX19_read at h
  refine lv_aload_n F.1 F.2.1 dX19_read_0 rfl (lv_at hl 1 rfl) ?_
  replace h := zc_some h
  obtain ⟨r1, z2, hc3, h⟩ := h
  refine zr_calli (zrun_VN (As := []) (rest := []) zn_2982 zq_2984 zs_X14_read zq_2985 zq_21 hdX14_read (by decide) (T := TX14) (N := 47) rfl (okX14_read l D cy B ids hst N x1 hx1 hr.2.2 hc3) F hr hx1 hl.1 rfl (by decide) dX19_read_1 rfl rfl hroX19_read_X14_read ⟨Nat.zero_le _, Nat.zero_le _⟩) F hA hr (fun H locs hw4 hr => ?_)
  clear hc3
  refine lv_istore_n (lv' := [(2, .int r1), (0, .ref (B 19 x0)), (1, .ref (B 14 x1))]) F.1 F.2.1 dX19_read_4 rfl hl (by decide) rfl (fun ls hl => ?_)
  refine lv_aload_n F.1 F.2.1 dX19_read_5 rfl (lv_at hl 2 rfl) ?_
  refine gf19_594 F hx1 hr dX19_read_6 ?_
  refine lv_iconst (v := (-1 : Int32)) F.1 F.2.1 dX19_read_9 (by decide) ?_
  refine lv_icmp_eq (tgt := 49) F.1 F.2.1 dX19_read_10 (by decide) (fun c5 => ?_) (fun c5 => ?_)
  · replace h := zi_t c5 h
    exact bX19_read_49 hst F hA E  x0 x1 r1 hx0 hx1 hr (lv_sub hl [1, 2, 0] rfl) h
  · replace h := zi_f c5 h
    refine lv_aload_n F.1 F.2.1 dX19_read_13 rfl (lv_at hl 2 rfl) ?_
    refine gf19_597 F hx1 hr dX19_read_14 ?_
    refine lv_aload_n F.1 F.2.1 dX19_read_17 rfl (lv_at hl 1 rfl) ?_
    refine gf19_90 F hx0 hr dX19_read_18 ?_
    refine lv_aload_n F.1 F.2.1 dX19_read_21 rfl (lv_at hl 2 rfl) ?_
    refine gf19_594 F hx1 hr dX19_read_22 ?_
    replace h := zk_some h
    obtain ⟨c6, h⟩ := h
    refine zr_iald (k := 182) (by decide) rfl (by decide) F (zal_a F hx0 (j := 13) rfl) hr dX19_read_25 c6 ?_
    refine lv_icmp_ge (tgt := 49) F.1 F.2.1 dX19_read_26 (by decide) (fun c7 => ?_) (fun c7 => ?_)
    · replace h := zi_t c7 h
      exact bX19_read_49 hst F hA E  x0 x1 r1 hx0 hx1 hr (lv_sub hl [1, 2, 0] rfl) h
    · replace h := zi_f c7 h
      refine lv_aload_n F.1 F.2.1 dX19_read_29 rfl (lv_at hl 1 rfl) ?_
      refine lv_aload_n F.1 F.2.1 dX19_read_30 rfl (lv_at hl 2 rfl) ?_
      refine gf19_594 F hx1 hr dX19_read_31 ?_
      refine lv_aload_n F.1 F.2.1 dX19_read_34 rfl (lv_at hl 2 rfl) ?_
      refine gf19_597 F hx1 hr dX19_read_35 ?_
      replace h := zc_some h
      obtain ⟨r8, z9, hc10, h⟩ := h
      refine zr_calli (zrun_V (As := [.int (zgI z2 14 45 x1), .int (zgI z2 14 46 x1)]) (rest := []) zq_2986 zq_2988 zs_X19_written zq_2989 zq_4 hdX19_written (by decide) (T := TX19) (N := 32) rfl (okX19_written l D cy B ids hst N x0 hx0 (zgI z2 14 45 x1)  (zgI z2 14 46 x1)  hr.2.2 hc10) F hr hx0 hl.1 rfl (by decide) dX19_read_38 rfl rfl hroX19_read_X19_written ⟨Nat.zero_le _, Nat.zero_le _⟩) F hA hr (fun H locs hw11 hr => ?_)
      clear hc10
      refine lv_iload_n F.1 F.2.1 dX19_read_41 rfl (lv_at hl 0 rfl) ?_
      refine lv_icmp_ne (tgt := 49) F.1 F.2.1 dX19_read_42 (by decide) (fun c12 => ?_) (fun c12 => ?_)
      · replace h := zi_t c12 h
        exact bX19_read_49 hst F hA E  x0 x1 r1 hx0 hx1 hr (lv_sub hl [1, 2, 0] rfl) h
      · replace h := zi_f (fun q => q c12) h
        refine lv_iconst (v := (1 : Int32)) F.1 F.2.1 dX19_read_45 (by decide) ?_
        refine lv_goto (tgt := 50) F.1 F.2.1 dX19_read_46 (by decide) ?_
        exact bX19_read_50 hst F hA E  x0 x1 r1 (1 : Int32) hx0 hx1 hr (lv_sub hl [1, 2, 0] rfl) h
end SX19_read
set_option maxRecDepth 100000 in
theorem okX19_read (l : Launch) (D : va_G) (cy : Nat → ClassId) (B : Nat → Nat → Nat) (ids : List (Nat × Nat)) (hst : zSt B ids) (N : Nat) (x0 : Nat) (hx0 : (19, x0) ∈ ids) (x1 : Nat) (hx1 : (14, x1) ∈ ids) {z : St} {r : Int32} {z' : St} (hW : zWf ids z) (h : fX19_read N x0 x1 z = some (r, z')) : zM l yX19_read (zws yX19_read cX19_read 4 (some .int)) rmX19_read D cy B ids [.ref (B 19 x0), .ref (B 14 x1)] (some (.int r)) True z z' :=
  zM_of hst hW (by decide +kernel) (Nat.le_of_ble_eq_true rfl) (fun p e s m args below meth c A ls F hA hret hlocks hr hl => bX19_read_0 hst F hA (zEnd_i F hret hlocks) x0 x1 hx0 hx1 hr hl h)
abbrev rmX19_doorTurn : Room := { frames := 12, cells := 0, slots := 0, locals := 312 }
theorem hdX19_doorTurn : yX19_doorTurn.cls ≠ "java/lang/invoke/MethodHandle" ∧ yX19_doorTurn.cls ≠ "java/lang/invoke/VarHandle" ∧ (parseMethodDescriptor yX19_doorTurn.desc).map (fun d => d.parameters.length) = some 2 := by decide +kernel
theorem hroX19_doorTurn_X14_become : rmX14_become.frames + 1 ≤ rmX19_doorTurn.frames ∧ 8 + (3 + 11) + rmX14_become.locals ≤ rmX19_doorTurn.locals := by decide
theorem hroX19_doorTurn_X14_isDead : rmX14_isDead.frames + 1 ≤ rmX19_doorTurn.frames ∧ 8 + (1 + 11) + rmX14_isDead.locals ≤ rmX19_doorTurn.locals := by decide
theorem hroX19_doorTurn_X14_persist : rmX14_persist.frames + 1 ≤ rmX19_doorTurn.frames ∧ 8 + (2 + 11) + rmX14_persist.locals ≤ rmX19_doorTurn.locals := by decide
theorem hroX19_doorTurn_X14_readable : rmX14_readable.frames + 1 ≤ rmX19_doorTurn.frames ∧ 8 + (1 + 11) + rmX14_readable.locals ≤ rmX19_doorTurn.locals := by decide
theorem hroX19_doorTurn_X14_ring : rmX14_ring.frames + 1 ≤ rmX19_doorTurn.frames ∧ 8 + (2 + 11) + rmX14_ring.locals ≤ rmX19_doorTurn.locals := by decide
theorem hroX19_doorTurn_X19_read : rmX19_read.frames + 1 ≤ rmX19_doorTurn.frames ∧ 8 + (4 + 11) + rmX19_read.locals ≤ rmX19_doorTurn.locals := by decide
theorem hroX19_doorTurn_X19_say : rmX19_say.frames + 1 ≤ rmX19_doorTurn.frames ∧ 8 + (7 + 11) + rmX19_say.locals ≤ rmX19_doorTurn.locals := by decide
theorem hroX19_doorTurn_X19_send : rmX19_send.frames + 1 ≤ rmX19_doorTurn.frames ∧ 8 + (5 + 11) + rmX19_send.locals ≤ rmX19_doorTurn.locals := by decide
theorem hroX19_doorTurn_X19_stir : rmX19_stir.frames + 1 ≤ rmX19_doorTurn.frames ∧ 8 + (1 + 11) + rmX19_stir.locals ≤ rmX19_doorTurn.locals := by decide
theorem hroX19_doorTurn_X19_takeEnd : rmX19_takeEnd.frames + 1 ≤ rmX19_doorTurn.frames ∧ 8 + (2 + 11) + rmX19_takeEnd.locals ≤ rmX19_doorTurn.locals := by decide
section SX19_doorTurn
variable {p : Program} {l : Launch} {e : Env} {s : State} {m : MethodId} {args : Array Value} {below : List Frame} {meth : Method} {c : Code} {Q : State → Prop} {D : va_G} {cy : Nat → ClassId} {B : Nat → Nat → Nat} {ids : List (Nat × Nat)} {A : Nat → Prop}
def fX19_doorTurn_192 (N : Nat)  (x0 : Nat) (x2 : Nat) (z : St) : Option (Int32 × St) := zc (fX19_takeEnd N x0 x2 z) fun _ z2 => some (0, z2)
set_option maxHeartbeats 4000000 in
set_option maxRecDepth 100000 in
theorem bX19_doorTurn_192 (hst : zSt B ids) (F : zFx p m c cX19_doorTurn 5 s args RX19 D cy B ids A) (hA : ∀ q : Nat, s.heap.size ≤ q → A q) {r : Int32} {z' : St} (E : zEnd p l e rmX19_doorTurn s m args below meth c cX19_doorTurn D cy B ids A Q none z' .return_ True) {N : Nat}  (x0 : Nat) (x2 : Nat) (hx0 : (19, x0) ∈ ids) (hx2 : (13, x2) ∈ ids) {z : St} {H : Heap} {locs : List Loc} {ls : Array Slot} (hr : zRep D cy B ids A s.heap z H locs) (hl : lv_has ls 5 [(0, .ref (B 19 x0)), (2, .ref (B 13 x2))]) (h : fX19_doorTurn_192 N x0 x2 z = some (r, z')) : W p l e rmX19_doorTurn s m args below meth c H locs 0 0 Q (F0 m 192 ls []) := by
  unfold fX19_doorTurn_192 at h
  refine lv_aload_n F.1 F.2.1 dX19_doorTurn_192 rfl (lv_at hl 0 rfl) ?_
  refine lv_aload_n F.1 F.2.1 dX19_doorTurn_193 rfl (lv_at hl 1 rfl) ?_
  replace h := zc_some h
  obtain ⟨r1, z2, hc3, h⟩ := h
  refine zr_callv (zrun_V (As := [.ref (B 13 x2)]) (rest := []) zq_2990 zq_2992 zs_X19_takeEnd zq_2993 zq_4 hdX19_takeEnd (by decide) (T := TX19) (N := 32) rfl (okX19_takeEnd l D cy B ids hst N x0 hx0 x2 hx2 hr.2.2 hc3) F hr hx0 hl.1 rfl (by decide) dX19_doorTurn_194 rfl rfl hroX19_doorTurn_X19_takeEnd ⟨Nat.zero_le _, Nat.zero_le _⟩) F hA hr (fun H locs hw4 hr => ?_)
  clear hc3
  obtain ⟨rfl, rfl⟩ := zret h
  exact E _ _ _ _ dX19_doorTurn_197 trivial hr
def fX19_doorTurn_163 (N : Nat)  (x0 : Nat) (x2 : Nat) (x3 : Nat) (z : St) : Option (Int32 × St) := if (zgI z 13 6 x2) = 0 then (some (0, z)) else (if (zgI z 14 0 x3) = (1 : Int32) then (fX19_doorTurn_192 N x0 x2 z) else (zc (fX14_isDead N x3 z) fun r3 z4 => if r3 = 0 then (some (0, z4)) else (if ¬ (zgI z4 13 7 x2) = 0 then (some (0, z4)) else (fX19_doorTurn_192 N x0 x2 z4))))
set_option maxHeartbeats 4000000 in
set_option maxRecDepth 100000 in
theorem bX19_doorTurn_163 (hst : zSt B ids) (F : zFx p m c cX19_doorTurn 5 s args RX19 D cy B ids A) (hA : ∀ q : Nat, s.heap.size ≤ q → A q) {r : Int32} {z' : St} (E : zEnd p l e rmX19_doorTurn s m args below meth c cX19_doorTurn D cy B ids A Q none z' .return_ True) {N : Nat}  (x0 : Nat) (x2 : Nat) (x3 : Nat) (hx0 : (19, x0) ∈ ids) (hx2 : (13, x2) ∈ ids) (hx3 : (14, x3) ∈ ids) {z : St} {H : Heap} {locs : List Loc} {ls : Array Slot} (hr : zRep D cy B ids A s.heap z H locs) (hl : lv_has ls 5 [(0, .ref (B 19 x0)), (2, .ref (B 13 x2)), (3, .ref (B 14 x3))]) (h : fX19_doorTurn_163 N x0 x2 x3 z = some (r, z')) : W p l e rmX19_doorTurn s m args below meth c H locs 0 0 Q (F0 m 163 ls []) := by
  unfold fX19_doorTurn_163 at h
  refine lv_aload_n F.1 F.2.1 dX19_doorTurn_163 rfl (lv_at hl 1 rfl) ?_
  refine gf19_764 F hx2 hr dX19_doorTurn_164 ?_
  refine lv_if_eq (tgt := 197) F.1 F.2.1 dX19_doorTurn_167 (by decide) (fun c1 => ?_) (fun c1 => ?_)
  · replace h := zi_t c1 h
    obtain ⟨rfl, rfl⟩ := zret h
    exact E _ _ _ _ dX19_doorTurn_197 trivial hr
  · replace h := zi_f c1 h
    refine lv_aload_n F.1 F.2.1 dX19_doorTurn_170 rfl (lv_at hl 2 rfl) ?_
    refine gf19_353 F hx3 hr dX19_doorTurn_171 ?_
    refine lv_iconst (v := (1 : Int32)) F.1 F.2.1 dX19_doorTurn_174 (by decide) ?_
    refine lv_icmp_eq (tgt := 192) F.1 F.2.1 dX19_doorTurn_175 (by decide) (fun c2 => ?_) (fun c2 => ?_)
    · replace h := zi_t c2 h
      exact bX19_doorTurn_192 hst F hA E  x0 x2 hx0 hx2 hr (lv_sub hl [0, 1] rfl) h
    · replace h := zi_f c2 h
      refine lv_aload_n F.1 F.2.1 dX19_doorTurn_178 rfl (lv_at hl 2 rfl) ?_
      replace h := zc_some h
      obtain ⟨r3, z4, hc5, h⟩ := h
      refine zr_calli (zrun_VN (As := []) (rest := []) zn_2651 zq_2653 zs_X14_isDead zq_2654 zq_21 hdX14_isDead (by decide) (T := TX14) (N := 47) rfl (okX14_isDead l D cy B ids hst N x3 hx3 hr.2.2 hc5) F hr hx3 hl.1 rfl (by decide) dX19_doorTurn_179 rfl rfl hroX19_doorTurn_X14_isDead ⟨Nat.zero_le _, Nat.zero_le _⟩) F hA hr (fun H locs hw6 hr => ?_)
      clear hc5
      refine lv_if_eq (tgt := 197) F.1 F.2.1 dX19_doorTurn_182 (by decide) (fun c7 => ?_) (fun c7 => ?_)
      · replace h := zi_t c7 h
        obtain ⟨rfl, rfl⟩ := zret h
        exact E _ _ _ _ dX19_doorTurn_197 trivial hr
      · replace h := zi_f c7 h
        refine lv_aload_n F.1 F.2.1 dX19_doorTurn_185 rfl (lv_at hl 1 rfl) ?_
        refine gf19_767 F hx2 hr dX19_doorTurn_186 ?_
        refine lv_if_ne (tgt := 197) F.1 F.2.1 dX19_doorTurn_189 (by decide) (fun c8 => ?_) (fun c8 => ?_)
        · replace h := zi_t c8 h
          obtain ⟨rfl, rfl⟩ := zret h
          exact E _ _ _ _ dX19_doorTurn_197 trivial hr
        · replace h := zi_f (fun q => q c8) h
          exact bX19_doorTurn_192 hst F hA E  x0 x2 hx0 hx2 hr (lv_sub hl [0, 1] rfl) h
def fX19_doorTurn_152 (N : Nat)  (x0 : Nat) (x2 : Nat) (x3 : Nat) (z : St) : Option (Int32 × St) := zc (fX14_readable N x3 z) fun r1 z2 => if r1 ≤ 0 then (fX19_doorTurn_163 N x0 x2 x3 z2) else (zc (fX19_stir N x0 z2) fun _ z7 => fX19_doorTurn_163 N x0 x2 x3 z7)
set_option maxHeartbeats 4000000 in
set_option maxRecDepth 100000 in
theorem bX19_doorTurn_152 (hst : zSt B ids) (F : zFx p m c cX19_doorTurn 5 s args RX19 D cy B ids A) (hA : ∀ q : Nat, s.heap.size ≤ q → A q) {r : Int32} {z' : St} (E : zEnd p l e rmX19_doorTurn s m args below meth c cX19_doorTurn D cy B ids A Q none z' .return_ True) {N : Nat}  (x0 : Nat) (x2 : Nat) (x3 : Nat) (hx0 : (19, x0) ∈ ids) (hx2 : (13, x2) ∈ ids) (hx3 : (14, x3) ∈ ids) {z : St} {H : Heap} {locs : List Loc} {ls : Array Slot} (hr : zRep D cy B ids A s.heap z H locs) (hl : lv_has ls 5 [(0, .ref (B 19 x0)), (2, .ref (B 13 x2)), (3, .ref (B 14 x3))]) (h : fX19_doorTurn_152 N x0 x2 x3 z = some (r, z')) : W p l e rmX19_doorTurn s m args below meth c H locs 0 0 Q (F0 m 152 ls []) := by
  unfold fX19_doorTurn_152 at h
  refine lv_aload_n F.1 F.2.1 dX19_doorTurn_152 rfl (lv_at hl 2 rfl) ?_
  replace h := zc_some h
  obtain ⟨r1, z2, hc3, h⟩ := h
  refine zr_calli (zrun_VN (As := []) (rest := []) zn_2728 zq_2712 zs_X14_readable zq_2713 zq_21 hdX14_readable (by decide) (T := TX14) (N := 47) rfl (okX14_readable l D cy B ids hst N x3 hx3 hr.2.2 hc3) F hr hx3 hl.1 rfl (by decide) dX19_doorTurn_153 rfl rfl hroX19_doorTurn_X14_readable ⟨Nat.zero_le _, Nat.zero_le _⟩) F hA hr (fun H locs hw4 hr => ?_)
  clear hc3
  refine lv_if_le (tgt := 163) F.1 F.2.1 dX19_doorTurn_156 (by decide) (fun c5 => ?_) (fun c5 => ?_)
  · replace h := zi_t c5 h
    exact bX19_doorTurn_163 hst F hA E  x0 x2 x3 hx0 hx2 hx3 hr (lv_sub hl [0, 1, 2] rfl) h
  · replace h := zi_f c5 h
    refine lv_aload_n F.1 F.2.1 dX19_doorTurn_159 rfl (lv_at hl 0 rfl) ?_
    replace h := zc_some h
    obtain ⟨r6, z7, hc8, h⟩ := h
    refine zr_callv (zrun_V (As := []) (rest := []) zq_2394 zq_2396 zs_X19_stir zq_2397 zq_4 hdX19_stir (by decide) (T := TX19) (N := 32) rfl (okX19_stir l D cy B ids hst N x0 hx0 hr.2.2 hc8) F hr hx0 hl.1 rfl (by decide) dX19_doorTurn_160 rfl rfl hroX19_doorTurn_X19_stir ⟨Nat.zero_le _, Nat.zero_le _⟩) F hA hr (fun H locs hw9 hr => ?_)
    clear hc8
    exact bX19_doorTurn_163 hst F hA E  x0 x2 x3 hx0 hx2 hx3 hr (lv_sub hl [0, 1, 2] rfl) h
def fX19_doorTurn_118b (N : Nat) (K118 : Nat → Nat → Nat → St → Option (Int32 × St)) (x0 : Nat) (x2 : Nat) (x3 : Nat) (z : St) : Option (Int32 × St) := if (zgI z 13 8 x2) = 0 then (fX19_doorTurn_152 N x0 x2 x3 z) else (zc (fX14_readable N x3 z) fun r2 z3 => if r2 ≤ 0 then (fX19_doorTurn_152 N x0 x2 x3 z3) else (zc (fX19_read N x0 x3 z3) fun r7 z8 => zl (zsI z8 13 9 x2 (((31 : Int32) * (zgI z3 13 9 x2)) + r7)) fun z11 => K118 x0 x2 x3 z11))
def fX19_doorTurn_118 (N : Nat)  : Nat → Nat → Nat → Nat → St → Option (Int32 × St)
  | 0 => fun _ _ _ _ => none
  | n + 1 => fX19_doorTurn_118b N (fX19_doorTurn_118 N  n)
set_option maxHeartbeats 4000000 in
set_option maxRecDepth 100000 in
theorem bX19_doorTurn_118 (hst : zSt B ids) (F : zFx p m c cX19_doorTurn 5 s args RX19 D cy B ids A) (hA : ∀ q : Nat, s.heap.size ≤ q → A q) {r : Int32} {z' : St} (E : zEnd p l e rmX19_doorTurn s m args below meth c cX19_doorTurn D cy B ids A Q none z' .return_ True) {N : Nat} {K118 : Nat → Nat → Nat → St → Option (Int32 × St)} (hK118 : ∀ (x0 : Nat) (x2 : Nat) (x3 : Nat) (hx0 : (19, x0) ∈ ids) (hx2 : (13, x2) ∈ ids) (hx3 : (14, x3) ∈ ids) {z : St} {H : Heap} {locs : List Loc} {ls : Array Slot} (hr : zRep D cy B ids A s.heap z H locs) (hl : lv_has ls 5 [(0, .ref (B 19 x0)), (2, .ref (B 13 x2)), (3, .ref (B 14 x3))]), K118 x0 x2 x3 z = some (r, z') → W p l e rmX19_doorTurn s m args below meth c H locs 0 0 Q (F0 m 118 ls [])) (x0 : Nat) (x2 : Nat) (x3 : Nat) (hx0 : (19, x0) ∈ ids) (hx2 : (13, x2) ∈ ids) (hx3 : (14, x3) ∈ ids) {z : St} {H : Heap} {locs : List Loc} {ls : Array Slot} (hr : zRep D cy B ids A s.heap z H locs) (hl : lv_has ls 5 [(0, .ref (B 19 x0)), (2, .ref (B 13 x2)), (3, .ref (B 14 x3))]) (h : fX19_doorTurn_118b N K118 x0 x2 x3 z = some (r, z')) : W p l e rmX19_doorTurn s m args below meth c H locs 0 0 Q (F0 m 118 ls []) := by
  unfold fX19_doorTurn_118b at h
  refine lv_aload_n F.1 F.2.1 dX19_doorTurn_118 rfl (lv_at hl 1 rfl) ?_
  refine gf19_770 F hx2 hr dX19_doorTurn_119 ?_
  refine lv_if_eq (tgt := 152) F.1 F.2.1 dX19_doorTurn_122 (by decide) (fun c1 => ?_) (fun c1 => ?_)
  · replace h := zi_t c1 h
    exact bX19_doorTurn_152 hst F hA E  x0 x2 x3 hx0 hx2 hx3 hr (lv_sub hl [0, 1, 2] rfl) h
  · replace h := zi_f c1 h
    refine lv_aload_n F.1 F.2.1 dX19_doorTurn_125 rfl (lv_at hl 2 rfl) ?_
    replace h := zc_some h
    obtain ⟨r2, z3, hc4, h⟩ := h
    refine zr_calli (zrun_VN (As := []) (rest := []) zn_2728 zq_2712 zs_X14_readable zq_2713 zq_21 hdX14_readable (by decide) (T := TX14) (N := 47) rfl (okX14_readable l D cy B ids hst N x3 hx3 hr.2.2 hc4) F hr hx3 hl.1 rfl (by decide) dX19_doorTurn_126 rfl rfl hroX19_doorTurn_X14_readable ⟨Nat.zero_le _, Nat.zero_le _⟩) F hA hr (fun H locs hw5 hr => ?_)
    clear hc4
    refine lv_if_le (tgt := 152) F.1 F.2.1 dX19_doorTurn_129 (by decide) (fun c6 => ?_) (fun c6 => ?_)
    · replace h := zi_t c6 h
      exact bX19_doorTurn_152 hst F hA E  x0 x2 x3 hx0 hx2 hx3 hr (lv_sub hl [0, 1, 2] rfl) h
    · replace h := zi_f c6 h
      refine lv_aload_n F.1 F.2.1 dX19_doorTurn_132 rfl (lv_at hl 1 rfl) ?_
      refine lv_bipush (v := (31 : Int32)) F.1 F.2.1 dX19_doorTurn_133 (by decide) ?_
      refine lv_aload_n F.1 F.2.1 dX19_doorTurn_135 rfl (lv_at hl 1 rfl) ?_
      refine gf19_773 F hx2 hr dX19_doorTurn_136 ?_
      refine lv_imul F.1 F.2.1 dX19_doorTurn_139 ?_
      refine lv_aload_n F.1 F.2.1 dX19_doorTurn_140 rfl (lv_at hl 0 rfl) ?_
      refine lv_aload_n F.1 F.2.1 dX19_doorTurn_141 rfl (lv_at hl 2 rfl) ?_
      replace h := zc_some h
      obtain ⟨r7, z8, hc9, h⟩ := h
      refine zr_calli (zrun_V (As := [.ref (B 14 x3)]) (rest := [.int ((31 : Int32) * (zgI z3 13 9 x2)), .ref (B 13 x2)]) zq_2978 zq_2980 zs_X19_read zq_2981 zq_4 hdX19_read (by decide) (T := TX19) (N := 32) rfl (okX19_read l D cy B ids hst N x0 hx0 x3 hx3 hr.2.2 hc9) F hr hx0 hl.1 rfl (Nat.le_of_ble_eq_true rfl) dX19_doorTurn_142 rfl rfl hroX19_doorTurn_X19_read ⟨Nat.zero_le _, Nat.zero_le _⟩) F hA hr (fun H locs hw10 hr => ?_)
      clear hc9
      refine lv_iadd F.1 F.2.1 dX19_doorTurn_145 ?_
      refine pf19_773 F hx2 hr dX19_doorTurn_146 (((31 : Int32) * (zgI z3 13 9 x2)) + r7) (fun H locs z11 ez11 hr => ?_)
      replace h := zl_sub ez11 h
      clear ez11
      refine lv_goto (tgt := 118) F.1 F.2.1 dX19_doorTurn_149 (by decide) ?_
      exact hK118 x0 x2 x3 hx0 hx2 hx3 hr (lv_sub hl [0, 1, 2] rfl) h
theorem lX19_doorTurn_118 (hst : zSt B ids) (F : zFx p m c cX19_doorTurn 5 s args RX19 D cy B ids A) (hA : ∀ q : Nat, s.heap.size ≤ q → A q) {r : Int32} {z' : St} (E : zEnd p l e rmX19_doorTurn s m args below meth c cX19_doorTurn D cy B ids A Q none z' .return_ True) {N : Nat}  : ∀ (n : Nat) (x0 : Nat) (x2 : Nat) (x3 : Nat) (hx0 : (19, x0) ∈ ids) (hx2 : (13, x2) ∈ ids) (hx3 : (14, x3) ∈ ids) {z : St} {H : Heap} {locs : List Loc} {ls : Array Slot} (hr : zRep D cy B ids A s.heap z H locs) (hl : lv_has ls 5 [(0, .ref (B 19 x0)), (2, .ref (B 13 x2)), (3, .ref (B 14 x3))]), fX19_doorTurn_118 N  n x0 x2 x3 z = some (r, z') → W p l e rmX19_doorTurn s m args below meth c H locs 0 0 Q (F0 m 118 ls []) := by
  intro n
  induction n with
  | zero => intro x0 x2 x3 hx0 hx2 hx3 z H locs ls hr hl h; cases h
  | succ n ih => intro x0 x2 x3 hx0 hx2 hx3 z H locs ls hr hl h; exact bX19_doorTurn_118 hst F hA E ih x0 x2 x3 hx0 hx2 hx3 hr hl h
def fX19_doorTurn_75b (N : Nat) (K75 : Nat → Nat → Nat → Nat → Int32 → St → Option (Int32 × St)) (x0 : Nat) (x1 : Nat) (x2 : Nat) (x3 : Nat) (x4 : Int32) (z : St) : Option (Int32 × St) := if x4 = (-1 : Int32) then (zc (fX14_persist N x3 (zgI z 19 24 x0) z) fun _ z3 => fX19_doorTurn_118 N N x0 x2 x3 z3) else (zc (fX19_say N x0 x1 x4 (zgI z 14 2 x3) (zgI z 14 3 x3) (zgI z 14 4 x3) z) fun _ z7 => zc (fX19_send N x0 x3 z7) fun r10 z11 => K75 x0 x1 x2 x3 r10 z11)
def fX19_doorTurn_75 (N : Nat)  : Nat → Nat → Nat → Nat → Nat → Int32 → St → Option (Int32 × St)
  | 0 => fun _ _ _ _ _ _ => none
  | n + 1 => fX19_doorTurn_75b N (fX19_doorTurn_75 N  n)
set_option maxHeartbeats 4000000 in
set_option maxRecDepth 100000 in
theorem bX19_doorTurn_75 (hst : zSt B ids) (F : zFx p m c cX19_doorTurn 5 s args RX19 D cy B ids A) (hA : ∀ q : Nat, s.heap.size ≤ q → A q) {r : Int32} {z' : St} (E : zEnd p l e rmX19_doorTurn s m args below meth c cX19_doorTurn D cy B ids A Q none z' .return_ True) {N : Nat} {K75 : Nat → Nat → Nat → Nat → Int32 → St → Option (Int32 × St)} (hK75 : ∀ (x0 : Nat) (x1 : Nat) (x2 : Nat) (x3 : Nat) (x4 : Int32) (hx0 : (19, x0) ∈ ids) (hx1 : (12, x1) ∈ ids) (hx2 : (13, x2) ∈ ids) (hx3 : (14, x3) ∈ ids) {z : St} {H : Heap} {locs : List Loc} {ls : Array Slot} (hr : zRep D cy B ids A s.heap z H locs) (hl : lv_has ls 5 [(0, .ref (B 19 x0)), (1, .ref (B 12 x1)), (2, .ref (B 13 x2)), (3, .ref (B 14 x3)), (4, .int x4)]), K75 x0 x1 x2 x3 x4 z = some (r, z') → W p l e rmX19_doorTurn s m args below meth c H locs 0 0 Q (F0 m 75 ls [])) (x0 : Nat) (x1 : Nat) (x2 : Nat) (x3 : Nat) (x4 : Int32) (hx0 : (19, x0) ∈ ids) (hx1 : (12, x1) ∈ ids) (hx2 : (13, x2) ∈ ids) (hx3 : (14, x3) ∈ ids) {z : St} {H : Heap} {locs : List Loc} {ls : Array Slot} (hr : zRep D cy B ids A s.heap z H locs) (hl : lv_has ls 5 [(0, .ref (B 19 x0)), (1, .ref (B 12 x1)), (2, .ref (B 13 x2)), (3, .ref (B 14 x3)), (4, .int x4)]) (h : fX19_doorTurn_75b N K75 x0 x1 x2 x3 x4 z = some (r, z')) : W p l e rmX19_doorTurn s m args below meth c H locs 0 0 Q (F0 m 75 ls []) := by
  unfold fX19_doorTurn_75b at h
  refine lv_iload F.1 F.2.1 dX19_doorTurn_75 (lv_at hl 4 rfl) ?_
  refine lv_iconst (v := (-1 : Int32)) F.1 F.2.1 dX19_doorTurn_77 (by decide) ?_
  refine lv_icmp_eq (tgt := 110) F.1 F.2.1 dX19_doorTurn_78 (by decide) (fun c1 => ?_) (fun c1 => ?_)
  · replace h := zi_t c1 h
    refine lv_aload_n F.1 F.2.1 dX19_doorTurn_110 rfl (lv_at hl 3 rfl) ?_
    refine lv_aload_n F.1 F.2.1 dX19_doorTurn_111 rfl (lv_at hl 0 rfl) ?_
    refine gf19_143 F hx0 hr dX19_doorTurn_112 ?_
    replace h := zc_some h
    obtain ⟨r2, z3, hc4, h⟩ := h
    refine zr_callv (zrun_VN (As := [.int (zgI z 19 24 x0)]) (rest := []) zn_2973 zq_2975 zs_X14_persist zq_2976 zq_21 hdX14_persist (by decide) (T := TX14) (N := 47) rfl (okX14_persist l D cy B ids hst N x3 hx3 (zgI z 19 24 x0)  hr.2.2 hc4) F hr hx3 hl.1 rfl (by decide) dX19_doorTurn_115 rfl rfl hroX19_doorTurn_X14_persist ⟨Nat.zero_le _, Nat.zero_le _⟩) F hA hr (fun H locs hw5 hr => ?_)
    clear hc4
    exact lX19_doorTurn_118 hst F hA E  _ x0 x2 x3 hx0 hx2 hx3 hr (lv_sub hl [0, 2, 3] rfl) h
  · replace h := zi_f c1 h
    refine lv_aload_n F.1 F.2.1 dX19_doorTurn_81 rfl (lv_at hl 0 rfl) ?_
    refine lv_aload_n F.1 F.2.1 dX19_doorTurn_82 rfl (lv_at hl 1 rfl) ?_
    refine lv_iload F.1 F.2.1 dX19_doorTurn_83 (lv_at hl 4 rfl) ?_
    refine lv_aload_n F.1 F.2.1 dX19_doorTurn_85 rfl (lv_at hl 3 rfl) ?_
    refine gf19_358 F hx3 hr dX19_doorTurn_86 ?_
    refine lv_aload_n F.1 F.2.1 dX19_doorTurn_89 rfl (lv_at hl 3 rfl) ?_
    refine gf19_361 F hx3 hr dX19_doorTurn_90 ?_
    refine lv_aload_n F.1 F.2.1 dX19_doorTurn_93 rfl (lv_at hl 3 rfl) ?_
    refine gf19_364 F hx3 hr dX19_doorTurn_94 ?_
    replace h := zc_some h
    obtain ⟨r6, z7, hc8, h⟩ := h
    refine zr_callv (zrun_V (As := [.ref (B 12 x1), .int x4, .int (zgI z 14 2 x3), .int (zgI z 14 3 x3), .int (zgI z 14 4 x3)]) (rest := []) zq_2761 zq_2763 zs_X19_say zq_2764 zq_4 hdX19_say (by decide) (T := TX19) (N := 32) rfl (okX19_say l D cy B ids hst N x0 hx0 x1 hx1 x4  (zgI z 14 2 x3)  (zgI z 14 3 x3)  (zgI z 14 4 x3)  hr.2.2 hc8) F hr hx0 hl.1 rfl (by decide) dX19_doorTurn_97 rfl rfl hroX19_doorTurn_X19_say ⟨Nat.zero_le _, Nat.zero_le _⟩) F hA hr (fun H locs hw9 hr => ?_)
    clear hc8
    refine lv_aload_n F.1 F.2.1 dX19_doorTurn_100 rfl (lv_at hl 0 rfl) ?_
    refine lv_aload_n F.1 F.2.1 dX19_doorTurn_101 rfl (lv_at hl 3 rfl) ?_
    replace h := zc_some h
    obtain ⟨r10, z11, hc12, h⟩ := h
    refine zr_calli (zrun_V (As := [.ref (B 14 x3)]) (rest := []) zq_2933 zq_2935 zs_X19_send zq_2936 zq_4 hdX19_send (by decide) (T := TX19) (N := 32) rfl (okX19_send l D cy B ids hst N x0 hx0 x3 hx3 hr.2.2 hc12) F hr hx0 hl.1 rfl (by decide) dX19_doorTurn_102 rfl rfl hroX19_doorTurn_X19_send ⟨Nat.zero_le _, Nat.zero_le _⟩) F hA hr (fun H locs hw13 hr => ?_)
    clear hc12
    refine lv_istore (lv' := [(4, .int r10), (0, .ref (B 19 x0)), (1, .ref (B 12 x1)), (2, .ref (B 13 x2)), (3, .ref (B 14 x3))]) F.1 F.2.1 dX19_doorTurn_105 hl (by decide) rfl (fun ls hl => ?_)
    refine lv_goto (tgt := 75) F.1 F.2.1 dX19_doorTurn_107 (by decide) ?_
    exact hK75 x0 x1 x2 x3 r10 hx0 hx1 hx2 hx3 hr (lv_sub hl [1, 2, 3, 4, 0] rfl) h
theorem lX19_doorTurn_75 (hst : zSt B ids) (F : zFx p m c cX19_doorTurn 5 s args RX19 D cy B ids A) (hA : ∀ q : Nat, s.heap.size ≤ q → A q) {r : Int32} {z' : St} (E : zEnd p l e rmX19_doorTurn s m args below meth c cX19_doorTurn D cy B ids A Q none z' .return_ True) {N : Nat}  : ∀ (n : Nat) (x0 : Nat) (x1 : Nat) (x2 : Nat) (x3 : Nat) (x4 : Int32) (hx0 : (19, x0) ∈ ids) (hx1 : (12, x1) ∈ ids) (hx2 : (13, x2) ∈ ids) (hx3 : (14, x3) ∈ ids) {z : St} {H : Heap} {locs : List Loc} {ls : Array Slot} (hr : zRep D cy B ids A s.heap z H locs) (hl : lv_has ls 5 [(0, .ref (B 19 x0)), (1, .ref (B 12 x1)), (2, .ref (B 13 x2)), (3, .ref (B 14 x3)), (4, .int x4)]), fX19_doorTurn_75 N  n x0 x1 x2 x3 x4 z = some (r, z') → W p l e rmX19_doorTurn s m args below meth c H locs 0 0 Q (F0 m 75 ls []) := by
  intro n
  induction n with
  | zero => intro x0 x1 x2 x3 x4 hx0 hx1 hx2 hx3 z H locs ls hr hl h; cases h
  | succ n ih => intro x0 x1 x2 x3 x4 hx0 hx1 hx2 hx3 z H locs ls hr hl h; exact bX19_doorTurn_75 hst F hA E ih x0 x1 x2 x3 x4 hx0 hx1 hx2 hx3 hr hl h
def fX19_doorTurn_68 (N : Nat)  (x0 : Nat) (x1 : Nat) (x2 : Nat) (x3 : Nat) (z : St) : Option (Int32 × St) := zc (fX19_send N x0 x3 z) fun r1 z2 => fX19_doorTurn_75 N N x0 x1 x2 x3 r1 z2
set_option maxHeartbeats 4000000 in
set_option maxRecDepth 100000 in
theorem bX19_doorTurn_68 (hst : zSt B ids) (F : zFx p m c cX19_doorTurn 5 s args RX19 D cy B ids A) (hA : ∀ q : Nat, s.heap.size ≤ q → A q) {r : Int32} {z' : St} (E : zEnd p l e rmX19_doorTurn s m args below meth c cX19_doorTurn D cy B ids A Q none z' .return_ True) {N : Nat}  (x0 : Nat) (x1 : Nat) (x2 : Nat) (x3 : Nat) (hx0 : (19, x0) ∈ ids) (hx1 : (12, x1) ∈ ids) (hx2 : (13, x2) ∈ ids) (hx3 : (14, x3) ∈ ids) {z : St} {H : Heap} {locs : List Loc} {ls : Array Slot} (hr : zRep D cy B ids A s.heap z H locs) (hl : lv_has ls 5 [(0, .ref (B 19 x0)), (1, .ref (B 12 x1)), (2, .ref (B 13 x2)), (3, .ref (B 14 x3))]) (h : fX19_doorTurn_68 N x0 x1 x2 x3 z = some (r, z')) : W p l e rmX19_doorTurn s m args below meth c H locs 0 0 Q (F0 m 68 ls []) := by
  unfold fX19_doorTurn_68 at h
  refine lv_aload_n F.1 F.2.1 dX19_doorTurn_68 rfl (lv_at hl 0 rfl) ?_
  refine lv_aload_n F.1 F.2.1 dX19_doorTurn_69 rfl (lv_at hl 3 rfl) ?_
  replace h := zc_some h
  obtain ⟨r1, z2, hc3, h⟩ := h
  refine zr_calli (zrun_V (As := [.ref (B 14 x3)]) (rest := []) zq_2933 zq_2935 zs_X19_send zq_2936 zq_4 hdX19_send (by decide) (T := TX19) (N := 32) rfl (okX19_send l D cy B ids hst N x0 hx0 x3 hx3 hr.2.2 hc3) F hr hx0 hl.1 rfl (by decide) dX19_doorTurn_70 rfl rfl hroX19_doorTurn_X19_send ⟨Nat.zero_le _, Nat.zero_le _⟩) F hA hr (fun H locs hw4 hr => ?_)
  clear hc3
  refine lv_istore (lv' := [(4, .int r1), (0, .ref (B 19 x0)), (1, .ref (B 12 x1)), (2, .ref (B 13 x2)), (3, .ref (B 14 x3))]) F.1 F.2.1 dX19_doorTurn_73 hl (by decide) rfl (fun ls hl => ?_)
  exact lX19_doorTurn_75 hst F hA E  _ x0 x1 x2 x3 r1 hx0 hx1 hx2 hx3 hr (lv_sub hl [1, 2, 3, 4, 0] rfl) h
def fX19_doorTurn_42 (N : Nat)  (x0 : Nat) (x1 : Nat) (x2 : Nat) (x3 : Nat) (z : St) : Option (Int32 × St) := if (zgI z 14 33 x3) = 0 then (fX19_doorTurn_68 N x0 x1 x2 x3 z) else (if (zgI z 19 24 x0) < (zgI z 14 34 x3) then (fX19_doorTurn_68 N x0 x1 x2 x3 z) else (zc (fX14_ring N x3 (zgI z 19 24 x0) z) fun _ z4 => fX19_doorTurn_68 N x0 x1 x2 x3 z4))
set_option maxHeartbeats 4000000 in
set_option maxRecDepth 100000 in
theorem bX19_doorTurn_42 (hst : zSt B ids) (F : zFx p m c cX19_doorTurn 5 s args RX19 D cy B ids A) (hA : ∀ q : Nat, s.heap.size ≤ q → A q) {r : Int32} {z' : St} (E : zEnd p l e rmX19_doorTurn s m args below meth c cX19_doorTurn D cy B ids A Q none z' .return_ True) {N : Nat}  (x0 : Nat) (x1 : Nat) (x2 : Nat) (x3 : Nat) (hx0 : (19, x0) ∈ ids) (hx1 : (12, x1) ∈ ids) (hx2 : (13, x2) ∈ ids) (hx3 : (14, x3) ∈ ids) {z : St} {H : Heap} {locs : List Loc} {ls : Array Slot} (hr : zRep D cy B ids A s.heap z H locs) (hl : lv_has ls 5 [(0, .ref (B 19 x0)), (1, .ref (B 12 x1)), (2, .ref (B 13 x2)), (3, .ref (B 14 x3))]) (h : fX19_doorTurn_42 N x0 x1 x2 x3 z = some (r, z')) : W p l e rmX19_doorTurn s m args below meth c H locs 0 0 Q (F0 m 42 ls []) := by
  unfold fX19_doorTurn_42 at h
  refine lv_aload_n F.1 F.2.1 dX19_doorTurn_42 rfl (lv_at hl 3 rfl) ?_
  refine gf19_655 F hx3 hr dX19_doorTurn_43 ?_
  refine lv_if_eq (tgt := 68) F.1 F.2.1 dX19_doorTurn_46 (by decide) (fun c1 => ?_) (fun c1 => ?_)
  · replace h := zi_t c1 h
    exact bX19_doorTurn_68 hst F hA E  x0 x1 x2 x3 hx0 hx1 hx2 hx3 hr (lv_sub hl [0, 1, 2, 3] rfl) h
  · replace h := zi_f c1 h
    refine lv_aload_n F.1 F.2.1 dX19_doorTurn_49 rfl (lv_at hl 0 rfl) ?_
    refine gf19_143 F hx0 hr dX19_doorTurn_50 ?_
    refine lv_aload_n F.1 F.2.1 dX19_doorTurn_53 rfl (lv_at hl 3 rfl) ?_
    refine gf19_810 F hx3 hr dX19_doorTurn_54 ?_
    refine lv_icmp_lt (tgt := 68) F.1 F.2.1 dX19_doorTurn_57 (by decide) (fun c2 => ?_) (fun c2 => ?_)
    · replace h := zi_t c2 h
      exact bX19_doorTurn_68 hst F hA E  x0 x1 x2 x3 hx0 hx1 hx2 hx3 hr (lv_sub hl [0, 1, 2, 3] rfl) h
    · replace h := zi_f c2 h
      refine lv_aload_n F.1 F.2.1 dX19_doorTurn_60 rfl (lv_at hl 3 rfl) ?_
      refine lv_aload_n F.1 F.2.1 dX19_doorTurn_61 rfl (lv_at hl 0 rfl) ?_
      refine gf19_143 F hx0 hr dX19_doorTurn_62 ?_
      replace h := zc_some h
      obtain ⟨r3, z4, hc5, h⟩ := h
      refine zr_callv (zrun_VN (As := [.int (zgI z 19 24 x0)]) (rest := []) zn_2928 zq_2930 zs_X14_ring zq_2931 zq_21 hdX14_ring (by decide) (T := TX14) (N := 47) rfl (okX14_ring l D cy B ids hst N x3 hx3 (zgI z 19 24 x0)  hr.2.2 hc5) F hr hx3 hl.1 rfl (by decide) dX19_doorTurn_65 rfl rfl hroX19_doorTurn_X14_ring ⟨Nat.zero_le _, Nat.zero_le _⟩) F hA hr (fun H locs hw6 hr => ?_)
      clear hc5
      exact bX19_doorTurn_68 hst F hA E  x0 x1 x2 x3 hx0 hx1 hx2 hx3 hr (lv_sub hl [0, 1, 2, 3] rfl) h
def fX19_doorTurn (N : Nat)  (x0 : Nat) (x1 : Nat) (x2 : Nat) (z : St) : Option (Int32 × St) := if ¬ (zgI z 13 3 x2) = 0 then (zl (zgR z 13 4 x2) fun y2 => zd y2 fun a3 => if ¬ (zgI z 14 0 a3) = (10 : Int32) then (fX19_doorTurn_42 N x0 x1 x2 a3 z) else (if (zgI z 19 24 x0) < (zgI z 14 43 a3) then (fX19_doorTurn_42 N x0 x1 x2 a3 z) else (zc (fX14_become N a3 (0 : Int32) (zgI z 19 24 x0) z) fun _ z7 => fX19_doorTurn_42 N x0 x1 x2 a3 z7))) else (some (0, z))
set_option maxHeartbeats 4000000 in
set_option maxRecDepth 100000 in
theorem bX19_doorTurn_0 (hst : zSt B ids) (F : zFx p m c cX19_doorTurn 5 s args RX19 D cy B ids A) (hA : ∀ q : Nat, s.heap.size ≤ q → A q) {r : Int32} {z' : St} (E : zEnd p l e rmX19_doorTurn s m args below meth c cX19_doorTurn D cy B ids A Q none z' .return_ True) {N : Nat}  (x0 : Nat) (x1 : Nat) (x2 : Nat) (hx0 : (19, x0) ∈ ids) (hx1 : (12, x1) ∈ ids) (hx2 : (13, x2) ∈ ids) {z : St} {H : Heap} {locs : List Loc} {ls : Array Slot} (hr : zRep D cy B ids A s.heap z H locs) (hl : lv_has ls 5 [(0, .ref (B 19 x0)), (1, .ref (B 12 x1)), (2, .ref (B 13 x2))]) (h : fX19_doorTurn N x0 x1 x2 z = some (r, z')) : W p l e rmX19_doorTurn s m args below meth c H locs 0 0 Q (F0 m 0 ls []) := by
  unfold fX19_doorTurn at h
  refine lv_aload_n F.1 F.2.1 dX19_doorTurn_0 rfl (lv_at hl 2 rfl) ?_
  refine gf19_350 F hx2 hr dX19_doorTurn_1 ?_
  refine lv_if_ne (tgt := 8) F.1 F.2.1 dX19_doorTurn_4 (by decide) (fun c1 => ?_) (fun c1 => ?_)
  · replace h := zi_t c1 h
    refine lv_aload_n F.1 F.2.1 dX19_doorTurn_8 rfl (lv_at hl 2 rfl) ?_
    refine gf19_344 F hx2 hr dX19_doorTurn_9 (fun y2 ey2 => ?_)
    replace h := zl_sub ey2 h
    have hy2 := zal_g hr hx2 (j := 4) rfl ey2
    clear ey2
    refine zr_astore_n (lv' := [(3, va_rf (Option.map (B 14) y2)), (0, .ref (B 19 x0)), (1, .ref (B 12 x1)), (2, .ref (B 13 x2))]) F.1 F.2.1 dX19_doorTurn_12 rfl hl (by decide) rfl (fun ls hl => ?_)
    refine zr_aload_n F.1 F.2.1 dX19_doorTurn_13 rfl (lv_at hl 0 rfl) ?_
    replace h := zd_some h
    obtain ⟨a3, rfl, h⟩ := h
    refine gf19_353 F (hy2 _ rfl) hr dX19_doorTurn_14 ?_
    refine lv_bipush (v := (10 : Int32)) F.1 F.2.1 dX19_doorTurn_17 (by decide) ?_
    refine lv_icmp_ne (tgt := 42) F.1 F.2.1 dX19_doorTurn_19 (by decide) (fun c4 => ?_) (fun c4 => ?_)
    · replace h := zi_t c4 h
      exact bX19_doorTurn_42 hst F hA E  x0 x1 x2 a3 hx0 hx1 hx2 (hy2 _ rfl) hr (lv_sub hl [1, 2, 3, 0] rfl) h
    · replace h := zi_f (fun q => q c4) h
      refine lv_aload_n F.1 F.2.1 dX19_doorTurn_22 rfl (lv_at hl 1 rfl) ?_
      refine gf19_143 F hx0 hr dX19_doorTurn_23 ?_
      refine lv_aload_n F.1 F.2.1 dX19_doorTurn_26 rfl (lv_at hl 0 rfl) ?_
      refine gf19_628 F (hy2 _ rfl) hr dX19_doorTurn_27 ?_
      refine lv_icmp_lt (tgt := 42) F.1 F.2.1 dX19_doorTurn_30 (by decide) (fun c5 => ?_) (fun c5 => ?_)
      · replace h := zi_t c5 h
        exact bX19_doorTurn_42 hst F hA E  x0 x1 x2 a3 hx0 hx1 hx2 (hy2 _ rfl) hr (lv_sub hl [1, 2, 3, 0] rfl) h
      · replace h := zi_f c5 h
        refine lv_aload_n F.1 F.2.1 dX19_doorTurn_33 rfl (lv_at hl 0 rfl) ?_
        refine lv_iconst (v := (0 : Int32)) F.1 F.2.1 dX19_doorTurn_34 (by decide) ?_
        refine lv_aload_n F.1 F.2.1 dX19_doorTurn_35 rfl (lv_at hl 1 rfl) ?_
        refine gf19_143 F hx0 hr dX19_doorTurn_36 ?_
        replace h := zc_some h
        obtain ⟨r6, z7, hc8, h⟩ := h
        refine zr_callv (zrun_VN (As := [.int (0 : Int32), .int (zgI z 19 24 x0)]) (rest := []) zn_2643 zq_2645 zs_X14_become zq_2646 zq_21 hdX14_become (by decide) (T := TX14) (N := 47) rfl (okX14_become l D cy B ids hst N a3 (hy2 _ rfl) (0 : Int32)  (zgI z 19 24 x0)  hr.2.2 hc8) F hr (hy2 _ rfl) hl.1 rfl (by decide) dX19_doorTurn_39 rfl rfl hroX19_doorTurn_X14_become ⟨Nat.zero_le _, Nat.zero_le _⟩) F hA hr (fun H locs hw9 hr => ?_)
        clear hc8
        exact bX19_doorTurn_42 hst F hA E  x0 x1 x2 a3 hx0 hx1 hx2 (hy2 _ rfl) hr (lv_sub hl [1, 2, 3, 0] rfl) h
  · replace h := zi_f (fun q => q c1) h
    obtain ⟨rfl, rfl⟩ := zret h
    exact E _ _ _ _ dX19_doorTurn_7 trivial hr
end SX19_doorTurn
set_option maxRecDepth 100000 in
theorem okX19_doorTurn (l : Launch) (D : va_G) (cy : Nat → ClassId) (B : Nat → Nat → Nat) (ids : List (Nat × Nat)) (hst : zSt B ids) (N : Nat) (x0 : Nat) (hx0 : (19, x0) ∈ ids) (x1 : Nat) (hx1 : (12, x1) ∈ ids) (x2 : Nat) (hx2 : (13, x2) ∈ ids) {z : St} {r : Int32} {z' : St} (hW : zWf ids z) (h : fX19_doorTurn N x0 x1 x2 z = some (r, z')) : zM l yX19_doorTurn (zws yX19_doorTurn cX19_doorTurn 5 none) rmX19_doorTurn D cy B ids [.ref (B 19 x0), .ref (B 12 x1), .ref (B 13 x2)] none True z z' :=
  zM_of hst hW (by decide +kernel) (Nat.le_of_ble_eq_true rfl) (fun p e s m args below meth c A ls F hA hret hlocks hr hl => bX19_doorTurn_0 hst F hA (zEnd_v F hret hlocks) x0 x1 x2 hx0 hx1 hx2 hr hl h)
abbrev rmX19_tick : Room := { frames := 17, cells := 0, slots := 0, locals := 449 }
theorem hdX19_tick : yX19_tick.cls ≠ "java/lang/invoke/MethodHandle" ∧ yX19_tick.cls ≠ "java/lang/invoke/VarHandle" ∧ (parseMethodDescriptor yX19_tick.desc).map (fun d => d.parameters.length) = some 0 := by decide +kernel
theorem hroX19_tick_X19_arriveAll : rmX19_arriveAll.frames + 1 ≤ rmX19_tick.frames ∧ 8 + (10 + 11) + rmX19_arriveAll.locals ≤ rmX19_tick.locals := by decide
theorem hroX19_tick_X19_askings : rmX19_askings.frames + 1 ≤ rmX19_tick.frames ∧ 8 + (9 + 11) + rmX19_askings.locals ≤ rmX19_tick.locals := by decide
theorem hroX19_tick_X19_base : rmX19_base.frames + 1 ≤ rmX19_tick.frames ∧ 8 + (4 + 11) + rmX19_base.locals ≤ rmX19_tick.locals := by decide
theorem hroX19_tick_X19_doorTurn : rmX19_doorTurn.frames + 1 ≤ rmX19_tick.frames ∧ 8 + (5 + 11) + rmX19_doorTurn.locals ≤ rmX19_tick.locals := by decide
theorem hroX19_tick_X19_endPieces : rmX19_endPieces.frames + 1 ≤ rmX19_tick.frames ∧ 8 + (4 + 11) + rmX19_endPieces.locals ≤ rmX19_tick.locals := by decide
theorem hroX19_tick_X19_neighbours : rmX19_neighbours.frames + 1 ≤ rmX19_tick.frames ∧ 8 + (5 + 11) + rmX19_neighbours.locals ≤ rmX19_tick.locals := by decide
theorem hroX19_tick_X19_ownAdvert : rmX19_ownAdvert.frames + 1 ≤ rmX19_tick.frames ∧ 8 + (5 + 11) + rmX19_ownAdvert.locals ≤ rmX19_tick.locals := by decide
theorem hroX19_tick_X19_routerSpeaks : rmX19_routerSpeaks.frames + 1 ≤ rmX19_tick.frames ∧ 8 + (6 + 11) + rmX19_routerSpeaks.locals ≤ rmX19_tick.locals := by decide
theorem hroX19_tick_X19_stir : rmX19_stir.frames + 1 ≤ rmX19_tick.frames ∧ 8 + (1 + 11) + rmX19_stir.locals ≤ rmX19_tick.locals := by decide
theorem hroX19_tick_X19_ways : rmX19_ways.frames + 1 ≤ rmX19_tick.frames ∧ 8 + (5 + 11) + rmX19_ways.locals ≤ rmX19_tick.locals := by decide
section SX19_tick
variable {p : Program} {l : Launch} {e : Env} {s : State} {m : MethodId} {args : Array Value} {below : List Frame} {meth : Method} {c : Code} {Q : State → Prop} {D : va_G} {cy : Nat → ClassId} {B : Nat → Nat → Nat} {ids : List (Nat × Nat)} {A : Nat → Prop}
def fX19_tick_168 (N : Nat) (K16 : Nat → Int32 → St → Option (Int32 × St)) (x0 : Nat) (x1 : Int32) (z : St) : Option (Int32 × St) := zl (x1 + 1) fun v1 => K16 x0 v1 z
set_option maxHeartbeats 4000000 in
set_option maxRecDepth 100000 in
theorem bX19_tick_168 (hst : zSt B ids) (F : zFx p m c cX19_tick 4 s args RX19 D cy B ids A) (hA : ∀ q : Nat, s.heap.size ≤ q → A q) {r : Int32} {z' : St} (E : zEnd p l e rmX19_tick s m args below meth c cX19_tick D cy B ids A Q none z' .return_ True) {N : Nat} {K16 : Nat → Int32 → St → Option (Int32 × St)} (hK16 : ∀ (x0 : Nat) (x1 : Int32) (hx0 : (19, x0) ∈ ids) {z : St} {H : Heap} {locs : List Loc} {ls : Array Slot} (hr : zRep D cy B ids A s.heap z H locs) (hl : lv_has ls 4 [(0, .ref (B 19 x0)), (1, .int x1)]), K16 x0 x1 z = some (r, z') → W p l e rmX19_tick s m args below meth c H locs 0 0 Q (F0 m 16 ls [])) (x0 : Nat) (x1 : Int32) (hx0 : (19, x0) ∈ ids) {z : St} {H : Heap} {locs : List Loc} {ls : Array Slot} (hr : zRep D cy B ids A s.heap z H locs) (hl : lv_has ls 4 [(0, .ref (B 19 x0)), (1, .int x1)]) (h : fX19_tick_168 N K16 x0 x1 z = some (r, z')) : W p l e rmX19_tick s m args below meth c H locs 0 0 Q (F0 m 168 ls []) := by
  unfold fX19_tick_168 at h
  obtain ⟨v1, ev1⟩ : ∃ y : Int32, y = (x1 + 1) := ⟨_, rfl⟩
  replace h := zl_sub ev1 h
  refine lv_iinc (v := v1) (lv' := [(1, .int v1), (0, .ref (B 19 x0))]) F.1 F.2.1 dX19_tick_168 hl (k := 1) rfl (by rw [ev1]; rfl) (by decide) rfl (fun ls hl => ?_)
  refine lv_goto (tgt := 16) F.1 F.2.1 dX19_tick_171 (by decide) ?_
  exact hK16 x0 v1 hx0 hr (lv_sub hl [1, 0] rfl) h
def fX19_tick_145b (N : Nat) (K16 : Nat → Int32 → St → Option (Int32 × St)) (K145 : Nat → Int32 → Nat → Int32 → St → Option (Int32 × St)) (x0 : Nat) (x1 : Int32) (x2 : Nat) (x3 : Int32) (z : St) : Option (Int32 × St) := if (6 : Int32) ≤ x3 then (fX19_tick_168 N K16 x0 x1 z) else (zk x3 6 <| zl (zgQ z 158 x2 (Int32.toNatClampNeg x3)) fun y3 => zd y3 fun a4 => zc (fX19_doorTurn N x0 x2 a4 z) fun _ z6 => zl (x3 + 1) fun v9 => K145 x0 x1 x2 v9 z6)
def fX19_tick_145 (N : Nat) (K16 : Nat → Int32 → St → Option (Int32 × St)) : Nat → Nat → Int32 → Nat → Int32 → St → Option (Int32 × St)
  | 0 => fun _ _ _ _ _ => none
  | n + 1 => fX19_tick_145b N K16 (fX19_tick_145 N K16 n)
set_option maxHeartbeats 4000000 in
set_option maxRecDepth 100000 in
theorem bX19_tick_145 (hst : zSt B ids) (F : zFx p m c cX19_tick 4 s args RX19 D cy B ids A) (hA : ∀ q : Nat, s.heap.size ≤ q → A q) {r : Int32} {z' : St} (E : zEnd p l e rmX19_tick s m args below meth c cX19_tick D cy B ids A Q none z' .return_ True) {N : Nat} {K16 : Nat → Int32 → St → Option (Int32 × St)} {K145 : Nat → Int32 → Nat → Int32 → St → Option (Int32 × St)} (hK16 : ∀ (x0 : Nat) (x1 : Int32) (hx0 : (19, x0) ∈ ids) {z : St} {H : Heap} {locs : List Loc} {ls : Array Slot} (hr : zRep D cy B ids A s.heap z H locs) (hl : lv_has ls 4 [(0, .ref (B 19 x0)), (1, .int x1)]), K16 x0 x1 z = some (r, z') → W p l e rmX19_tick s m args below meth c H locs 0 0 Q (F0 m 16 ls [])) (hK145 : ∀ (x0 : Nat) (x1 : Int32) (x2 : Nat) (x3 : Int32) (hx0 : (19, x0) ∈ ids) (hx2 : (12, x2) ∈ ids) {z : St} {H : Heap} {locs : List Loc} {ls : Array Slot} (hr : zRep D cy B ids A s.heap z H locs) (hl : lv_has ls 4 [(0, .ref (B 19 x0)), (1, .int x1), (2, .ref (B 12 x2)), (3, .int x3)]), K145 x0 x1 x2 x3 z = some (r, z') → W p l e rmX19_tick s m args below meth c H locs 0 0 Q (F0 m 145 ls [])) (x0 : Nat) (x1 : Int32) (x2 : Nat) (x3 : Int32) (hx0 : (19, x0) ∈ ids) (hx2 : (12, x2) ∈ ids) {z : St} {H : Heap} {locs : List Loc} {ls : Array Slot} (hr : zRep D cy B ids A s.heap z H locs) (hl : lv_has ls 4 [(0, .ref (B 19 x0)), (1, .int x1), (2, .ref (B 12 x2)), (3, .int x3)]) (h : fX19_tick_145b N K16 K145 x0 x1 x2 x3 z = some (r, z')) : W p l e rmX19_tick s m args below meth c H locs 0 0 Q (F0 m 145 ls []) := by
  unfold fX19_tick_145b at h
  refine lv_iload_n F.1 F.2.1 dX19_tick_145 rfl (lv_at hl 3 rfl) ?_
  refine lv_bipush (v := (6 : Int32)) F.1 F.2.1 dX19_tick_146 (by decide) ?_
  refine lv_icmp_ge (tgt := 168) F.1 F.2.1 dX19_tick_148 (by decide) (fun c1 => ?_) (fun c1 => ?_)
  · replace h := zi_t c1 h
    exact bX19_tick_168 hst F hA E hK16 x0 x1 hx0 hr (lv_sub hl [0, 1] rfl) h
  · replace h := zi_f c1 h
    refine lv_aload_n F.1 F.2.1 dX19_tick_151 rfl (lv_at hl 0 rfl) ?_
    refine lv_aload_n F.1 F.2.1 dX19_tick_152 rfl (lv_at hl 2 rfl) ?_
    refine lv_aload_n F.1 F.2.1 dX19_tick_153 rfl (lv_at hl 2 rfl) ?_
    refine gf19_340 F hx2 hr dX19_tick_154 ?_
    refine lv_iload_n F.1 F.2.1 dX19_tick_157 rfl (lv_at hl 3 rfl) ?_
    replace h := zk_some h
    obtain ⟨c2, h⟩ := h
    refine zr_aaldv (k := 158) (by decide) rfl rfl (zlen_d (by decide)) F (zal_a F hx2 (j := 28) rfl) hr dX19_tick_158 c2 (fun y3 ey3 => ?_)
    replace h := zl_sub ey3 h
    have hy3 := zal_q hr (zal_a F hx2 (j := 28) rfl) rfl ey3
    clear ey3
    replace h := zd_some h
    obtain ⟨a4, rfl, h⟩ := h
    replace h := zc_some h
    obtain ⟨r5, z6, hc7, h⟩ := h
    refine zr_callv (zrun_V (As := [.ref (B 12 x2), .ref (B 13 a4)]) (rest := []) zq_2924 zq_2926 zs_X19_doorTurn zq_2927 zq_4 hdX19_doorTurn (by decide) (T := TX19) (N := 32) rfl (okX19_doorTurn l D cy B ids hst N x0 hx0 x2 hx2 a4 (hy3 _ rfl) hr.2.2 hc7) F hr hx0 hl.1 rfl (by decide) dX19_tick_159 rfl rfl hroX19_tick_X19_doorTurn ⟨Nat.zero_le _, Nat.zero_le _⟩) F hA hr (fun H locs hw8 hr => ?_)
    clear hc7
    obtain ⟨v9, ev9⟩ : ∃ y : Int32, y = (x3 + 1) := ⟨_, rfl⟩
    replace h := zl_sub ev9 h
    refine lv_iinc (v := v9) (lv' := [(3, .int v9), (0, .ref (B 19 x0)), (1, .int x1), (2, .ref (B 12 x2))]) F.1 F.2.1 dX19_tick_162 hl (k := 3) rfl (by rw [ev9]; rfl) (by decide) rfl (fun ls hl => ?_)
    refine lv_goto (tgt := 145) F.1 F.2.1 dX19_tick_165 (by decide) ?_
    exact hK145 x0 x1 x2 v9 hx0 hx2 hr (lv_sub hl [1, 2, 3, 0] rfl) h
theorem lX19_tick_145 (hst : zSt B ids) (F : zFx p m c cX19_tick 4 s args RX19 D cy B ids A) (hA : ∀ q : Nat, s.heap.size ≤ q → A q) {r : Int32} {z' : St} (E : zEnd p l e rmX19_tick s m args below meth c cX19_tick D cy B ids A Q none z' .return_ True) {N : Nat} {K16 : Nat → Int32 → St → Option (Int32 × St)} (hK16 : ∀ (x0 : Nat) (x1 : Int32) (hx0 : (19, x0) ∈ ids) {z : St} {H : Heap} {locs : List Loc} {ls : Array Slot} (hr : zRep D cy B ids A s.heap z H locs) (hl : lv_has ls 4 [(0, .ref (B 19 x0)), (1, .int x1)]), K16 x0 x1 z = some (r, z') → W p l e rmX19_tick s m args below meth c H locs 0 0 Q (F0 m 16 ls [])) : ∀ (n : Nat) (x0 : Nat) (x1 : Int32) (x2 : Nat) (x3 : Int32) (hx0 : (19, x0) ∈ ids) (hx2 : (12, x2) ∈ ids) {z : St} {H : Heap} {locs : List Loc} {ls : Array Slot} (hr : zRep D cy B ids A s.heap z H locs) (hl : lv_has ls 4 [(0, .ref (B 19 x0)), (1, .int x1), (2, .ref (B 12 x2)), (3, .int x3)]), fX19_tick_145 N K16 n x0 x1 x2 x3 z = some (r, z') → W p l e rmX19_tick s m args below meth c H locs 0 0 Q (F0 m 145 ls []) := by
  intro n
  induction n with
  | zero => intro x0 x1 x2 x3 hx0 hx2 z H locs ls hr hl h; cases h
  | succ n ih => intro x0 x1 x2 x3 hx0 hx2 z H locs ls hr hl h; exact bX19_tick_145 hst F hA E hK16 ih x0 x1 x2 x3 hx0 hx2 hr hl h
def fX19_tick_59b (N : Nat) (K16 : Nat → Int32 → St → Option (Int32 × St)) (K59 : Nat → Int32 → Nat → Int32 → St → Option (Int32 × St)) (x0 : Nat) (x1 : Int32) (x2 : Nat) (x3 : Int32) (z : St) : Option (Int32 × St) := if (zgI z 12 11 x2) ≤ x3 then (if (zgI z 12 1 x2) = 0 then (fX19_tick_145 N K16 N x0 x1 x2 (0 : Int32) z) else (zc (fX19_neighbours N x2 (zgI z 19 24 x0) z) fun _ z4 => zc (fX19_base N x0 x2 z4) fun _ z8 => zc (fX19_ownAdvert N x0 x2 z8) fun _ z12 => zc (fX19_routerSpeaks N x0 x2 z12) fun _ z16 => zc (fX19_ways N x0 x2 z16) fun _ z20 => fX19_tick_168 N K16 x0 x1 z20)) else (zk x3 4 <| zl (zgQ z 148 x2 (Int32.toNatClampNeg x3)) fun y24 => zd y24 fun a25 => if ((zgI z 19 24 x0) - (zgI z 17 4 a25)) < (300 : Int32) then (zl (x3 + 1) fun v27 => K59 x0 x1 x2 v27 z) else (zc (fX19_endPieces N x2 x3 z) fun _ z29 => zc (fX19_stir N x0 z29) fun _ z33 => K59 x0 x1 x2 x3 z33))
def fX19_tick_59 (N : Nat) (K16 : Nat → Int32 → St → Option (Int32 × St)) : Nat → Nat → Int32 → Nat → Int32 → St → Option (Int32 × St)
  | 0 => fun _ _ _ _ _ => none
  | n + 1 => fX19_tick_59b N K16 (fX19_tick_59 N K16 n)
set_option maxHeartbeats 4000000 in
set_option maxRecDepth 100000 in
theorem bX19_tick_59 (hst : zSt B ids) (F : zFx p m c cX19_tick 4 s args RX19 D cy B ids A) (hA : ∀ q : Nat, s.heap.size ≤ q → A q) {r : Int32} {z' : St} (E : zEnd p l e rmX19_tick s m args below meth c cX19_tick D cy B ids A Q none z' .return_ True) {N : Nat} {K16 : Nat → Int32 → St → Option (Int32 × St)} {K59 : Nat → Int32 → Nat → Int32 → St → Option (Int32 × St)} (hK16 : ∀ (x0 : Nat) (x1 : Int32) (hx0 : (19, x0) ∈ ids) {z : St} {H : Heap} {locs : List Loc} {ls : Array Slot} (hr : zRep D cy B ids A s.heap z H locs) (hl : lv_has ls 4 [(0, .ref (B 19 x0)), (1, .int x1)]), K16 x0 x1 z = some (r, z') → W p l e rmX19_tick s m args below meth c H locs 0 0 Q (F0 m 16 ls [])) (hK59 : ∀ (x0 : Nat) (x1 : Int32) (x2 : Nat) (x3 : Int32) (hx0 : (19, x0) ∈ ids) (hx2 : (12, x2) ∈ ids) {z : St} {H : Heap} {locs : List Loc} {ls : Array Slot} (hr : zRep D cy B ids A s.heap z H locs) (hl : lv_has ls 4 [(0, .ref (B 19 x0)), (1, .int x1), (2, .ref (B 12 x2)), (3, .int x3)]), K59 x0 x1 x2 x3 z = some (r, z') → W p l e rmX19_tick s m args below meth c H locs 0 0 Q (F0 m 59 ls [])) (x0 : Nat) (x1 : Int32) (x2 : Nat) (x3 : Int32) (hx0 : (19, x0) ∈ ids) (hx2 : (12, x2) ∈ ids) {z : St} {H : Heap} {locs : List Loc} {ls : Array Slot} (hr : zRep D cy B ids A s.heap z H locs) (hl : lv_has ls 4 [(0, .ref (B 19 x0)), (1, .int x1), (2, .ref (B 12 x2)), (3, .int x3)]) (h : fX19_tick_59b N K16 K59 x0 x1 x2 x3 z = some (r, z')) : W p l e rmX19_tick s m args below meth c H locs 0 0 Q (F0 m 59 ls []) := by
  unfold fX19_tick_59b at h
  refine lv_iload_n F.1 F.2.1 dX19_tick_59 rfl (lv_at hl 3 rfl) ?_
  refine lv_aload_n F.1 F.2.1 dX19_tick_60 rfl (lv_at hl 2 rfl) ?_
  refine gf19_392 F hx2 hr dX19_tick_61 ?_
  refine lv_icmp_ge (tgt := 105) F.1 F.2.1 dX19_tick_64 (by decide) (fun c1 => ?_) (fun c1 => ?_)
  · replace h := zi_t c1 h
    refine lv_aload_n F.1 F.2.1 dX19_tick_105 rfl (lv_at hl 2 rfl) ?_
    refine gf19_298 F hx2 hr dX19_tick_106 ?_
    refine lv_if_eq (tgt := 143) F.1 F.2.1 dX19_tick_109 (by decide) (fun c2 => ?_) (fun c2 => ?_)
    · replace h := zi_t c2 h
      refine lv_iconst (v := (0 : Int32)) F.1 F.2.1 dX19_tick_143 (by decide) ?_
      refine lv_istore_n (lv' := [(3, .int (0 : Int32)), (0, .ref (B 19 x0)), (1, .int x1), (2, .ref (B 12 x2))]) F.1 F.2.1 dX19_tick_144 rfl hl (by decide) rfl (fun ls hl => ?_)
      exact lX19_tick_145 hst F hA E hK16 _ x0 x1 x2 (0 : Int32) hx0 hx2 hr (lv_sub hl [1, 2, 3, 0] rfl) h
    · replace h := zi_f c2 h
      refine lv_aload_n F.1 F.2.1 dX19_tick_112 rfl (lv_at hl 2 rfl) ?_
      refine lv_aload_n F.1 F.2.1 dX19_tick_113 rfl (lv_at hl 0 rfl) ?_
      refine gf19_143 F hx0 hr dX19_tick_114 ?_
      replace h := zc_some h
      obtain ⟨r3, z4, hc5, h⟩ := h
      refine zr_callv (zrun_S (As := [.ref (B 12 x2), .int (zgI z 19 24 x0)]) (rest := []) zq_2856 zq_2857 zq_2858 zq_4 hdX19_neighbours (okX19_neighbours l D cy B ids hst N x2 hx2 (zgI z 19 24 x0)  hr.2.2 hc5) F hr hl.1 rfl (by decide) dX19_tick_117 rfl rfl hroX19_tick_X19_neighbours ⟨Nat.zero_le _, Nat.zero_le _⟩) F hA hr (fun H locs hw6 hr => ?_)
      clear hc5
      refine lv_aload_n F.1 F.2.1 dX19_tick_120 rfl (lv_at hl 0 rfl) ?_
      refine lv_aload_n F.1 F.2.1 dX19_tick_121 rfl (lv_at hl 2 rfl) ?_
      replace h := zc_some h
      obtain ⟨r7, z8, hc9, h⟩ := h
      refine zr_callv (zrun_V (As := [.ref (B 12 x2)]) (rest := []) zq_2859 zq_2861 zs_X19_base zq_2862 zq_4 hdX19_base (by decide) (T := TX19) (N := 32) rfl (okX19_base l D cy B ids hst N x0 hx0 x2 hx2 hr.2.2 hc9) F hr hx0 hl.1 rfl (by decide) dX19_tick_122 rfl rfl hroX19_tick_X19_base ⟨Nat.zero_le _, Nat.zero_le _⟩) F hA hr (fun H locs hw10 hr => ?_)
      clear hc9
      refine lv_aload_n F.1 F.2.1 dX19_tick_125 rfl (lv_at hl 0 rfl) ?_
      refine lv_aload_n F.1 F.2.1 dX19_tick_126 rfl (lv_at hl 2 rfl) ?_
      replace h := zc_some h
      obtain ⟨r11, z12, hc13, h⟩ := h
      refine zr_callv (zrun_V (As := [.ref (B 12 x2)]) (rest := []) zq_2863 zq_2865 zs_X19_ownAdvert zq_2866 zq_4 hdX19_ownAdvert (by decide) (T := TX19) (N := 32) rfl (okX19_ownAdvert l D cy B ids hst N x0 hx0 x2 hx2 hr.2.2 hc13) F hr hx0 hl.1 rfl (by decide) dX19_tick_127 rfl rfl hroX19_tick_X19_ownAdvert ⟨Nat.zero_le _, Nat.zero_le _⟩) F hA hr (fun H locs hw14 hr => ?_)
      clear hc13
      refine lv_aload_n F.1 F.2.1 dX19_tick_130 rfl (lv_at hl 0 rfl) ?_
      refine lv_aload_n F.1 F.2.1 dX19_tick_131 rfl (lv_at hl 2 rfl) ?_
      replace h := zc_some h
      obtain ⟨r15, z16, hc17, h⟩ := h
      refine zr_callv (zrun_V (As := [.ref (B 12 x2)]) (rest := []) zq_2883 zq_2885 zs_X19_routerSpeaks zq_2886 zq_4 hdX19_routerSpeaks (by decide) (T := TX19) (N := 32) rfl (okX19_routerSpeaks l D cy B ids hst N x0 hx0 x2 hx2 hr.2.2 hc17) F hr hx0 hl.1 rfl (by decide) dX19_tick_132 rfl rfl hroX19_tick_X19_routerSpeaks ⟨Nat.zero_le _, Nat.zero_le _⟩) F hA hr (fun H locs hw18 hr => ?_)
      clear hc17
      refine lv_aload_n F.1 F.2.1 dX19_tick_135 rfl (lv_at hl 0 rfl) ?_
      refine lv_aload_n F.1 F.2.1 dX19_tick_136 rfl (lv_at hl 2 rfl) ?_
      replace h := zc_some h
      obtain ⟨r19, z20, hc21, h⟩ := h
      refine zr_callv (zrun_V (As := [.ref (B 12 x2)]) (rest := []) zq_2895 zq_2897 zs_X19_ways zq_2898 zq_4 hdX19_ways (by decide) (T := TX19) (N := 32) rfl (okX19_ways l D cy B ids hst N x0 hx0 x2 hx2 hr.2.2 hc21) F hr hx0 hl.1 rfl (by decide) dX19_tick_137 rfl rfl hroX19_tick_X19_ways ⟨Nat.zero_le _, Nat.zero_le _⟩) F hA hr (fun H locs hw22 hr => ?_)
      clear hc21
      refine lv_goto (tgt := 168) F.1 F.2.1 dX19_tick_140 (by decide) ?_
      exact bX19_tick_168 hst F hA E hK16 x0 x1 hx0 hr (lv_sub hl [0, 1] rfl) h
  · replace h := zi_f c1 h
    refine lv_aload_n F.1 F.2.1 dX19_tick_67 rfl (lv_at hl 0 rfl) ?_
    refine gf19_143 F hx0 hr dX19_tick_68 ?_
    refine lv_aload_n F.1 F.2.1 dX19_tick_71 rfl (lv_at hl 2 rfl) ?_
    refine gf19_395 F hx2 hr dX19_tick_72 ?_
    refine lv_iload_n F.1 F.2.1 dX19_tick_75 rfl (lv_at hl 3 rfl) ?_
    replace h := zk_some h
    obtain ⟨c23, h⟩ := h
    refine zr_aaldv (k := 148) (by decide) rfl rfl (zlen_d (by decide)) F (zal_a F hx2 (j := 10) rfl) hr dX19_tick_76 c23 (fun y24 ey24 => ?_)
    replace h := zl_sub ey24 h
    have hy24 := zal_q hr (zal_a F hx2 (j := 10) rfl) rfl ey24
    clear ey24
    replace h := zd_some h
    obtain ⟨a25, rfl, h⟩ := h
    refine gf19_414 F (hy24 _ rfl) hr dX19_tick_77 ?_
    refine lv_isub F.1 F.2.1 dX19_tick_80 ?_
    refine lv_sipush (v := (300 : Int32)) F.1 F.2.1 dX19_tick_81 (by decide) ?_
    refine lv_icmp_lt (tgt := 99) F.1 F.2.1 dX19_tick_84 (by decide) (fun c26 => ?_) (fun c26 => ?_)
    · replace h := zi_t c26 h
      obtain ⟨v27, ev27⟩ : ∃ y : Int32, y = (x3 + 1) := ⟨_, rfl⟩
      replace h := zl_sub ev27 h
      refine lv_iinc (v := v27) (lv' := [(3, .int v27), (0, .ref (B 19 x0)), (1, .int x1), (2, .ref (B 12 x2))]) F.1 F.2.1 dX19_tick_99 hl (k := 3) rfl (by rw [ev27]; rfl) (by decide) rfl (fun ls hl => ?_)
      refine lv_goto (tgt := 59) F.1 F.2.1 dX19_tick_102 (by decide) ?_
      exact hK59 x0 x1 x2 v27 hx0 hx2 hr (lv_sub hl [1, 2, 3, 0] rfl) h
    · replace h := zi_f c26 h
      refine lv_aload_n F.1 F.2.1 dX19_tick_87 rfl (lv_at hl 2 rfl) ?_
      refine lv_iload_n F.1 F.2.1 dX19_tick_88 rfl (lv_at hl 3 rfl) ?_
      replace h := zc_some h
      obtain ⟨r28, z29, hc30, h⟩ := h
      refine zr_callv (zrun_S (As := [.ref (B 12 x2), .int x3]) (rest := []) zq_2841 zq_2842 zq_2843 zq_4 hdX19_endPieces (okX19_endPieces l D cy B ids hst N x2 hx2 x3  hr.2.2 hc30) F hr hl.1 rfl (by decide) dX19_tick_89 rfl rfl hroX19_tick_X19_endPieces ⟨Nat.zero_le _, Nat.zero_le _⟩) F hA hr (fun H locs hw31 hr => ?_)
      clear hc30
      refine lv_aload_n F.1 F.2.1 dX19_tick_92 rfl (lv_at hl 0 rfl) ?_
      replace h := zc_some h
      obtain ⟨r32, z33, hc34, h⟩ := h
      refine zr_callv (zrun_V (As := []) (rest := []) zq_2394 zq_2396 zs_X19_stir zq_2397 zq_4 hdX19_stir (by decide) (T := TX19) (N := 32) rfl (okX19_stir l D cy B ids hst N x0 hx0 hr.2.2 hc34) F hr hx0 hl.1 rfl (by decide) dX19_tick_93 rfl rfl hroX19_tick_X19_stir ⟨Nat.zero_le _, Nat.zero_le _⟩) F hA hr (fun H locs hw35 hr => ?_)
      clear hc34
      refine lv_goto (tgt := 59) F.1 F.2.1 dX19_tick_96 (by decide) ?_
      exact hK59 x0 x1 x2 x3 hx0 hx2 hr (lv_sub hl [0, 1, 2, 3] rfl) h
theorem lX19_tick_59 (hst : zSt B ids) (F : zFx p m c cX19_tick 4 s args RX19 D cy B ids A) (hA : ∀ q : Nat, s.heap.size ≤ q → A q) {r : Int32} {z' : St} (E : zEnd p l e rmX19_tick s m args below meth c cX19_tick D cy B ids A Q none z' .return_ True) {N : Nat} {K16 : Nat → Int32 → St → Option (Int32 × St)} (hK16 : ∀ (x0 : Nat) (x1 : Int32) (hx0 : (19, x0) ∈ ids) {z : St} {H : Heap} {locs : List Loc} {ls : Array Slot} (hr : zRep D cy B ids A s.heap z H locs) (hl : lv_has ls 4 [(0, .ref (B 19 x0)), (1, .int x1)]), K16 x0 x1 z = some (r, z') → W p l e rmX19_tick s m args below meth c H locs 0 0 Q (F0 m 16 ls [])) : ∀ (n : Nat) (x0 : Nat) (x1 : Int32) (x2 : Nat) (x3 : Int32) (hx0 : (19, x0) ∈ ids) (hx2 : (12, x2) ∈ ids) {z : St} {H : Heap} {locs : List Loc} {ls : Array Slot} (hr : zRep D cy B ids A s.heap z H locs) (hl : lv_has ls 4 [(0, .ref (B 19 x0)), (1, .int x1), (2, .ref (B 12 x2)), (3, .int x3)]), fX19_tick_59 N K16 n x0 x1 x2 x3 z = some (r, z') → W p l e rmX19_tick s m args below meth c H locs 0 0 Q (F0 m 59 ls []) := by
  intro n
  induction n with
  | zero => intro x0 x1 x2 x3 hx0 hx2 z H locs ls hr hl h; cases h
  | succ n ih => intro x0 x1 x2 x3 hx0 hx2 z H locs ls hr hl h; exact bX19_tick_59 hst F hA E hK16 ih x0 x1 x2 x3 hx0 hx2 hr hl h
def fX19_tick_33b (N : Nat) (K16 : Nat → Int32 → St → Option (Int32 × St)) (K33 : Nat → Int32 → Option Nat → Int32 → St → Option (Int32 × St)) (x0 : Nat) (x1 : Int32) (x2 : Option Nat) (x3 : Int32) (z : St) : Option (Int32 × St) := zd x2 fun a1 => if (zgI z 12 3 a1) ≤ x3 then (fX19_tick_59 N K16 N x0 x1 a1 (0 : Int32) z) else (zk x3 6 <| zl (zgQ z 147 a1 (Int32.toNatClampNeg x3)) fun y4 => zd y4 fun a5 => zc (fX19_askings N x0 a5 z) fun _ z7 => zl (x3 + 1) fun v10 => K33 x0 x1 (some a1) v10 z7)
def fX19_tick_33 (N : Nat) (K16 : Nat → Int32 → St → Option (Int32 × St)) : Nat → Nat → Int32 → Option Nat → Int32 → St → Option (Int32 × St)
  | 0 => fun _ _ _ _ _ => none
  | n + 1 => fX19_tick_33b N K16 (fX19_tick_33 N K16 n)
set_option maxHeartbeats 4000000 in
set_option maxRecDepth 100000 in
theorem bX19_tick_33 (hst : zSt B ids) (F : zFx p m c cX19_tick 4 s args RX19 D cy B ids A) (hA : ∀ q : Nat, s.heap.size ≤ q → A q) {r : Int32} {z' : St} (E : zEnd p l e rmX19_tick s m args below meth c cX19_tick D cy B ids A Q none z' .return_ True) {N : Nat} {K16 : Nat → Int32 → St → Option (Int32 × St)} {K33 : Nat → Int32 → Option Nat → Int32 → St → Option (Int32 × St)} (hK16 : ∀ (x0 : Nat) (x1 : Int32) (hx0 : (19, x0) ∈ ids) {z : St} {H : Heap} {locs : List Loc} {ls : Array Slot} (hr : zRep D cy B ids A s.heap z H locs) (hl : lv_has ls 4 [(0, .ref (B 19 x0)), (1, .int x1)]), K16 x0 x1 z = some (r, z') → W p l e rmX19_tick s m args below meth c H locs 0 0 Q (F0 m 16 ls [])) (hK33 : ∀ (x0 : Nat) (x1 : Int32) (x2 : Option Nat) (x3 : Int32) (hx0 : (19, x0) ∈ ids) (hx2 : ∀ t, x2 = some t → (12, t) ∈ ids) {z : St} {H : Heap} {locs : List Loc} {ls : Array Slot} (hr : zRep D cy B ids A s.heap z H locs) (hl : lv_has ls 4 [(0, .ref (B 19 x0)), (1, .int x1), (2, va_rf (Option.map (B 12) x2)), (3, .int x3)]), K33 x0 x1 x2 x3 z = some (r, z') → W p l e rmX19_tick s m args below meth c H locs 0 0 Q (F0 m 33 ls [])) (x0 : Nat) (x1 : Int32) (x2 : Option Nat) (x3 : Int32) (hx0 : (19, x0) ∈ ids) (hx2 : ∀ t, x2 = some t → (12, t) ∈ ids) {z : St} {H : Heap} {locs : List Loc} {ls : Array Slot} (hr : zRep D cy B ids A s.heap z H locs) (hl : lv_has ls 4 [(0, .ref (B 19 x0)), (1, .int x1), (2, va_rf (Option.map (B 12) x2)), (3, .int x3)]) (h : fX19_tick_33b N K16 K33 x0 x1 x2 x3 z = some (r, z')) : W p l e rmX19_tick s m args below meth c H locs 0 0 Q (F0 m 33 ls []) := by
  unfold fX19_tick_33b at h
  refine lv_iload_n F.1 F.2.1 dX19_tick_33 rfl (lv_at hl 3 rfl) ?_
  refine zr_aload_n F.1 F.2.1 dX19_tick_34 rfl (lv_at hl 2 rfl) ?_
  replace h := zd_some h
  obtain ⟨a1, rfl, h⟩ := h
  refine gf19_273 F (hx2 _ rfl) hr dX19_tick_35 ?_
  refine lv_icmp_ge (tgt := 57) F.1 F.2.1 dX19_tick_38 (by decide) (fun c2 => ?_) (fun c2 => ?_)
  · replace h := zi_t c2 h
    refine lv_iconst (v := (0 : Int32)) F.1 F.2.1 dX19_tick_57 (by decide) ?_
    refine lv_istore_n (lv' := [(3, .int (0 : Int32)), (0, .ref (B 19 x0)), (1, .int x1), (2, .ref (B 12 a1))]) F.1 F.2.1 dX19_tick_58 rfl hl (by decide) rfl (fun ls hl => ?_)
    exact lX19_tick_59 hst F hA E hK16 _ x0 x1 a1 (0 : Int32) hx0 (hx2 _ rfl) hr (lv_sub hl [1, 2, 3, 0] rfl) h
  · replace h := zi_f c2 h
    refine lv_aload_n F.1 F.2.1 dX19_tick_41 rfl (lv_at hl 0 rfl) ?_
    refine lv_aload_n F.1 F.2.1 dX19_tick_42 rfl (lv_at hl 2 rfl) ?_
    refine gf19_276 F (hx2 _ rfl) hr dX19_tick_43 ?_
    refine lv_iload_n F.1 F.2.1 dX19_tick_46 rfl (lv_at hl 3 rfl) ?_
    replace h := zk_some h
    obtain ⟨c3, h⟩ := h
    refine zr_aaldv (k := 147) (by decide) rfl rfl (zlen_d (by decide)) F (zal_a F (hx2 _ rfl) (j := 2) rfl) hr dX19_tick_47 c3 (fun y4 ey4 => ?_)
    replace h := zl_sub ey4 h
    have hy4 := zal_q hr (zal_a F (hx2 _ rfl) (j := 2) rfl) rfl ey4
    clear ey4
    replace h := zd_some h
    obtain ⟨a5, rfl, h⟩ := h
    replace h := zc_some h
    obtain ⟨r6, z7, hc8, h⟩ := h
    refine zr_callv (zrun_V (As := [.ref (B 18 a5)]) (rest := []) zq_2852 zq_2854 zs_X19_askings zq_2855 zq_4 hdX19_askings (by decide) (T := TX19) (N := 32) rfl (okX19_askings l D cy B ids hst N x0 hx0 a5 (hy4 _ rfl) hr.2.2 hc8) F hr hx0 hl.1 rfl (by decide) dX19_tick_48 rfl rfl hroX19_tick_X19_askings ⟨Nat.zero_le _, Nat.zero_le _⟩) F hA hr (fun H locs hw9 hr => ?_)
    clear hc8
    obtain ⟨v10, ev10⟩ : ∃ y : Int32, y = (x3 + 1) := ⟨_, rfl⟩
    replace h := zl_sub ev10 h
    refine lv_iinc (v := v10) (lv' := [(3, .int v10), (0, .ref (B 19 x0)), (1, .int x1), (2, .ref (B 12 a1))]) F.1 F.2.1 dX19_tick_51 hl (k := 3) rfl (by rw [ev10]; rfl) (by decide) rfl (fun ls hl => ?_)
    refine lv_goto (tgt := 33) F.1 F.2.1 dX19_tick_54 (by decide) ?_
    exact hK33 x0 x1 (some a1) v10 hx0 (zal_s (hx2 _ rfl)) hr (lv_sub hl [1, 2, 3, 0] rfl) h
theorem lX19_tick_33 (hst : zSt B ids) (F : zFx p m c cX19_tick 4 s args RX19 D cy B ids A) (hA : ∀ q : Nat, s.heap.size ≤ q → A q) {r : Int32} {z' : St} (E : zEnd p l e rmX19_tick s m args below meth c cX19_tick D cy B ids A Q none z' .return_ True) {N : Nat} {K16 : Nat → Int32 → St → Option (Int32 × St)} (hK16 : ∀ (x0 : Nat) (x1 : Int32) (hx0 : (19, x0) ∈ ids) {z : St} {H : Heap} {locs : List Loc} {ls : Array Slot} (hr : zRep D cy B ids A s.heap z H locs) (hl : lv_has ls 4 [(0, .ref (B 19 x0)), (1, .int x1)]), K16 x0 x1 z = some (r, z') → W p l e rmX19_tick s m args below meth c H locs 0 0 Q (F0 m 16 ls [])) : ∀ (n : Nat) (x0 : Nat) (x1 : Int32) (x2 : Option Nat) (x3 : Int32) (hx0 : (19, x0) ∈ ids) (hx2 : ∀ t, x2 = some t → (12, t) ∈ ids) {z : St} {H : Heap} {locs : List Loc} {ls : Array Slot} (hr : zRep D cy B ids A s.heap z H locs) (hl : lv_has ls 4 [(0, .ref (B 19 x0)), (1, .int x1), (2, va_rf (Option.map (B 12) x2)), (3, .int x3)]), fX19_tick_33 N K16 n x0 x1 x2 x3 z = some (r, z') → W p l e rmX19_tick s m args below meth c H locs 0 0 Q (F0 m 33 ls []) := by
  intro n
  induction n with
  | zero => intro x0 x1 x2 x3 hx0 hx2 z H locs ls hr hl h; cases h
  | succ n ih => intro x0 x1 x2 x3 hx0 hx2 z H locs ls hr hl h; exact bX19_tick_33 hst F hA E hK16 ih x0 x1 x2 x3 hx0 hx2 hr hl h
def fX19_tick_16b (N : Nat) (K16 : Nat → Int32 → St → Option (Int32 × St)) (x0 : Nat) (x1 : Int32) (z : St) : Option (Int32 × St) := if (zgI z 19 19 x0) ≤ x1 then (some (0, z)) else (zk x1 16 <| zl (zgQ z 186 x0 (Int32.toNatClampNeg x1)) fun y3 => fX19_tick_33 N K16 N x0 x1 y3 (0 : Int32) z)
def fX19_tick_16 (N : Nat)  : Nat → Nat → Int32 → St → Option (Int32 × St)
  | 0 => fun _ _ _ => none
  | n + 1 => fX19_tick_16b N (fX19_tick_16 N  n)
set_option maxHeartbeats 4000000 in
set_option maxRecDepth 100000 in
theorem bX19_tick_16 (hst : zSt B ids) (F : zFx p m c cX19_tick 4 s args RX19 D cy B ids A) (hA : ∀ q : Nat, s.heap.size ≤ q → A q) {r : Int32} {z' : St} (E : zEnd p l e rmX19_tick s m args below meth c cX19_tick D cy B ids A Q none z' .return_ True) {N : Nat} {K16 : Nat → Int32 → St → Option (Int32 × St)} (hK16 : ∀ (x0 : Nat) (x1 : Int32) (hx0 : (19, x0) ∈ ids) {z : St} {H : Heap} {locs : List Loc} {ls : Array Slot} (hr : zRep D cy B ids A s.heap z H locs) (hl : lv_has ls 4 [(0, .ref (B 19 x0)), (1, .int x1)]), K16 x0 x1 z = some (r, z') → W p l e rmX19_tick s m args below meth c H locs 0 0 Q (F0 m 16 ls [])) (x0 : Nat) (x1 : Int32) (hx0 : (19, x0) ∈ ids) {z : St} {H : Heap} {locs : List Loc} {ls : Array Slot} (hr : zRep D cy B ids A s.heap z H locs) (hl : lv_has ls 4 [(0, .ref (B 19 x0)), (1, .int x1)]) (h : fX19_tick_16b N K16 x0 x1 z = some (r, z')) : W p l e rmX19_tick s m args below meth c H locs 0 0 Q (F0 m 16 ls []) := by
  unfold fX19_tick_16b at h
  refine lv_iload_n F.1 F.2.1 dX19_tick_16 rfl (lv_at hl 1 rfl) ?_
  refine lv_aload_n F.1 F.2.1 dX19_tick_17 rfl (lv_at hl 0 rfl) ?_
  refine gf19_831 F hx0 hr dX19_tick_18 ?_
  refine lv_icmp_ge (tgt := 174) F.1 F.2.1 dX19_tick_21 (by decide) (fun c1 => ?_) (fun c1 => ?_)
  · replace h := zi_t c1 h
    obtain ⟨rfl, rfl⟩ := zret h
    exact E _ _ _ _ dX19_tick_174 trivial hr
  · replace h := zi_f c1 h
    refine lv_aload_n F.1 F.2.1 dX19_tick_24 rfl (lv_at hl 0 rfl) ?_
    refine gf19_114 F hx0 hr dX19_tick_25 ?_
    refine lv_iload_n F.1 F.2.1 dX19_tick_28 rfl (lv_at hl 1 rfl) ?_
    replace h := zk_some h
    obtain ⟨c2, h⟩ := h
    refine zr_aaldv (k := 186) (by decide) rfl rfl (zlen_d (by decide)) F (zal_a F hx0 (j := 18) rfl) hr dX19_tick_29 c2 (fun y3 ey3 => ?_)
    replace h := zl_sub ey3 h
    have hy3 := zal_q hr (zal_a F hx0 (j := 18) rfl) rfl ey3
    clear ey3
    refine zr_astore_n (lv' := [(2, va_rf (Option.map (B 12) y3)), (0, .ref (B 19 x0)), (1, .int x1)]) F.1 F.2.1 dX19_tick_30 rfl hl (by decide) rfl (fun ls hl => ?_)
    refine lv_iconst (v := (0 : Int32)) F.1 F.2.1 dX19_tick_31 (by decide) ?_
    refine lv_istore_n (lv' := [(3, .int (0 : Int32)), (2, va_rf (Option.map (B 12) y3)), (0, .ref (B 19 x0)), (1, .int x1)]) F.1 F.2.1 dX19_tick_32 rfl hl (by decide) (by simp only [List.filter, zrf_cat]; rfl) (fun ls hl => ?_)
    exact lX19_tick_33 hst F hA E hK16 _ x0 x1 y3 (0 : Int32) hx0 hy3 hr (lv_sub hl [2, 3, 1, 0] rfl) h
theorem lX19_tick_16 (hst : zSt B ids) (F : zFx p m c cX19_tick 4 s args RX19 D cy B ids A) (hA : ∀ q : Nat, s.heap.size ≤ q → A q) {r : Int32} {z' : St} (E : zEnd p l e rmX19_tick s m args below meth c cX19_tick D cy B ids A Q none z' .return_ True) {N : Nat}  : ∀ (n : Nat) (x0 : Nat) (x1 : Int32) (hx0 : (19, x0) ∈ ids) {z : St} {H : Heap} {locs : List Loc} {ls : Array Slot} (hr : zRep D cy B ids A s.heap z H locs) (hl : lv_has ls 4 [(0, .ref (B 19 x0)), (1, .int x1)]), fX19_tick_16 N  n x0 x1 z = some (r, z') → W p l e rmX19_tick s m args below meth c H locs 0 0 Q (F0 m 16 ls []) := by
  intro n
  induction n with
  | zero => intro x0 x1 hx0 z H locs ls hr hl h; cases h
  | succ n ih => intro x0 x1 hx0 z H locs ls hr hl h; exact bX19_tick_16 hst F hA E ih x0 x1 hx0 hr hl h
def fX19_tick (N : Nat)  (x0 : Nat) (z : St) : Option (Int32 × St) := zl (zsI z 19 24 x0 ((zgI z 19 24 x0) + (1 : Int32))) fun z1 => zc (fX19_arriveAll N x0 z1) fun _ z3 => fX19_tick_16 N N x0 (0 : Int32) z3
set_option maxHeartbeats 4000000 in
set_option maxRecDepth 100000 in
theorem bX19_tick_0 (hst : zSt B ids) (F : zFx p m c cX19_tick 4 s args RX19 D cy B ids A) (hA : ∀ q : Nat, s.heap.size ≤ q → A q) {r : Int32} {z' : St} (E : zEnd p l e rmX19_tick s m args below meth c cX19_tick D cy B ids A Q none z' .return_ True) {N : Nat}  (x0 : Nat) (hx0 : (19, x0) ∈ ids) {z : St} {H : Heap} {locs : List Loc} {ls : Array Slot} (hr : zRep D cy B ids A s.heap z H locs) (hl : lv_has ls 4 [(0, .ref (B 19 x0))]) (h : fX19_tick N x0 z = some (r, z')) : W p l e rmX19_tick s m args below meth c H locs 0 0 Q (F0 m 0 ls []) := by
  unfold fX19_tick at h
  refine lv_aload_n F.1 F.2.1 dX19_tick_0 rfl (lv_at hl 0 rfl) ?_
  refine lv_dup F.1 F.2.1 dX19_tick_1 rfl ?_
  refine gf19_143 F hx0 hr dX19_tick_2 ?_
  refine lv_iconst (v := (1 : Int32)) F.1 F.2.1 dX19_tick_5 (by decide) ?_
  refine lv_iadd F.1 F.2.1 dX19_tick_6 ?_
  refine pf19_143 F hx0 hr dX19_tick_7 ((zgI z 19 24 x0) + (1 : Int32)) (fun H locs z1 ez1 hr => ?_)
  replace h := zl_sub ez1 h
  clear ez1
  refine lv_aload_n F.1 F.2.1 dX19_tick_10 rfl (lv_at hl 0 rfl) ?_
  replace h := zc_some h
  obtain ⟨r2, z3, hc4, h⟩ := h
  refine zr_callv (zrun_V (As := []) (rest := []) zq_2583 zq_2585 zs_X19_arriveAll zq_2586 zq_4 hdX19_arriveAll (by decide) (T := TX19) (N := 32) rfl (okX19_arriveAll l D cy B ids hst N x0 hx0 hr.2.2 hc4) F hr hx0 hl.1 rfl (by decide) dX19_tick_11 rfl rfl hroX19_tick_X19_arriveAll ⟨Nat.zero_le _, Nat.zero_le _⟩) F hA hr (fun H locs hw5 hr => ?_)
  clear hc4
  refine lv_iconst (v := (0 : Int32)) F.1 F.2.1 dX19_tick_14 (by decide) ?_
  refine lv_istore_n (lv' := [(1, .int (0 : Int32)), (0, .ref (B 19 x0))]) F.1 F.2.1 dX19_tick_15 rfl hl (by decide) rfl (fun ls hl => ?_)
  exact lX19_tick_16 hst F hA E  _ x0 (0 : Int32) hx0 hr (lv_sub hl [1, 0] rfl) h
end SX19_tick
set_option maxRecDepth 100000 in
theorem okX19_tick (l : Launch) (D : va_G) (cy : Nat → ClassId) (B : Nat → Nat → Nat) (ids : List (Nat × Nat)) (hst : zSt B ids) (N : Nat) (x0 : Nat) (hx0 : (19, x0) ∈ ids) {z : St} {r : Int32} {z' : St} (hW : zWf ids z) (h : fX19_tick N x0 z = some (r, z')) : zM l yX19_tick (zws yX19_tick cX19_tick 4 none) rmX19_tick D cy B ids [.ref (B 19 x0)] none True z z' :=
  zM_of hst hW (by decide +kernel) (Nat.le_of_ble_eq_true rfl) (fun p e s m args below meth c A ls F hA hret hlocks hr hl => bX19_tick_0 hst F hA (zEnd_v F hret hlocks) x0 hx0 hr hl h)
abbrev rmX19_isBox : Room := { frames := 0, cells := 0, slots := 0, locals := 0 }
theorem hdX19_isBox : yX19_isBox.cls ≠ "java/lang/invoke/MethodHandle" ∧ yX19_isBox.cls ≠ "java/lang/invoke/VarHandle" ∧ (parseMethodDescriptor yX19_isBox.desc).map (fun d => d.parameters.length) = some 1 := by decide +kernel
section SX19_isBox
variable {p : Program} {l : Launch} {e : Env} {s : State} {m : MethodId} {args : Array Value} {below : List Frame} {meth : Method} {c : Code} {Q : State → Prop} {D : va_G} {cy : Nat → ClassId} {B : Nat → Nat → Nat} {ids : List (Nat × Nat)} {A : Nat → Prop}
def fX19_isBox (N : Nat)  (x0 : Nat) (x1 : Int32) (z : St) : Option (Int32 × St) := if x1 < 0 then (some ((0 : Int32), z)) else (if (zgI z 19 19 x0) ≤ x1 then (some ((0 : Int32), z)) else (some ((1 : Int32), z)))
set_option maxHeartbeats 4000000 in
set_option maxRecDepth 100000 in
theorem bX19_isBox_0 (hst : zSt B ids) (F : zFx p m c cX19_isBox 2 s args RX19 D cy B ids A) (hA : ∀ q : Nat, s.heap.size ≤ q → A q) {r : Int32} {z' : St} (E : zEnd p l e rmX19_isBox s m args below meth c cX19_isBox D cy B ids A Q (some (.int r)) z' .ireturn (r = 0 ∨ r = 1)) {N : Nat}  (x0 : Nat) (x1 : Int32) (hx0 : (19, x0) ∈ ids) {z : St} {H : Heap} {locs : List Loc} {ls : Array Slot} (hr : zRep D cy B ids A s.heap z H locs) (hl : lv_has ls 2 [(0, .ref (B 19 x0)), (1, .int x1)]) (h : fX19_isBox N x0 x1 z = some (r, z')) : W p l e rmX19_isBox s m args below meth c H locs 0 0 Q (F0 m 0 ls []) := by
  unfold fX19_isBox at h
  refine lv_iload_n F.1 F.2.1 dX19_isBox_0 rfl (lv_at hl 1 rfl) ?_
  refine lv_if_lt (tgt := 16) F.1 F.2.1 dX19_isBox_1 (by decide) (fun c1 => ?_) (fun c1 => ?_)
  · replace h := zi_t c1 h
    refine lv_iconst (v := (0 : Int32)) F.1 F.2.1 dX19_isBox_16 (by decide) ?_
    obtain ⟨rfl, rfl⟩ := zret h
    exact E _ _ _ _ dX19_isBox_17 (by decide) hr
  · replace h := zi_f c1 h
    refine lv_iload_n F.1 F.2.1 dX19_isBox_4 rfl (lv_at hl 1 rfl) ?_
    refine lv_aload_n F.1 F.2.1 dX19_isBox_5 rfl (lv_at hl 0 rfl) ?_
    refine gf19_831 F hx0 hr dX19_isBox_6 ?_
    refine lv_icmp_ge (tgt := 16) F.1 F.2.1 dX19_isBox_9 (by decide) (fun c2 => ?_) (fun c2 => ?_)
    · replace h := zi_t c2 h
      refine lv_iconst (v := (0 : Int32)) F.1 F.2.1 dX19_isBox_16 (by decide) ?_
      obtain ⟨rfl, rfl⟩ := zret h
      exact E _ _ _ _ dX19_isBox_17 (by decide) hr
    · replace h := zi_f c2 h
      refine lv_iconst (v := (1 : Int32)) F.1 F.2.1 dX19_isBox_12 (by decide) ?_
      refine lv_goto (tgt := 17) F.1 F.2.1 dX19_isBox_13 (by decide) ?_
      obtain ⟨rfl, rfl⟩ := zret h
      exact E _ _ _ _ dX19_isBox_17 (by decide) hr
end SX19_isBox
set_option maxRecDepth 100000 in
theorem okX19_isBox (l : Launch) (D : va_G) (cy : Nat → ClassId) (B : Nat → Nat → Nat) (ids : List (Nat × Nat)) (hst : zSt B ids) (N : Nat) (x0 : Nat) (hx0 : (19, x0) ∈ ids) (x1 : Int32) {z : St} {r : Int32} {z' : St} (hW : zWf ids z) (h : fX19_isBox N x0 x1 z = some (r, z')) : zM l yX19_isBox (zws yX19_isBox cX19_isBox 2 (some .boolean)) rmX19_isBox D cy B ids [.ref (B 19 x0), .int x1] (some (.int r)) (r = 0 ∨ r = 1) z z' :=
  zM_of hst hW (by decide +kernel) (Nat.le_of_ble_eq_true rfl) (fun p e s m args below meth c A ls F hA hret hlocks hr hl => bX19_isBox_0 hst F hA (zEnd_z F hret hlocks) x0 x1 hx0 hr hl h)
abbrev rmX19_isHost : Room := { frames := 1, cells := 0, slots := 0, locals := 21 }
theorem hdX19_isHost : yX19_isHost.cls ≠ "java/lang/invoke/MethodHandle" ∧ yX19_isHost.cls ≠ "java/lang/invoke/VarHandle" ∧ (parseMethodDescriptor yX19_isHost.desc).map (fun d => d.parameters.length) = some 1 := by decide +kernel
theorem hroX19_isHost_X19_isBox : rmX19_isBox.frames + 1 ≤ rmX19_isHost.frames ∧ 8 + (2 + 11) + rmX19_isBox.locals ≤ rmX19_isHost.locals := by decide
section SX19_isHost
variable {p : Program} {l : Launch} {e : Env} {s : State} {m : MethodId} {args : Array Value} {below : List Frame} {meth : Method} {c : Code} {Q : State → Prop} {D : va_G} {cy : Nat → ClassId} {B : Nat → Nat → Nat} {ids : List (Nat × Nat)} {A : Nat → Prop}
def fX19_isHost (N : Nat)  (x0 : Nat) (x1 : Int32) (z : St) : Option (Int32 × St) := zc (fX19_isBox N x0 x1 z) fun r1 z2 => if r1 = 0 then (some ((0 : Int32), z2)) else (zk x1 16 <| zl (zgQ z2 186 x0 (Int32.toNatClampNeg x1)) fun y7 => zd y7 fun a8 => if ¬ (zgI z2 12 1 a8) = 0 then (some ((0 : Int32), z2)) else (some ((1 : Int32), z2)))
set_option maxHeartbeats 4000000 in
set_option maxRecDepth 100000 in
theorem bX19_isHost_0 (hst : zSt B ids) (F : zFx p m c cX19_isHost 2 s args RX19 D cy B ids A) (hA : ∀ q : Nat, s.heap.size ≤ q → A q) {r : Int32} {z' : St} (E : zEnd p l e rmX19_isHost s m args below meth c cX19_isHost D cy B ids A Q (some (.int r)) z' .ireturn (r = 0 ∨ r = 1)) {N : Nat}  (x0 : Nat) (x1 : Int32) (hx0 : (19, x0) ∈ ids) {z : St} {H : Heap} {locs : List Loc} {ls : Array Slot} (hr : zRep D cy B ids A s.heap z H locs) (hl : lv_has ls 2 [(0, .ref (B 19 x0)), (1, .int x1)]) (h : fX19_isHost N x0 x1 z = some (r, z')) : W p l e rmX19_isHost s m args below meth c H locs 0 0 Q (F0 m 0 ls []) := by
  unfold fX19_isHost at h
  refine lv_aload_n F.1 F.2.1 dX19_isHost_0 rfl (lv_at hl 0 rfl) ?_
  refine lv_iload_n F.1 F.2.1 dX19_isHost_1 rfl (lv_at hl 1 rfl) ?_
  replace h := zc_some h
  obtain ⟨r1, z2, hc3, h⟩ := h
  refine zr_calli (zrun_V (As := [.int x1]) (rest := []) zq_2451 zq_2453 zs_X19_isBox zq_2454 zq_4 hdX19_isBox (by decide) (T := TX19) (N := 32) rfl (okX19_isBox l D cy B ids hst N x0 hx0 x1  hr.2.2 hc3) F hr hx0 hl.1 rfl (by decide) dX19_isHost_2 rfl rfl hroX19_isHost_X19_isBox ⟨Nat.zero_le _, Nat.zero_le _⟩) F hA hr (fun H locs hw4 hr => ?_)
  clear hc3
  refine lv_if_eq (tgt := 24) F.1 F.2.1 dX19_isHost_5 (by decide) (fun c5 => ?_) (fun c5 => ?_)
  · replace h := zi_t c5 h
    refine lv_iconst (v := (0 : Int32)) F.1 F.2.1 dX19_isHost_24 (by decide) ?_
    obtain ⟨rfl, rfl⟩ := zret h
    exact E _ _ _ _ dX19_isHost_25 (by decide) hr
  · replace h := zi_f c5 h
    refine lv_aload_n F.1 F.2.1 dX19_isHost_8 rfl (lv_at hl 0 rfl) ?_
    refine gf19_114 F hx0 hr dX19_isHost_9 ?_
    refine lv_iload_n F.1 F.2.1 dX19_isHost_12 rfl (lv_at hl 1 rfl) ?_
    replace h := zk_some h
    obtain ⟨c6, h⟩ := h
    refine zr_aaldv (k := 186) (by decide) rfl rfl (zlen_d (by decide)) F (zal_a F hx0 (j := 18) rfl) hr dX19_isHost_13 c6 (fun y7 ey7 => ?_)
    replace h := zl_sub ey7 h
    have hy7 := zal_q hr (zal_a F hx0 (j := 18) rfl) rfl ey7
    clear ey7
    replace h := zd_some h
    obtain ⟨a8, rfl, h⟩ := h
    refine gf19_298 F (hy7 _ rfl) hr dX19_isHost_14 ?_
    refine lv_if_ne (tgt := 24) F.1 F.2.1 dX19_isHost_17 (by decide) (fun c9 => ?_) (fun c9 => ?_)
    · replace h := zi_t c9 h
      refine lv_iconst (v := (0 : Int32)) F.1 F.2.1 dX19_isHost_24 (by decide) ?_
      obtain ⟨rfl, rfl⟩ := zret h
      exact E _ _ _ _ dX19_isHost_25 (by decide) hr
    · replace h := zi_f (fun q => q c9) h
      refine lv_iconst (v := (1 : Int32)) F.1 F.2.1 dX19_isHost_20 (by decide) ?_
      refine lv_goto (tgt := 25) F.1 F.2.1 dX19_isHost_21 (by decide) ?_
      obtain ⟨rfl, rfl⟩ := zret h
      exact E _ _ _ _ dX19_isHost_25 (by decide) hr
end SX19_isHost
set_option maxRecDepth 100000 in
theorem okX19_isHost (l : Launch) (D : va_G) (cy : Nat → ClassId) (B : Nat → Nat → Nat) (ids : List (Nat × Nat)) (hst : zSt B ids) (N : Nat) (x0 : Nat) (hx0 : (19, x0) ∈ ids) (x1 : Int32) {z : St} {r : Int32} {z' : St} (hW : zWf ids z) (h : fX19_isHost N x0 x1 z = some (r, z')) : zM l yX19_isHost (zws yX19_isHost cX19_isHost 2 (some .boolean)) rmX19_isHost D cy B ids [.ref (B 19 x0), .int x1] (some (.int r)) (r = 0 ∨ r = 1) z z' :=
  zM_of hst hW (by decide +kernel) (Nat.le_of_ble_eq_true rfl) (fun p e s m args below meth c A ls F hA hret hlocks hr hl => bX19_isHost_0 hst F hA (zEnd_z F hret hlocks) x0 x1 hx0 hr hl h)
abbrev rmX19_isRouter : Room := { frames := 1, cells := 0, slots := 0, locals := 21 }
theorem hdX19_isRouter : yX19_isRouter.cls ≠ "java/lang/invoke/MethodHandle" ∧ yX19_isRouter.cls ≠ "java/lang/invoke/VarHandle" ∧ (parseMethodDescriptor yX19_isRouter.desc).map (fun d => d.parameters.length) = some 1 := by decide +kernel
theorem hroX19_isRouter_X19_isBox : rmX19_isBox.frames + 1 ≤ rmX19_isRouter.frames ∧ 8 + (2 + 11) + rmX19_isBox.locals ≤ rmX19_isRouter.locals := by decide
section SX19_isRouter
variable {p : Program} {l : Launch} {e : Env} {s : State} {m : MethodId} {args : Array Value} {below : List Frame} {meth : Method} {c : Code} {Q : State → Prop} {D : va_G} {cy : Nat → ClassId} {B : Nat → Nat → Nat} {ids : List (Nat × Nat)} {A : Nat → Prop}
def fX19_isRouter (N : Nat)  (x0 : Nat) (x1 : Int32) (z : St) : Option (Int32 × St) := zc (fX19_isBox N x0 x1 z) fun r1 z2 => if r1 = 0 then (some ((0 : Int32), z2)) else (zk x1 16 <| zl (zgQ z2 186 x0 (Int32.toNatClampNeg x1)) fun y7 => zd y7 fun a8 => if (zgI z2 12 1 a8) = 0 then (some ((0 : Int32), z2)) else (some ((1 : Int32), z2)))
set_option maxHeartbeats 4000000 in
set_option maxRecDepth 100000 in
theorem bX19_isRouter_0 (hst : zSt B ids) (F : zFx p m c cX19_isRouter 2 s args RX19 D cy B ids A) (hA : ∀ q : Nat, s.heap.size ≤ q → A q) {r : Int32} {z' : St} (E : zEnd p l e rmX19_isRouter s m args below meth c cX19_isRouter D cy B ids A Q (some (.int r)) z' .ireturn (r = 0 ∨ r = 1)) {N : Nat}  (x0 : Nat) (x1 : Int32) (hx0 : (19, x0) ∈ ids) {z : St} {H : Heap} {locs : List Loc} {ls : Array Slot} (hr : zRep D cy B ids A s.heap z H locs) (hl : lv_has ls 2 [(0, .ref (B 19 x0)), (1, .int x1)]) (h : fX19_isRouter N x0 x1 z = some (r, z')) : W p l e rmX19_isRouter s m args below meth c H locs 0 0 Q (F0 m 0 ls []) := by
  unfold fX19_isRouter at h
  refine lv_aload_n F.1 F.2.1 dX19_isRouter_0 rfl (lv_at hl 0 rfl) ?_
  refine lv_iload_n F.1 F.2.1 dX19_isRouter_1 rfl (lv_at hl 1 rfl) ?_
  replace h := zc_some h
  obtain ⟨r1, z2, hc3, h⟩ := h
  refine zr_calli (zrun_V (As := [.int x1]) (rest := []) zq_2451 zq_2453 zs_X19_isBox zq_2454 zq_4 hdX19_isBox (by decide) (T := TX19) (N := 32) rfl (okX19_isBox l D cy B ids hst N x0 hx0 x1  hr.2.2 hc3) F hr hx0 hl.1 rfl (by decide) dX19_isRouter_2 rfl rfl hroX19_isRouter_X19_isBox ⟨Nat.zero_le _, Nat.zero_le _⟩) F hA hr (fun H locs hw4 hr => ?_)
  clear hc3
  refine lv_if_eq (tgt := 24) F.1 F.2.1 dX19_isRouter_5 (by decide) (fun c5 => ?_) (fun c5 => ?_)
  · replace h := zi_t c5 h
    refine lv_iconst (v := (0 : Int32)) F.1 F.2.1 dX19_isRouter_24 (by decide) ?_
    obtain ⟨rfl, rfl⟩ := zret h
    exact E _ _ _ _ dX19_isRouter_25 (by decide) hr
  · replace h := zi_f c5 h
    refine lv_aload_n F.1 F.2.1 dX19_isRouter_8 rfl (lv_at hl 0 rfl) ?_
    refine gf19_114 F hx0 hr dX19_isRouter_9 ?_
    refine lv_iload_n F.1 F.2.1 dX19_isRouter_12 rfl (lv_at hl 1 rfl) ?_
    replace h := zk_some h
    obtain ⟨c6, h⟩ := h
    refine zr_aaldv (k := 186) (by decide) rfl rfl (zlen_d (by decide)) F (zal_a F hx0 (j := 18) rfl) hr dX19_isRouter_13 c6 (fun y7 ey7 => ?_)
    replace h := zl_sub ey7 h
    have hy7 := zal_q hr (zal_a F hx0 (j := 18) rfl) rfl ey7
    clear ey7
    replace h := zd_some h
    obtain ⟨a8, rfl, h⟩ := h
    refine gf19_298 F (hy7 _ rfl) hr dX19_isRouter_14 ?_
    refine lv_if_eq (tgt := 24) F.1 F.2.1 dX19_isRouter_17 (by decide) (fun c9 => ?_) (fun c9 => ?_)
    · replace h := zi_t c9 h
      refine lv_iconst (v := (0 : Int32)) F.1 F.2.1 dX19_isRouter_24 (by decide) ?_
      obtain ⟨rfl, rfl⟩ := zret h
      exact E _ _ _ _ dX19_isRouter_25 (by decide) hr
    · replace h := zi_f c9 h
      refine lv_iconst (v := (1 : Int32)) F.1 F.2.1 dX19_isRouter_20 (by decide) ?_
      refine lv_goto (tgt := 25) F.1 F.2.1 dX19_isRouter_21 (by decide) ?_
      obtain ⟨rfl, rfl⟩ := zret h
      exact E _ _ _ _ dX19_isRouter_25 (by decide) hr
end SX19_isRouter
set_option maxRecDepth 100000 in
theorem okX19_isRouter (l : Launch) (D : va_G) (cy : Nat → ClassId) (B : Nat → Nat → Nat) (ids : List (Nat × Nat)) (hst : zSt B ids) (N : Nat) (x0 : Nat) (hx0 : (19, x0) ∈ ids) (x1 : Int32) {z : St} {r : Int32} {z' : St} (hW : zWf ids z) (h : fX19_isRouter N x0 x1 z = some (r, z')) : zM l yX19_isRouter (zws yX19_isRouter cX19_isRouter 2 (some .boolean)) rmX19_isRouter D cy B ids [.ref (B 19 x0), .int x1] (some (.int r)) (r = 0 ∨ r = 1) z z' :=
  zM_of hst hW (by decide +kernel) (Nat.le_of_ble_eq_true rfl) (fun p e s m args below meth c A ls F hA hret hlocks hr hl => bX19_isRouter_0 hst F hA (zEnd_z F hret hlocks) x0 x1 hx0 hr hl h)
