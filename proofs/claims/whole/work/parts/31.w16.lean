abbrev rmX11_addressSegment : Room := { frames := 1, cells := 0, slots := 0, locals := 22 }
theorem hdX11_addressSegment : yX11_addressSegment.cls ≠ "java/lang/invoke/MethodHandle" ∧ yX11_addressSegment.cls ≠ "java/lang/invoke/VarHandle" ∧ (parseMethodDescriptor yX11_addressSegment.desc).map (fun d => d.parameters.length) = some 2 := by decide +kernel
theorem hroX11_addressSegment_X1_nextNumber : rmX1_nextNumber.frames + 1 ≤ rmX11_addressSegment.frames ∧ 8 + (1 + 11) + rmX1_nextNumber.locals ≤ rmX11_addressSegment.locals := by decide
theorem hroX11_addressSegment_X7_put2 : rmX7_put2.frames + 1 ≤ rmX11_addressSegment.frames ∧ 8 + (3 + 11) + rmX7_put2.locals ≤ rmX11_addressSegment.locals := by decide
section SX11_addressSegment
variable {p : Program} {l : Launch} {e : Env} {s : State} {m : MethodId} {args : Array Value} {below : List Frame} {meth : Method} {c : Code} {Q : State → Prop} {D : va_G} {cy : Nat → ClassId} {B : Nat → Nat → Nat} {ids : List (Nat × Nat)} {A : Nat → Prop}
def fX11_addressSegment_23 (N : Nat)  (x0 : Nat) (x1 : Nat) (x2 : Nat) (s0 : Option Nat) (s1 : Int32) (z : St) : Option (Int32 × St) := zd s0 fun a1 => zl (zsI z 7 0 a1 s1) fun z2 => zl (zgR z2 11 13 x0) fun y3 => zd y3 fun a4 => zl (zsI z2 7 1 a4 (zgI z2 2 2 x2)) fun z5 => zl (zgR z5 11 13 x0) fun y6 => zd y6 fun a7 => zc (fX7_put2 N a7 (0) (zgI z5 2 1 x2) z5) fun _ z9 => zl (zgR z9 11 13 x0) fun y12 => zd y12 fun a13 => zc (fX7_put2 N a13 (2) (zgI z9 2 3 x2) z9) fun _ z15 => zl (zgR z15 11 13 x0) fun y18 => zc (fX1_nextNumber N x1 z15) fun r19 z20 => zd y18 fun a23 => zl (zsI z20 7 3 a23 r19) fun z24 => zl (zgR z24 11 13 x0) fun y25 => zl (zgR z24 2 12 x2) fun y26 => zd y26 fun a27 => zd y25 fun a28 => zl (zsI z24 7 9 a28 (zgI z24 3 14 a27)) fun z29 => some (0, z29)
set_option maxHeartbeats 4000000 in
set_option maxRecDepth 100000 in
theorem bX11_addressSegment_23 (hst : zSt B ids) (F : zFx p m c cX11_addressSegment 4 s args RX11 D cy B ids A) (hA : ∀ q : Nat, s.heap.size ≤ q → A q) {r : Int32} {z' : St} (E : zEnd p l e rmX11_addressSegment s m args below meth c cX11_addressSegment D cy B ids A Q none z' .return_ True) {N : Nat}  (x0 : Nat) (x1 : Nat) (x2 : Nat) (s0 : Option Nat) (s1 : Int32) (hx0 : (11, x0) ∈ ids) (hx1 : (1, x1) ∈ ids) (hx2 : (2, x2) ∈ ids) (hs0 : ∀ t, s0 = some t → (7, t) ∈ ids) {z : St} {H : Heap} {locs : List Loc} {ls : Array Slot} (hr : zRep D cy B ids A s.heap z H locs) (hl : lv_has ls 4 [(0, .ref (B 11 x0)), (1, .ref (B 1 x1)), (2, .ref (B 2 x2))]) (h : fX11_addressSegment_23 N x0 x1 x2 s0 s1 z = some (r, z')) : W p l e rmX11_addressSegment s m args below meth c H locs 0 0 Q (F0 m 23 ls [.int s1, va_rf (Option.map (B 7) s0)]) := by
  unfold fX11_addressSegment_23 at h
  obtain ⟨a1, rfl, h⟩ := zd_some h
  refine pf11_535 F (hs0 _ rfl) hr dX11_addressSegment_23 s1 (fun H locs z2 ez2 hr => ?_)
  replace h := zl_sub ez2 h
  clear ez2
  refine lv_aload_n F.1 F.2.1 dX11_addressSegment_26 rfl (lv_at hl 0 rfl) ?_
  refine gf11_31 F hx0 hr dX11_addressSegment_27 (fun y3 ey3 => ?_)
  replace h := zl_sub ey3 h
  have hy3 := zal_g hr hx0 (j := 13) rfl ey3
  clear ey3
  refine lv_aload_n F.1 F.2.1 dX11_addressSegment_30 rfl (lv_at hl 2 rfl) ?_
  refine gf11_384 F hx2 hr dX11_addressSegment_31 ?_
  obtain ⟨a4, rfl, h⟩ := zd_some h
  refine pf11_538 F (hy3 _ rfl) hr dX11_addressSegment_34 (zgI z2 2 2 x2) (fun H locs z5 ez5 hr => ?_)
  replace h := zl_sub ez5 h
  clear ez5
  refine lv_aload_n F.1 F.2.1 dX11_addressSegment_37 rfl (lv_at hl 0 rfl) ?_
  refine gf11_31 F hx0 hr dX11_addressSegment_38 (fun y6 ey6 => ?_)
  replace h := zl_sub ey6 h
  have hy6 := zal_g hr hx0 (j := 13) rfl ey6
  clear ey6
  refine lv_iconst (v := (0)) F.1 F.2.1 dX11_addressSegment_41 (by decide) ?_
  refine lv_aload_n F.1 F.2.1 dX11_addressSegment_42 rfl (lv_at hl 2 rfl) ?_
  refine gf11_378 F hx2 hr dX11_addressSegment_43 ?_
  obtain ⟨a7, rfl, h⟩ := zd_some h
  obtain ⟨r8, z9, hc10, h⟩ := zc_some h
  refine zr_callv (zrun_VN (As := [.int (0), .int (zgI z5 2 1 x2)]) (rest := []) zn_1308 zq_1306 zs_X7_put2 zq_1307 zq_2 hdX7_put2 (by decide) (T := TX7) (N := 20) rfl (okX7_put2 l D cy B ids hst N a7 (hy6 _ rfl) (0)  (zgI z5 2 1 x2)  hr.2.2 hc10) F hr (hy6 _ rfl) hl.1 rfl (by decide) dX11_addressSegment_46 rfl rfl hroX11_addressSegment_X7_put2 ⟨Nat.zero_le _, Nat.zero_le _⟩) F hA hr (fun H locs hx11 hr => ?_)
  clear hc10
  refine lv_aload_n F.1 F.2.1 dX11_addressSegment_49 rfl (lv_at hl 0 rfl) ?_
  refine gf11_31 F hx0 hr dX11_addressSegment_50 (fun y12 ey12 => ?_)
  replace h := zl_sub ey12 h
  have hy12 := zal_g hr hx0 (j := 13) rfl ey12
  clear ey12
  refine lv_iconst (v := (2)) F.1 F.2.1 dX11_addressSegment_53 (by decide) ?_
  refine lv_aload_n F.1 F.2.1 dX11_addressSegment_54 rfl (lv_at hl 2 rfl) ?_
  refine gf11_381 F hx2 hr dX11_addressSegment_55 ?_
  obtain ⟨a13, rfl, h⟩ := zd_some h
  obtain ⟨r14, z15, hc16, h⟩ := zc_some h
  refine zr_callv (zrun_VN (As := [.int (2), .int (zgI z9 2 3 x2)]) (rest := []) zn_1308 zq_1306 zs_X7_put2 zq_1307 zq_2 hdX7_put2 (by decide) (T := TX7) (N := 20) rfl (okX7_put2 l D cy B ids hst N a13 (hy12 _ rfl) (2)  (zgI z9 2 3 x2)  hr.2.2 hc16) F hr (hy12 _ rfl) hl.1 rfl (by decide) dX11_addressSegment_58 rfl rfl hroX11_addressSegment_X7_put2 ⟨Nat.zero_le _, Nat.zero_le _⟩) F hA hr (fun H locs hx17 hr => ?_)
  clear hc16
  refine lv_aload_n F.1 F.2.1 dX11_addressSegment_61 rfl (lv_at hl 0 rfl) ?_
  refine gf11_31 F hx0 hr dX11_addressSegment_62 (fun y18 ey18 => ?_)
  replace h := zl_sub ey18 h
  have hy18 := zal_g hr hx0 (j := 13) rfl ey18
  clear ey18
  refine lv_aload_n F.1 F.2.1 dX11_addressSegment_65 rfl (lv_at hl 1 rfl) ?_
  obtain ⟨r19, z20, hc21, h⟩ := zc_some h
  refine zr_calli (zrun_VN (As := []) (rest := [va_rf (Option.map (B 7) y18)]) zn_1309 zq_1311 zs_X1_nextNumber zq_1312 zq_9 hdX1_nextNumber (by decide) (T := TX1) (N := 13) rfl (okX1_nextNumber l D cy B ids hst N x1 hx1 hr.2.2 hc21) F hr hx1 hl.1 rfl (by simp only [List.map, zrf_cat]; decide) dX11_addressSegment_66 rfl rfl hroX11_addressSegment_X1_nextNumber ⟨Nat.zero_le _, Nat.zero_le _⟩) F hA hr (fun H locs hx22 hr => ?_)
  clear hc21
  obtain ⟨a23, rfl, h⟩ := zd_some h
  refine pf11_691 F (hy18 _ rfl) hr dX11_addressSegment_69 r19 (fun H locs z24 ez24 hr => ?_)
  replace h := zl_sub ez24 h
  clear ez24
  refine lv_aload_n F.1 F.2.1 dX11_addressSegment_72 rfl (lv_at hl 0 rfl) ?_
  refine gf11_31 F hx0 hr dX11_addressSegment_73 (fun y25 ey25 => ?_)
  replace h := zl_sub ey25 h
  have hy25 := zal_g hr hx0 (j := 13) rfl ey25
  clear ey25
  refine lv_aload_n F.1 F.2.1 dX11_addressSegment_76 rfl (lv_at hl 2 rfl) ?_
  refine gf11_253 F hx2 hr dX11_addressSegment_77 (fun y26 ey26 => ?_)
  replace h := zl_sub ey26 h
  have hy26 := zal_g hr hx2 (j := 12) rfl ey26
  clear ey26
  obtain ⟨a27, rfl, h⟩ := zd_some h
  refine gf11_847 F (hy26 _ rfl) hr dX11_addressSegment_80 ?_
  obtain ⟨a28, rfl, h⟩ := zd_some h
  refine pf11_850 F (hy25 _ rfl) hr dX11_addressSegment_83 (zgI z24 3 14 a27) (fun H locs z29 ez29 hr => ?_)
  replace h := zl_sub ez29 h
  clear ez29
  obtain ⟨rfl, rfl⟩ := zret h
  exact E _ _ _ _ dX11_addressSegment_86 trivial hr
def fX11_addressSegment (N : Nat)  (x0 : Nat) (x1 : Nat) (x2 : Nat) (z : St) : Option (Int32 × St) := zk (0) 6 <| zl (zgQ z 112 x1 (0).toNatClampNeg) fun y2 => zl (zgR z 11 13 x0) fun y3 => zo y2 (fX11_addressSegment_23 N x0 x1 x2 y3 (0) z) fun a5 => fX11_addressSegment_23 N x0 x1 x2 y3 (zgI z 8 4 a5) z
set_option maxHeartbeats 4000000 in
set_option maxRecDepth 100000 in
theorem bX11_addressSegment_0 (hst : zSt B ids) (F : zFx p m c cX11_addressSegment 4 s args RX11 D cy B ids A) (hA : ∀ q : Nat, s.heap.size ≤ q → A q) {r : Int32} {z' : St} (E : zEnd p l e rmX11_addressSegment s m args below meth c cX11_addressSegment D cy B ids A Q none z' .return_ True) {N : Nat}  (x0 : Nat) (x1 : Nat) (x2 : Nat) (hx0 : (11, x0) ∈ ids) (hx1 : (1, x1) ∈ ids) (hx2 : (2, x2) ∈ ids) {z : St} {H : Heap} {locs : List Loc} {ls : Array Slot} (hr : zRep D cy B ids A s.heap z H locs) (hl : lv_has ls 4 [(0, .ref (B 11 x0)), (1, .ref (B 1 x1)), (2, .ref (B 2 x2))]) (h : fX11_addressSegment N x0 x1 x2 z = some (r, z')) : W p l e rmX11_addressSegment s m args below meth c H locs 0 0 Q (F0 m 0 ls []) := by
  unfold fX11_addressSegment at h
  refine lv_aload_n F.1 F.2.1 dX11_addressSegment_0 rfl (lv_at hl 1 rfl) ?_
  refine gf11_134 F hx1 hr dX11_addressSegment_1 ?_
  refine lv_iconst (v := (0)) F.1 F.2.1 dX11_addressSegment_4 (by decide) ?_
  obtain ⟨c1, h⟩ := zk_some h
  refine zr_aaldv (k := 112) (by decide) rfl rfl (zlen_d (by decide)) F (zal_a F hx1 (j := 2) rfl) hr dX11_addressSegment_5 c1 (fun y2 ey2 => ?_)
  replace h := zl_sub ey2 h
  have hy2 := zal_q hr (zal_a F hx1 (j := 2) rfl) rfl ey2
  clear ey2
  refine zr_astore_n (lv' := [(3, va_rf (Option.map (B 8) y2)), (0, .ref (B 11 x0)), (1, .ref (B 1 x1)), (2, .ref (B 2 x2))]) F.1 F.2.1 dX11_addressSegment_6 rfl hl (by decide) rfl (fun ls hl => ?_)
  refine lv_aload_n F.1 F.2.1 dX11_addressSegment_7 rfl (lv_at hl 1 rfl) ?_
  refine gf11_31 F hx0 hr dX11_addressSegment_8 (fun y3 ey3 => ?_)
  replace h := zl_sub ey3 h
  have hy3 := zal_g hr hx0 (j := 13) rfl ey3
  clear ey3
  refine zr_aload_n F.1 F.2.1 dX11_addressSegment_11 rfl (lv_at hl 0 rfl) ?_
  refine zr_ifnonnull (tgt := 19) F.1 F.2.1 dX11_addressSegment_12 (by decide) (fun e4 => ?_) (fun a5 e4 => ?_)
  · replace h := zo_n e4 h
    subst e4
    refine lv_iconst (v := (0)) F.1 F.2.1 dX11_addressSegment_15 (by decide) ?_
    refine lv_goto (tgt := 23) F.1 F.2.1 dX11_addressSegment_16 (by decide) ?_
    exact bX11_addressSegment_23 hst F hA E  x0 x1 x2 y3 (0) hx0 hx1 hx2 hy3 hr (lv_sub hl [1, 2, 3] rfl) h
  · replace h := zo_s e4 h
    subst e4
    refine lv_aload_n F.1 F.2.1 dX11_addressSegment_19 rfl (lv_at hl 0 rfl) ?_
    refine gf11_141 F (hy2 _ rfl) hr dX11_addressSegment_20 ?_
    exact bX11_addressSegment_23 hst F hA E  x0 x1 x2 y3 (zgI z 8 4 a5) hx0 hx1 hx2 hy3 hr (lv_sub hl [1, 2, 3] rfl) h
end SX11_addressSegment
set_option maxRecDepth 100000 in
theorem okX11_addressSegment (l : Launch) (D : va_G) (cy : Nat → ClassId) (B : Nat → Nat → Nat) (ids : List (Nat × Nat)) (hst : zSt B ids) (N : Nat) (x0 : Nat) (hx0 : (11, x0) ∈ ids) (x1 : Nat) (hx1 : (1, x1) ∈ ids) (x2 : Nat) (hx2 : (2, x2) ∈ ids) {z : St} {r : Int32} {z' : St} (hW : zWf ids z) (h : fX11_addressSegment N x0 x1 x2 z = some (r, z')) : zM l yX11_addressSegment (zws yX11_addressSegment cX11_addressSegment 4 none) rmX11_addressSegment D cy B ids [.ref (B 11 x0), .ref (B 1 x1), .ref (B 2 x2)] none True z z' :=
  zM_of hst hW (by decide +kernel) (Nat.le_of_ble_eq_true rfl) (fun p e s m args below meth c A ls F hA hret hlocks hr hl => bX11_addressSegment_0 hst F hA (zEnd_v F hret hlocks) x0 x1 x2 hx0 hx1 hx2 hr hl h)
abbrev rmX11_nextWritten : Room := { frames := 0, cells := 0, slots := 0, locals := 0 }
theorem hdX11_nextWritten : yX11_nextWritten.cls ≠ "java/lang/invoke/MethodHandle" ∧ yX11_nextWritten.cls ≠ "java/lang/invoke/VarHandle" ∧ (parseMethodDescriptor yX11_nextWritten.desc).map (fun d => d.parameters.length) = some 1 := by decide +kernel
section SX11_nextWritten
variable {p : Program} {l : Launch} {e : Env} {s : State} {m : MethodId} {args : Array Value} {below : List Frame} {meth : Method} {c : Code} {Q : State → Prop} {D : va_G} {cy : Nat → ClassId} {B : Nat → Nat → Nat} {ids : List (Nat × Nat)} {A : Nat → Prop}
def fX11_nextWritten_153 (N : Nat) (K5 : Nat → Nat → Int32 → St → Option (Int32 × St)) (x0 : Nat) (x1 : Nat) (x2 : Int32) (z : St) : Option (Int32 × St) := zl (x2 + 1) fun v1 => K5 x0 x1 v1 z
set_option maxHeartbeats 4000000 in
set_option maxRecDepth 100000 in
theorem bX11_nextWritten_153 (hst : zSt B ids) (F : zFx p m c cX11_nextWritten 6 s args RX11 D cy B ids A) (hA : ∀ q : Nat, s.heap.size ≤ q → A q) {r : Int32} {z' : St} (E : zEnd p l e rmX11_nextWritten s m args below meth c cX11_nextWritten D cy B ids A Q (some (.int r)) z' .ireturn True) {N : Nat} {K5 : Nat → Nat → Int32 → St → Option (Int32 × St)} (hK5 : ∀ (x0 : Nat) (x1 : Nat) (x2 : Int32) (hx0 : (11, x0) ∈ ids) (hx1 : (2, x1) ∈ ids) {z : St} {H : Heap} {locs : List Loc} {ls : Array Slot} (hr : zRep D cy B ids A s.heap z H locs) (hl : lv_has ls 6 [(0, .ref (B 11 x0)), (1, .ref (B 2 x1)), (2, .int x2)]), K5 x0 x1 x2 z = some (r, z') → W p l e rmX11_nextWritten s m args below meth c H locs 0 0 Q (F0 m 5 ls [])) (x0 : Nat) (x1 : Nat) (x2 : Int32) (hx0 : (11, x0) ∈ ids) (hx1 : (2, x1) ∈ ids) {z : St} {H : Heap} {locs : List Loc} {ls : Array Slot} (hr : zRep D cy B ids A s.heap z H locs) (hl : lv_has ls 6 [(0, .ref (B 11 x0)), (1, .ref (B 2 x1)), (2, .int x2)]) (h : fX11_nextWritten_153 N K5 x0 x1 x2 z = some (r, z')) : W p l e rmX11_nextWritten s m args below meth c H locs 0 0 Q (F0 m 153 ls []) := by
  unfold fX11_nextWritten_153 at h
  obtain ⟨v1, ev1⟩ : ∃ y : Int32, y = (x2 + 1) := ⟨_, rfl⟩
  replace h := zl_sub ev1 h
  refine lv_iinc (v := v1) (lv' := [(2, .int v1), (0, .ref (B 11 x0)), (1, .ref (B 2 x1))]) F.1 F.2.1 dX11_nextWritten_153 hl (k := 2) rfl (by rw [ev1]; rfl) (by decide) rfl (fun ls hl => ?_)
  refine lv_goto (tgt := 5) F.1 F.2.1 dX11_nextWritten_156 (by decide) ?_
  exact hK5 x0 x1 v1 hx0 hx1 hr (lv_sub hl [1, 2, 0] rfl) h
def fX11_nextWritten_31 (N : Nat) (K5 : Nat → Nat → Int32 → St → Option (Int32 × St)) (x0 : Nat) (x1 : Nat) (x2 : Int32) (z : St) : Option (Int32 × St) := zk x2 512 <| zl ((zgA z 144 x0 x2.toNatClampNeg) &&& (4095)) fun v2 => zk x2 512 <| zl (zgR z 2 12 x1) fun y4 => zd y4 fun a5 => if ¬ (zgA z 143 x0 x2.toNatClampNeg) = (zgI z 3 15 a5) then (fX11_nextWritten_153 N K5 x0 x1 x2 z) else (if (zgI z 2 11 x1) < v2 then (zl (zgI z 2 11 x1) fun v8 => zl (zsI z 2 11 x1 ((zgI z 2 11 x1) + (1))) fun z9 => zk x2 512 <| if (4096) ≤ (zgA z9 144 x0 x2.toNatClampNeg) then (zk x2 512 <| zl ((Int64.toInt32 ((((zgL z9 145 x0 x2.toNatClampNeg)).toUInt64 >>> (((8)).toInt64.toUInt64 &&& Int64.toUInt64 63)).toInt64)) &&& (255)) fun v13 => zk x2 512 <| some ((((Int64.toInt32 (zgL z9 145 x0 x2.toNatClampNeg)) + (v8 * v13)) &&& (255)), z9)) else (zk x2 512 <| some (((Int64.toInt32 ((((zgL z9 145 x0 x2.toNatClampNeg)).toUInt64 >>> ((((8) * ((v2 - (1)) - v8))).toInt64.toUInt64 &&& Int64.toUInt64 63)).toInt64)) &&& (255)), z9))) else (fX11_nextWritten_153 N K5 x0 x1 x2 z))
set_option maxHeartbeats 4000000 in
set_option maxRecDepth 100000 in
theorem bX11_nextWritten_31 (hst : zSt B ids) (F : zFx p m c cX11_nextWritten 6 s args RX11 D cy B ids A) (hA : ∀ q : Nat, s.heap.size ≤ q → A q) {r : Int32} {z' : St} (E : zEnd p l e rmX11_nextWritten s m args below meth c cX11_nextWritten D cy B ids A Q (some (.int r)) z' .ireturn True) {N : Nat} {K5 : Nat → Nat → Int32 → St → Option (Int32 × St)} (hK5 : ∀ (x0 : Nat) (x1 : Nat) (x2 : Int32) (hx0 : (11, x0) ∈ ids) (hx1 : (2, x1) ∈ ids) {z : St} {H : Heap} {locs : List Loc} {ls : Array Slot} (hr : zRep D cy B ids A s.heap z H locs) (hl : lv_has ls 6 [(0, .ref (B 11 x0)), (1, .ref (B 2 x1)), (2, .int x2)]), K5 x0 x1 x2 z = some (r, z') → W p l e rmX11_nextWritten s m args below meth c H locs 0 0 Q (F0 m 5 ls [])) (x0 : Nat) (x1 : Nat) (x2 : Int32) (hx0 : (11, x0) ∈ ids) (hx1 : (2, x1) ∈ ids) {z : St} {H : Heap} {locs : List Loc} {ls : Array Slot} (hr : zRep D cy B ids A s.heap z H locs) (hl : lv_has ls 6 [(0, .ref (B 11 x0)), (1, .ref (B 2 x1)), (2, .int x2)]) (h : fX11_nextWritten_31 N K5 x0 x1 x2 z = some (r, z')) : W p l e rmX11_nextWritten s m args below meth c H locs 0 0 Q (F0 m 31 ls []) := by
  unfold fX11_nextWritten_31 at h
  refine lv_aload_n F.1 F.2.1 dX11_nextWritten_31 rfl (lv_at hl 0 rfl) ?_
  refine gf11_42 F hx0 hr dX11_nextWritten_32 ?_
  refine lv_iload_n F.1 F.2.1 dX11_nextWritten_35 rfl (lv_at hl 2 rfl) ?_
  obtain ⟨c1, h⟩ := zk_some h
  refine zr_iald (k := 144) (by decide) rfl (by decide) F (zal_a F hx0 (j := 17) rfl) hr dX11_nextWritten_36 c1 ?_
  refine lv_sipush (v := (4095)) F.1 F.2.1 dX11_nextWritten_37 (by decide) ?_
  refine lv_iand F.1 F.2.1 dX11_nextWritten_40 ?_
  refine lv_topi (fun v2 ev2 => ?_)
  replace h := zl_sub ev2 h
  refine lv_istore_n (lv' := [(3, .int v2), (0, .ref (B 11 x0)), (1, .ref (B 2 x1)), (2, .int x2)]) F.1 F.2.1 dX11_nextWritten_41 rfl hl (by decide) rfl (fun ls hl => ?_)
  refine lv_aload_n F.1 F.2.1 dX11_nextWritten_42 rfl (lv_at hl 1 rfl) ?_
  refine gf11_38 F hx0 hr dX11_nextWritten_43 ?_
  refine lv_iload_n F.1 F.2.1 dX11_nextWritten_46 rfl (lv_at hl 3 rfl) ?_
  obtain ⟨c3, h⟩ := zk_some h
  refine zr_iald (k := 143) (by decide) rfl (by decide) F (zal_a F hx0 (j := 16) rfl) hr dX11_nextWritten_47 c3 ?_
  refine lv_aload_n F.1 F.2.1 dX11_nextWritten_48 rfl (lv_at hl 2 rfl) ?_
  refine gf11_253 F hx1 hr dX11_nextWritten_49 (fun y4 ey4 => ?_)
  replace h := zl_sub ey4 h
  have hy4 := zal_g hr hx1 (j := 12) rfl ey4
  clear ey4
  obtain ⟨a5, rfl, h⟩ := zd_some h
  refine gf11_913 F (hy4 _ rfl) hr dX11_nextWritten_52 ?_
  refine lv_icmp_ne (tgt := 153) F.1 F.2.1 dX11_nextWritten_55 (by decide) (fun c6 => ?_) (fun c6 => ?_)
  · replace h := zi_t c6 h
    exact bX11_nextWritten_153 hst F hA E hK5 x0 x1 x2 hx0 hx1 hr (lv_sub hl [1, 2, 3] rfl) h
  · replace h := zi_f (fun q => q c6) h
    refine lv_aload_n F.1 F.2.1 dX11_nextWritten_58 rfl (lv_at hl 2 rfl) ?_
    refine gf11_910 F hx1 hr dX11_nextWritten_59 ?_
    refine lv_iload_n F.1 F.2.1 dX11_nextWritten_62 rfl (lv_at hl 0 rfl) ?_
    refine lv_icmp_lt (tgt := 69) F.1 F.2.1 dX11_nextWritten_63 (by decide) (fun c7 => ?_) (fun c7 => ?_)
    · replace h := zi_t c7 h
      refine lv_aload_n F.1 F.2.1 dX11_nextWritten_69 rfl (lv_at hl 2 rfl) ?_
      refine gf11_910 F hx1 hr dX11_nextWritten_70 ?_
      refine lv_topi (fun v8 ev8 => ?_)
      replace h := zl_sub ev8 h
      refine lv_istore (lv' := [(4, .int v8), (3, .int v2), (0, .ref (B 11 x0)), (1, .ref (B 2 x1)), (2, .int x2)]) F.1 F.2.1 dX11_nextWritten_73 hl (by decide) rfl (fun ls hl => ?_)
      refine lv_aload_n F.1 F.2.1 dX11_nextWritten_75 rfl (lv_at hl 3 rfl) ?_
      refine lv_dup F.1 F.2.1 dX11_nextWritten_76 rfl ?_
      refine gf11_910 F hx1 hr dX11_nextWritten_77 ?_
      refine lv_iconst (v := (1)) F.1 F.2.1 dX11_nextWritten_80 (by decide) ?_
      refine lv_iadd F.1 F.2.1 dX11_nextWritten_81 ?_
      refine pf11_910 F hx1 hr dX11_nextWritten_82 ((zgI z 2 11 x1) + (1)) (fun H locs z9 ez9 hr => ?_)
      replace h := zl_sub ez9 h
      clear ez9
      refine lv_aload_n F.1 F.2.1 dX11_nextWritten_85 rfl (lv_at hl 2 rfl) ?_
      refine gf11_42 F hx0 hr dX11_nextWritten_86 ?_
      refine lv_iload_n F.1 F.2.1 dX11_nextWritten_89 rfl (lv_at hl 4 rfl) ?_
      obtain ⟨c10, h⟩ := zk_some h
      refine zr_iald (k := 144) (by decide) rfl (by decide) F (zal_a F hx0 (j := 17) rfl) hr dX11_nextWritten_90 c10 ?_
      refine lv_sipush (v := (4096)) F.1 F.2.1 dX11_nextWritten_91 (by decide) ?_
      refine lv_icmp_ge (tgt := 119) F.1 F.2.1 dX11_nextWritten_94 (by decide) (fun c11 => ?_) (fun c11 => ?_)
      · replace h := zi_t c11 h
        refine lv_aload_n F.1 F.2.1 dX11_nextWritten_119 rfl (lv_at hl 2 rfl) ?_
        refine gf11_45 F hx0 hr dX11_nextWritten_120 ?_
        refine lv_iload_n F.1 F.2.1 dX11_nextWritten_123 rfl (lv_at hl 4 rfl) ?_
        obtain ⟨c12, h⟩ := zk_some h
        refine zr_lald (k := 145) (by decide) rfl (by decide) F (zal_a F hx0 (j := 18) rfl) hr dX11_nextWritten_124 c12 ?_
        refine lv_bipush (v := (8)) F.1 F.2.1 dX11_nextWritten_125 (by decide) ?_
        refine lv_lushr F.1 F.2.1 dX11_nextWritten_127 rfl ?_
        refine lv_l2i F.1 F.2.1 dX11_nextWritten_128 rfl ?_
        refine lv_sipush (v := (255)) F.1 F.2.1 dX11_nextWritten_129 (by decide) ?_
        refine lv_iand F.1 F.2.1 dX11_nextWritten_132 ?_
        refine lv_topi (fun v13 ev13 => ?_)
        replace h := zl_sub ev13 h
        refine lv_istore (lv' := [(5, .int v13), (4, .int v8), (3, .int v2), (0, .ref (B 11 x0)), (1, .ref (B 2 x1)), (2, .int x2)]) F.1 F.2.1 dX11_nextWritten_133 hl (by decide) rfl (fun ls hl => ?_)
        refine lv_aload_n F.1 F.2.1 dX11_nextWritten_135 rfl (lv_at hl 3 rfl) ?_
        refine gf11_45 F hx0 hr dX11_nextWritten_136 ?_
        refine lv_iload_n F.1 F.2.1 dX11_nextWritten_139 rfl (lv_at hl 5 rfl) ?_
        obtain ⟨c14, h⟩ := zk_some h
        refine zr_lald (k := 145) (by decide) rfl (by decide) F (zal_a F hx0 (j := 18) rfl) hr dX11_nextWritten_140 c14 ?_
        refine lv_l2i F.1 F.2.1 dX11_nextWritten_141 rfl ?_
        refine lv_iload F.1 F.2.1 dX11_nextWritten_142 (lv_at hl 1 rfl) ?_
        refine lv_iload F.1 F.2.1 dX11_nextWritten_144 (lv_at hl 0 rfl) ?_
        refine lv_imul F.1 F.2.1 dX11_nextWritten_146 ?_
        refine lv_iadd F.1 F.2.1 dX11_nextWritten_147 ?_
        refine lv_sipush (v := (255)) F.1 F.2.1 dX11_nextWritten_148 (by decide) ?_
        refine lv_iand F.1 F.2.1 dX11_nextWritten_151 ?_
        obtain ⟨rfl, rfl⟩ := zret h
        exact E _ _ _ _ dX11_nextWritten_152 trivial hr
      · replace h := zi_f c11 h
        refine lv_aload_n F.1 F.2.1 dX11_nextWritten_97 rfl (lv_at hl 2 rfl) ?_
        refine gf11_45 F hx0 hr dX11_nextWritten_98 ?_
        refine lv_iload_n F.1 F.2.1 dX11_nextWritten_101 rfl (lv_at hl 4 rfl) ?_
        obtain ⟨c15, h⟩ := zk_some h
        refine zr_lald (k := 145) (by decide) rfl (by decide) F (zal_a F hx0 (j := 18) rfl) hr dX11_nextWritten_102 c15 ?_
        refine lv_bipush (v := (8)) F.1 F.2.1 dX11_nextWritten_103 (by decide) ?_
        refine lv_iload_n F.1 F.2.1 dX11_nextWritten_105 rfl (lv_at hl 1 rfl) ?_
        refine lv_iconst (v := (1)) F.1 F.2.1 dX11_nextWritten_106 (by decide) ?_
        refine lv_isub F.1 F.2.1 dX11_nextWritten_107 ?_
        refine lv_iload F.1 F.2.1 dX11_nextWritten_108 (lv_at hl 0 rfl) ?_
        refine lv_isub F.1 F.2.1 dX11_nextWritten_110 ?_
        refine lv_imul F.1 F.2.1 dX11_nextWritten_111 ?_
        refine lv_lushr F.1 F.2.1 dX11_nextWritten_112 rfl ?_
        refine lv_l2i F.1 F.2.1 dX11_nextWritten_113 rfl ?_
        refine lv_sipush (v := (255)) F.1 F.2.1 dX11_nextWritten_114 (by decide) ?_
        refine lv_iand F.1 F.2.1 dX11_nextWritten_117 ?_
        obtain ⟨rfl, rfl⟩ := zret h
        exact E _ _ _ _ dX11_nextWritten_118 trivial hr
    · replace h := zi_f c7 h
      refine lv_goto (tgt := 153) F.1 F.2.1 dX11_nextWritten_66 (by decide) ?_
      exact bX11_nextWritten_153 hst F hA E hK5 x0 x1 x2 hx0 hx1 hr (lv_sub hl [1, 2, 3] rfl) h
def fX11_nextWritten_5b (N : Nat) (K5 : Nat → Nat → Int32 → St → Option (Int32 × St)) (x0 : Nat) (x1 : Nat) (x2 : Int32) (z : St) : Option (Int32 × St) := if (zgI z 11 19 x0) ≤ x2 then (some ((-1), z)) else (if x2 = (zgI z 2 10 x1) then (fX11_nextWritten_31 N K5 x0 x1 x2 z) else (zl (zsI z 2 10 x1 x2) fun z3 => zl (zsI z3 2 11 x1 (0)) fun z4 => fX11_nextWritten_31 N K5 x0 x1 x2 z4))
def fX11_nextWritten_5 (N : Nat)  : Nat → Nat → Nat → Int32 → St → Option (Int32 × St)
  | 0 => fun _ _ _ _ => none
  | n + 1 => fX11_nextWritten_5b N (fX11_nextWritten_5 N  n)
set_option maxHeartbeats 4000000 in
set_option maxRecDepth 100000 in
theorem bX11_nextWritten_5 (hst : zSt B ids) (F : zFx p m c cX11_nextWritten 6 s args RX11 D cy B ids A) (hA : ∀ q : Nat, s.heap.size ≤ q → A q) {r : Int32} {z' : St} (E : zEnd p l e rmX11_nextWritten s m args below meth c cX11_nextWritten D cy B ids A Q (some (.int r)) z' .ireturn True) {N : Nat} {K5 : Nat → Nat → Int32 → St → Option (Int32 × St)} (hK5 : ∀ (x0 : Nat) (x1 : Nat) (x2 : Int32) (hx0 : (11, x0) ∈ ids) (hx1 : (2, x1) ∈ ids) {z : St} {H : Heap} {locs : List Loc} {ls : Array Slot} (hr : zRep D cy B ids A s.heap z H locs) (hl : lv_has ls 6 [(0, .ref (B 11 x0)), (1, .ref (B 2 x1)), (2, .int x2)]), K5 x0 x1 x2 z = some (r, z') → W p l e rmX11_nextWritten s m args below meth c H locs 0 0 Q (F0 m 5 ls [])) (x0 : Nat) (x1 : Nat) (x2 : Int32) (hx0 : (11, x0) ∈ ids) (hx1 : (2, x1) ∈ ids) {z : St} {H : Heap} {locs : List Loc} {ls : Array Slot} (hr : zRep D cy B ids A s.heap z H locs) (hl : lv_has ls 6 [(0, .ref (B 11 x0)), (1, .ref (B 2 x1)), (2, .int x2)]) (h : fX11_nextWritten_5b N K5 x0 x1 x2 z = some (r, z')) : W p l e rmX11_nextWritten s m args below meth c H locs 0 0 Q (F0 m 5 ls []) := by
  unfold fX11_nextWritten_5b at h
  refine lv_iload_n F.1 F.2.1 dX11_nextWritten_5 rfl (lv_at hl 2 rfl) ?_
  refine lv_aload_n F.1 F.2.1 dX11_nextWritten_6 rfl (lv_at hl 0 rfl) ?_
  refine gf11_899 F hx0 hr dX11_nextWritten_7 ?_
  refine lv_icmp_ge (tgt := 159) F.1 F.2.1 dX11_nextWritten_10 (by decide) (fun c1 => ?_) (fun c1 => ?_)
  · replace h := zi_t c1 h
    refine lv_iconst (v := (-1)) F.1 F.2.1 dX11_nextWritten_159 (by decide) ?_
    obtain ⟨rfl, rfl⟩ := zret h
    exact E _ _ _ _ dX11_nextWritten_160 trivial hr
  · replace h := zi_f c1 h
    refine lv_iload_n F.1 F.2.1 dX11_nextWritten_13 rfl (lv_at hl 2 rfl) ?_
    refine lv_aload_n F.1 F.2.1 dX11_nextWritten_14 rfl (lv_at hl 1 rfl) ?_
    refine gf11_907 F hx1 hr dX11_nextWritten_15 ?_
    refine lv_icmp_eq (tgt := 31) F.1 F.2.1 dX11_nextWritten_18 (by decide) (fun c2 => ?_) (fun c2 => ?_)
    · replace h := zi_t c2 h
      exact bX11_nextWritten_31 hst F hA E hK5 x0 x1 x2 hx0 hx1 hr (lv_sub hl [0, 1, 2] rfl) h
    · replace h := zi_f c2 h
      refine lv_aload_n F.1 F.2.1 dX11_nextWritten_21 rfl (lv_at hl 1 rfl) ?_
      refine lv_iload_n F.1 F.2.1 dX11_nextWritten_22 rfl (lv_at hl 2 rfl) ?_
      refine pf11_907 F hx1 hr dX11_nextWritten_23 x2 (fun H locs z3 ez3 hr => ?_)
      replace h := zl_sub ez3 h
      clear ez3
      refine lv_aload_n F.1 F.2.1 dX11_nextWritten_26 rfl (lv_at hl 1 rfl) ?_
      refine lv_iconst (v := (0)) F.1 F.2.1 dX11_nextWritten_27 (by decide) ?_
      refine pf11_910 F hx1 hr dX11_nextWritten_28 (0) (fun H locs z4 ez4 hr => ?_)
      replace h := zl_sub ez4 h
      clear ez4
      exact bX11_nextWritten_31 hst F hA E hK5 x0 x1 x2 hx0 hx1 hr (lv_sub hl [0, 1, 2] rfl) h
theorem lX11_nextWritten_5 (hst : zSt B ids) (F : zFx p m c cX11_nextWritten 6 s args RX11 D cy B ids A) (hA : ∀ q : Nat, s.heap.size ≤ q → A q) {r : Int32} {z' : St} (E : zEnd p l e rmX11_nextWritten s m args below meth c cX11_nextWritten D cy B ids A Q (some (.int r)) z' .ireturn True) {N : Nat}  : ∀ (n : Nat) (x0 : Nat) (x1 : Nat) (x2 : Int32) (hx0 : (11, x0) ∈ ids) (hx1 : (2, x1) ∈ ids) {z : St} {H : Heap} {locs : List Loc} {ls : Array Slot} (hr : zRep D cy B ids A s.heap z H locs) (hl : lv_has ls 6 [(0, .ref (B 11 x0)), (1, .ref (B 2 x1)), (2, .int x2)]), fX11_nextWritten_5 N  n x0 x1 x2 z = some (r, z') → W p l e rmX11_nextWritten s m args below meth c H locs 0 0 Q (F0 m 5 ls []) := by
  intro n
  induction n with
  | zero => intro x0 x1 x2 hx0 hx1 z H locs ls hr hl h; cases h
  | succ n ih => intro x0 x1 x2 hx0 hx1 z H locs ls hr hl h; exact bX11_nextWritten_5 hst F hA E ih x0 x1 x2 hx0 hx1 hr hl h
def fX11_nextWritten (N : Nat)  (x0 : Nat) (x1 : Nat) (z : St) : Option (Int32 × St) := zl (zgI z 2 10 x1) fun v1 => fX11_nextWritten_5 N N x0 x1 v1 z
set_option maxHeartbeats 4000000 in
set_option maxRecDepth 100000 in
theorem bX11_nextWritten_0 (hst : zSt B ids) (F : zFx p m c cX11_nextWritten 6 s args RX11 D cy B ids A) (hA : ∀ q : Nat, s.heap.size ≤ q → A q) {r : Int32} {z' : St} (E : zEnd p l e rmX11_nextWritten s m args below meth c cX11_nextWritten D cy B ids A Q (some (.int r)) z' .ireturn True) {N : Nat}  (x0 : Nat) (x1 : Nat) (hx0 : (11, x0) ∈ ids) (hx1 : (2, x1) ∈ ids) {z : St} {H : Heap} {locs : List Loc} {ls : Array Slot} (hr : zRep D cy B ids A s.heap z H locs) (hl : lv_has ls 6 [(0, .ref (B 11 x0)), (1, .ref (B 2 x1))]) (h : fX11_nextWritten N x0 x1 z = some (r, z')) : W p l e rmX11_nextWritten s m args below meth c H locs 0 0 Q (F0 m 0 ls []) := by
  unfold fX11_nextWritten at h
  refine lv_aload_n F.1 F.2.1 dX11_nextWritten_0 rfl (lv_at hl 1 rfl) ?_
  refine gf11_907 F hx1 hr dX11_nextWritten_1 ?_
  refine lv_topi (fun v1 ev1 => ?_)
  replace h := zl_sub ev1 h
  refine lv_istore_n (lv' := [(2, .int v1), (0, .ref (B 11 x0)), (1, .ref (B 2 x1))]) F.1 F.2.1 dX11_nextWritten_4 rfl hl (by decide) rfl (fun ls hl => ?_)
  exact lX11_nextWritten_5 hst F hA E  _ x0 x1 v1 hx0 hx1 hr (lv_sub hl [1, 2, 0] rfl) h
end SX11_nextWritten
set_option maxRecDepth 100000 in
theorem okX11_nextWritten (l : Launch) (D : va_G) (cy : Nat → ClassId) (B : Nat → Nat → Nat) (ids : List (Nat × Nat)) (hst : zSt B ids) (N : Nat) (x0 : Nat) (hx0 : (11, x0) ∈ ids) (x1 : Nat) (hx1 : (2, x1) ∈ ids) {z : St} {r : Int32} {z' : St} (hW : zWf ids z) (h : fX11_nextWritten N x0 x1 z = some (r, z')) : zM l yX11_nextWritten (zws yX11_nextWritten cX11_nextWritten 6 (some .int)) rmX11_nextWritten D cy B ids [.ref (B 11 x0), .ref (B 2 x1)] (some (.int r)) True z z' :=
  zM_of hst hW (by decide +kernel) (Nat.le_of_ble_eq_true rfl) (fun p e s m args below meth c A ls F hA hret hlocks hr hl => bX11_nextWritten_0 hst F hA (zEnd_i F hret hlocks) x0 x1 hx0 hx1 hr hl h)
abbrev rmX11_takeByte : Room := { frames := 2, cells := 0, slots := 0, locals := 83 }
theorem hdX11_takeByte : yX11_takeByte.cls ≠ "java/lang/invoke/MethodHandle" ∧ yX11_takeByte.cls ≠ "java/lang/invoke/VarHandle" ∧ (parseMethodDescriptor yX11_takeByte.desc).map (fun d => d.parameters.length) = some 1 := by decide +kernel
theorem hroX11_takeByte_X11_nextWritten : rmX11_nextWritten.frames + 1 ≤ rmX11_takeByte.frames ∧ 8 + (6 + 11) + rmX11_nextWritten.locals ≤ rmX11_takeByte.locals := by decide
theorem hroX11_takeByte_X3_takeByte : rmX3_takeByte.frames + 1 ≤ rmX11_takeByte.frames ∧ 8 + (4 + 11) + rmX3_takeByte.locals ≤ rmX11_takeByte.locals := by decide
section SX11_takeByte
variable {p : Program} {l : Launch} {e : Env} {s : State} {m : MethodId} {args : Array Value} {below : List Frame} {meth : Method} {c : Code} {Q : State → Prop} {D : va_G} {cy : Nat → ClassId} {B : Nat → Nat → Nat} {ids : List (Nat × Nat)} {A : Nat → Prop}
def fX11_takeByte (N : Nat)  (x0 : Nat) (x1 : Nat) (z : St) : Option (Int32 × St) := zl (zgR z 2 12 x1) fun y1 => zd y1 fun a2 => zc (fX3_takeByte N a2 z) fun r3 z4 => zc (fX11_nextWritten N x0 x1 z4) fun r7 z8 => if r3 = r7 then (some (r3, z8)) else (zl (zsI z8 11 8 x0 ((zgI z8 11 8 x0) + (1))) fun z12 => some (r3, z12))
set_option maxHeartbeats 4000000 in
set_option maxRecDepth 100000 in
theorem bX11_takeByte_0 (hst : zSt B ids) (F : zFx p m c cX11_takeByte 3 s args RX11 D cy B ids A) (hA : ∀ q : Nat, s.heap.size ≤ q → A q) {r : Int32} {z' : St} (E : zEnd p l e rmX11_takeByte s m args below meth c cX11_takeByte D cy B ids A Q (some (.int r)) z' .ireturn True) {N : Nat}  (x0 : Nat) (x1 : Nat) (hx0 : (11, x0) ∈ ids) (hx1 : (2, x1) ∈ ids) {z : St} {H : Heap} {locs : List Loc} {ls : Array Slot} (hr : zRep D cy B ids A s.heap z H locs) (hl : lv_has ls 3 [(0, .ref (B 11 x0)), (1, .ref (B 2 x1))]) (h : fX11_takeByte N x0 x1 z = some (r, z')) : W p l e rmX11_takeByte s m args below meth c H locs 0 0 Q (F0 m 0 ls []) := by
  unfold fX11_takeByte at h
  refine lv_aload_n F.1 F.2.1 dX11_takeByte_0 rfl (lv_at hl 1 rfl) ?_
  refine gf11_253 F hx1 hr dX11_takeByte_1 (fun y1 ey1 => ?_)
  replace h := zl_sub ey1 h
  have hy1 := zal_g hr hx1 (j := 12) rfl ey1
  clear ey1
  obtain ⟨a2, rfl, h⟩ := zd_some h
  obtain ⟨r3, z4, hc5, h⟩ := zc_some h
  refine zr_calli (zrun_VN (As := []) (rest := []) zn_1656 zq_1658 zs_X3_takeByte zq_1659 zq_13 hdX3_takeByte (by decide) (T := TX3) (N := 19) rfl (okX3_takeByte l D cy B ids hst N a2 (hy1 _ rfl) hr.2.2 hc5) F hr (hy1 _ rfl) hl.1 rfl (by decide) dX11_takeByte_4 rfl rfl hroX11_takeByte_X3_takeByte ⟨Nat.zero_le _, Nat.zero_le _⟩) F hA hr (fun H locs hx6 hr => ?_)
  clear hc5
  refine lv_istore_n (lv' := [(2, .int r3), (0, .ref (B 11 x0)), (1, .ref (B 2 x1))]) F.1 F.2.1 dX11_takeByte_7 rfl hl (by decide) rfl (fun ls hl => ?_)
  refine lv_iload_n F.1 F.2.1 dX11_takeByte_8 rfl (lv_at hl 0 rfl) ?_
  refine lv_aload_n F.1 F.2.1 dX11_takeByte_9 rfl (lv_at hl 1 rfl) ?_
  refine lv_aload_n F.1 F.2.1 dX11_takeByte_10 rfl (lv_at hl 2 rfl) ?_
  obtain ⟨r7, z8, hc9, h⟩ := zc_some h
  refine zr_calli (zrun_V (As := [.ref (B 2 x1)]) (rest := [.int r3]) zq_1664 zq_1666 zs_X11_nextWritten zq_1667 zq_1 hdX11_nextWritten (by decide) (T := TX11) (N := 21) rfl (okX11_nextWritten l D cy B ids hst N x0 hx0 x1 hx1 hr.2.2 hc9) F hr hx0 hl.1 rfl (Nat.le_of_ble_eq_true rfl) dX11_takeByte_11 rfl rfl hroX11_takeByte_X11_nextWritten ⟨Nat.zero_le _, Nat.zero_le _⟩) F hA hr (fun H locs hx10 hr => ?_)
  clear hc9
  refine lv_icmp_eq (tgt := 27) F.1 F.2.1 dX11_takeByte_14 (by decide) (fun c11 => ?_) (fun c11 => ?_)
  · replace h := zi_t c11 h
    refine lv_iload_n F.1 F.2.1 dX11_takeByte_27 rfl (lv_at hl 0 rfl) ?_
    obtain ⟨rfl, rfl⟩ := zret h
    exact E _ _ _ _ dX11_takeByte_28 trivial hr
  · replace h := zi_f c11 h
    refine lv_aload_n F.1 F.2.1 dX11_takeByte_17 rfl (lv_at hl 1 rfl) ?_
    refine lv_dup F.1 F.2.1 dX11_takeByte_18 rfl ?_
    refine gf11_452 F hx0 hr dX11_takeByte_19 ?_
    refine lv_iconst (v := (1)) F.1 F.2.1 dX11_takeByte_22 (by decide) ?_
    refine lv_iadd F.1 F.2.1 dX11_takeByte_23 ?_
    refine pf11_452 F hx0 hr dX11_takeByte_24 ((zgI z8 11 8 x0) + (1)) (fun H locs z12 ez12 hr => ?_)
    replace h := zl_sub ez12 h
    clear ez12
    refine lv_iload_n F.1 F.2.1 dX11_takeByte_27 rfl (lv_at hl 0 rfl) ?_
    obtain ⟨rfl, rfl⟩ := zret h
    exact E _ _ _ _ dX11_takeByte_28 trivial hr
end SX11_takeByte
set_option maxRecDepth 100000 in
theorem okX11_takeByte (l : Launch) (D : va_G) (cy : Nat → ClassId) (B : Nat → Nat → Nat) (ids : List (Nat × Nat)) (hst : zSt B ids) (N : Nat) (x0 : Nat) (hx0 : (11, x0) ∈ ids) (x1 : Nat) (hx1 : (2, x1) ∈ ids) {z : St} {r : Int32} {z' : St} (hW : zWf ids z) (h : fX11_takeByte N x0 x1 z = some (r, z')) : zM l yX11_takeByte (zws yX11_takeByte cX11_takeByte 3 (some .int)) rmX11_takeByte D cy B ids [.ref (B 11 x0), .ref (B 2 x1)] (some (.int r)) True z z' :=
  zM_of hst hW (by decide +kernel) (Nat.le_of_ble_eq_true rfl) (fun p e s m args below meth c A ls F hA hret hlocks hr hl => bX11_takeByte_0 hst F hA (zEnd_i F hret hlocks) x0 x1 hx0 hx1 hr hl h)
abbrev rmX11_settle : Room := { frames := 3, cells := 0, slots := 0, locals := 105 }
theorem hdX11_settle : yX11_settle.cls ≠ "java/lang/invoke/MethodHandle" ∧ yX11_settle.cls ≠ "java/lang/invoke/VarHandle" ∧ (parseMethodDescriptor yX11_settle.desc).map (fun d => d.parameters.length) = some 1 := by decide +kernel
theorem hroX11_settle_X11_stir : rmX11_stir.frames + 1 ≤ rmX11_settle.frames ∧ 8 + (1 + 11) + rmX11_stir.locals ≤ rmX11_settle.locals := by decide
theorem hroX11_settle_X11_takeByte : rmX11_takeByte.frames + 1 ≤ rmX11_settle.frames ∧ 8 + (3 + 11) + rmX11_takeByte.locals ≤ rmX11_settle.locals := by decide
theorem hroX11_settle_X2_setUnused : rmX2_setUnused.frames + 1 ≤ rmX11_settle.frames ∧ 8 + (1 + 11) + rmX2_setUnused.locals ≤ rmX11_settle.locals := by decide
theorem hroX11_settle_X3_armProbe : rmX3_armProbe.frames + 1 ≤ rmX11_settle.frames ∧ 8 + (2 + 11) + rmX3_armProbe.locals ≤ rmX11_settle.locals := by decide
theorem hroX11_settle_X3_isDead : rmX3_isDead.frames + 1 ≤ rmX11_settle.frames ∧ 8 + (1 + 11) + rmX3_isDead.locals ≤ rmX11_settle.locals := by decide
section SX11_settle
variable {p : Program} {l : Launch} {e : Env} {s : State} {m : MethodId} {args : Array Value} {below : List Frame} {meth : Method} {c : Code} {Q : State → Prop} {D : va_G} {cy : Nat → ClassId} {B : Nat → Nat → Nat} {ids : List (Nat × Nat)} {A : Nat → Prop}
def fX11_settle_106 (N : Nat)  (x1 : Nat) (z : St) : Option (Int32 × St) := zc (fX2_setUnused N x1 z) fun _ z2 => some (0, z2)
set_option maxHeartbeats 4000000 in
set_option maxRecDepth 100000 in
theorem bX11_settle_106 (hst : zSt B ids) (F : zFx p m c cX11_settle 4 s args RX11 D cy B ids A) (hA : ∀ q : Nat, s.heap.size ≤ q → A q) {r : Int32} {z' : St} (E : zEnd p l e rmX11_settle s m args below meth c cX11_settle D cy B ids A Q none z' .return_ True) {N : Nat}  (x1 : Nat) (hx1 : (2, x1) ∈ ids) {z : St} {H : Heap} {locs : List Loc} {ls : Array Slot} (hr : zRep D cy B ids A s.heap z H locs) (hl : lv_has ls 4 [(1, .ref (B 2 x1))]) (h : fX11_settle_106 N x1 z = some (r, z')) : W p l e rmX11_settle s m args below meth c H locs 0 0 Q (F0 m 106 ls []) := by
  unfold fX11_settle_106 at h
  refine lv_aload_n F.1 F.2.1 dX11_settle_106 rfl (lv_at hl 0 rfl) ?_
  obtain ⟨r1, z2, hc3, h⟩ := zc_some h
  refine zr_callv (zrun_VN (As := []) (rest := []) zn_1673 zq_1675 zs_X2_setUnused zq_1676 zq_12 hdX2_setUnused (by decide) (T := TX2) (N := 13) rfl (okX2_setUnused l D cy B ids hst N x1 hx1 hr.2.2 hc3) F hr hx1 hl.1 rfl (by decide) dX11_settle_107 rfl rfl hroX11_settle_X2_setUnused ⟨Nat.zero_le _, Nat.zero_le _⟩) F hA hr (fun H locs hx4 hr => ?_)
  clear hc3
  obtain ⟨rfl, rfl⟩ := zret h
  exact E _ _ _ _ dX11_settle_110 trivial hr
def fX11_settle_68 (N : Nat)  (x0 : Nat) (x1 : Nat) (x2 : Nat) (z : St) : Option (Int32 × St) := zc (fX3_armProbe N x2 (zgI z 11 4 x0) z) fun _ z2 => if ¬ (zgI z2 2 6 x1) = 0 then (if (zgI z2 3 0 x2) = (1) then (fX11_settle_106 N x1 z2) else (zc (fX3_isDead N x2 z2) fun r7 z8 => if r7 = 0 then (some (0, z8)) else (if ¬ (zgI z8 2 7 x1) = 0 then (some (0, z8)) else (fX11_settle_106 N x1 z8)))) else (some (0, z2))
set_option maxHeartbeats 4000000 in
set_option maxRecDepth 100000 in
theorem bX11_settle_68 (hst : zSt B ids) (F : zFx p m c cX11_settle 4 s args RX11 D cy B ids A) (hA : ∀ q : Nat, s.heap.size ≤ q → A q) {r : Int32} {z' : St} (E : zEnd p l e rmX11_settle s m args below meth c cX11_settle D cy B ids A Q none z' .return_ True) {N : Nat}  (x0 : Nat) (x1 : Nat) (x2 : Nat) (hx0 : (11, x0) ∈ ids) (hx1 : (2, x1) ∈ ids) (hx2 : (3, x2) ∈ ids) {z : St} {H : Heap} {locs : List Loc} {ls : Array Slot} (hr : zRep D cy B ids A s.heap z H locs) (hl : lv_has ls 4 [(0, .ref (B 11 x0)), (1, .ref (B 2 x1)), (2, .ref (B 3 x2))]) (h : fX11_settle_68 N x0 x1 x2 z = some (r, z')) : W p l e rmX11_settle s m args below meth c H locs 0 0 Q (F0 m 68 ls []) := by
  unfold fX11_settle_68 at h
  refine lv_aload_n F.1 F.2.1 dX11_settle_68 rfl (lv_at hl 2 rfl) ?_
  refine lv_aload_n F.1 F.2.1 dX11_settle_69 rfl (lv_at hl 0 rfl) ?_
  refine gf11_176 F hx0 hr dX11_settle_70 ?_
  obtain ⟨r1, z2, hc3, h⟩ := zc_some h
  refine zr_callv (zrun_VN (As := [.int (zgI z 11 4 x0)]) (rest := []) zn_1668 zq_1670 zs_X3_armProbe zq_1671 zq_13 hdX3_armProbe (by decide) (T := TX3) (N := 19) rfl (okX3_armProbe l D cy B ids hst N x2 hx2 (zgI z 11 4 x0)  hr.2.2 hc3) F hr hx2 hl.1 rfl (by decide) dX11_settle_73 rfl rfl hroX11_settle_X3_armProbe ⟨Nat.zero_le _, Nat.zero_le _⟩) F hA hr (fun H locs hx4 hr => ?_)
  clear hc3
  refine lv_aload_n F.1 F.2.1 dX11_settle_76 rfl (lv_at hl 1 rfl) ?_
  refine gf11_851 F hx1 hr dX11_settle_77 ?_
  refine lv_if_ne (tgt := 84) F.1 F.2.1 dX11_settle_80 (by decide) (fun c5 => ?_) (fun c5 => ?_)
  · replace h := zi_t c5 h
    refine lv_aload_n F.1 F.2.1 dX11_settle_84 rfl (lv_at hl 2 rfl) ?_
    refine gf11_290 F hx2 hr dX11_settle_85 ?_
    refine lv_iconst (v := (1)) F.1 F.2.1 dX11_settle_88 (by decide) ?_
    refine lv_icmp_eq (tgt := 106) F.1 F.2.1 dX11_settle_89 (by decide) (fun c6 => ?_) (fun c6 => ?_)
    · replace h := zi_t c6 h
      exact bX11_settle_106 hst F hA E  x1 hx1 hr (lv_sub hl [1] rfl) h
    · replace h := zi_f c6 h
      refine lv_aload_n F.1 F.2.1 dX11_settle_92 rfl (lv_at hl 2 rfl) ?_
      obtain ⟨r7, z8, hc9, h⟩ := zc_some h
      refine zr_calli (zrun_VN (As := []) (rest := []) zn_1672 zq_1227 zs_X3_isDead zq_1228 zq_13 hdX3_isDead (by decide) (T := TX3) (N := 19) rfl (okX3_isDead l D cy B ids hst N x2 hx2 hr.2.2 hc9) F hr hx2 hl.1 rfl (by decide) dX11_settle_93 rfl rfl hroX11_settle_X3_isDead ⟨Nat.zero_le _, Nat.zero_le _⟩) F hA hr (fun H locs hx10 hr => ?_)
      clear hc9
      refine lv_if_eq (tgt := 110) F.1 F.2.1 dX11_settle_96 (by decide) (fun c11 => ?_) (fun c11 => ?_)
      · replace h := zi_t c11 h
        obtain ⟨rfl, rfl⟩ := zret h
        exact E _ _ _ _ dX11_settle_110 trivial hr
      · replace h := zi_f c11 h
        refine lv_aload_n F.1 F.2.1 dX11_settle_99 rfl (lv_at hl 1 rfl) ?_
        refine gf11_287 F hx1 hr dX11_settle_100 ?_
        refine lv_if_ne (tgt := 110) F.1 F.2.1 dX11_settle_103 (by decide) (fun c12 => ?_) (fun c12 => ?_)
        · replace h := zi_t c12 h
          obtain ⟨rfl, rfl⟩ := zret h
          exact E _ _ _ _ dX11_settle_110 trivial hr
        · replace h := zi_f (fun q => q c12) h
          exact bX11_settle_106 hst F hA E  x1 hx1 hr (lv_sub hl [1] rfl) h
  · replace h := zi_f (fun q => q c5) h
    obtain ⟨rfl, rfl⟩ := zret h
    exact E _ _ _ _ dX11_settle_83 trivial hr
def fX11_settle_54 (N : Nat)  (x0 : Nat) (x1 : Nat) (x2 : Option Nat) (z : St) : Option (Int32 × St) := zd x2 fun a1 => zl (zgR z 3 17 a1) fun y2 => zd y2 fun a3 => if (zgI z 4 3 a3) ≤ 0 then (fX11_settle_68 N x0 x1 a1 z) else (zc (fX11_stir N x0 z) fun _ z6 => fX11_settle_68 N x0 x1 a1 z6)
set_option maxHeartbeats 4000000 in
set_option maxRecDepth 100000 in
theorem bX11_settle_54 (hst : zSt B ids) (F : zFx p m c cX11_settle 4 s args RX11 D cy B ids A) (hA : ∀ q : Nat, s.heap.size ≤ q → A q) {r : Int32} {z' : St} (E : zEnd p l e rmX11_settle s m args below meth c cX11_settle D cy B ids A Q none z' .return_ True) {N : Nat}  (x0 : Nat) (x1 : Nat) (x2 : Option Nat) (hx0 : (11, x0) ∈ ids) (hx1 : (2, x1) ∈ ids) (hx2 : ∀ t, x2 = some t → (3, t) ∈ ids) {z : St} {H : Heap} {locs : List Loc} {ls : Array Slot} (hr : zRep D cy B ids A s.heap z H locs) (hl : lv_has ls 4 [(0, .ref (B 11 x0)), (1, .ref (B 2 x1)), (2, va_rf (Option.map (B 3) x2))]) (h : fX11_settle_54 N x0 x1 x2 z = some (r, z')) : W p l e rmX11_settle s m args below meth c H locs 0 0 Q (F0 m 54 ls []) := by
  unfold fX11_settle_54 at h
  refine zr_aload_n F.1 F.2.1 dX11_settle_54 rfl (lv_at hl 2 rfl) ?_
  obtain ⟨a1, rfl, h⟩ := zd_some h
  refine gf11_332 F (hx2 _ rfl) hr dX11_settle_55 (fun y2 ey2 => ?_)
  replace h := zl_sub ey2 h
  have hy2 := zal_g hr (hx2 _ rfl) (j := 17) rfl ey2
  clear ey2
  obtain ⟨a3, rfl, h⟩ := zd_some h
  refine gf11_336 F (hy2 _ rfl) hr dX11_settle_58 ?_
  refine lv_if_le (tgt := 68) F.1 F.2.1 dX11_settle_61 (by decide) (fun c4 => ?_) (fun c4 => ?_)
  · replace h := zi_t c4 h
    exact bX11_settle_68 hst F hA E  x0 x1 a1 hx0 hx1 (hx2 _ rfl) hr (lv_sub hl [0, 1, 2] rfl) h
  · replace h := zi_f c4 h
    refine lv_aload_n F.1 F.2.1 dX11_settle_64 rfl (lv_at hl 0 rfl) ?_
    obtain ⟨r5, z6, hc7, h⟩ := zc_some h
    refine zr_callv (zrun_V (As := []) (rest := []) zq_858 zq_860 zs_X11_stir zq_861 zq_1 hdX11_stir (by decide) (T := TX11) (N := 21) rfl (okX11_stir l D cy B ids hst N x0 hx0 hr.2.2 hc7) F hr hx0 hl.1 rfl (by decide) dX11_settle_65 rfl rfl hroX11_settle_X11_stir ⟨Nat.zero_le _, Nat.zero_le _⟩) F hA hr (fun H locs hx8 hr => ?_)
    clear hc7
    exact bX11_settle_68 hst F hA E  x0 x1 a1 hx0 hx1 (hx2 _ rfl) hr (lv_sub hl [0, 1, 2] rfl) h
def fX11_settle_14b (N : Nat) (K14 : Nat → Nat → Option Nat → Int32 → St → Option (Int32 × St)) (x0 : Nat) (x1 : Nat) (x2 : Option Nat) (x3 : Int32) (z : St) : Option (Int32 × St) := if (2048) ≤ x3 then (fX11_settle_54 N x0 x1 x2 z) else (zd x2 fun a2 => zl (zgR z 3 17 a2) fun y3 => zd y3 fun a4 => if (zgI z 4 3 a4) ≤ 0 then (fX11_settle_54 N x0 x1 (some a2) z) else (zc (fX11_takeByte N x0 x1 z) fun r6 z7 => zl (zsI z7 2 9 x1 (((31) * (zgI z 2 9 x1)) + r6)) fun z10 => zl (x3 + 1) fun v11 => K14 x0 x1 (some a2) v11 z10))
def fX11_settle_14 (N : Nat)  : Nat → Nat → Nat → Option Nat → Int32 → St → Option (Int32 × St)
  | 0 => fun _ _ _ _ _ => none
  | n + 1 => fX11_settle_14b N (fX11_settle_14 N  n)
set_option maxHeartbeats 4000000 in
set_option maxRecDepth 100000 in
theorem bX11_settle_14 (hst : zSt B ids) (F : zFx p m c cX11_settle 4 s args RX11 D cy B ids A) (hA : ∀ q : Nat, s.heap.size ≤ q → A q) {r : Int32} {z' : St} (E : zEnd p l e rmX11_settle s m args below meth c cX11_settle D cy B ids A Q none z' .return_ True) {N : Nat} {K14 : Nat → Nat → Option Nat → Int32 → St → Option (Int32 × St)} (hK14 : ∀ (x0 : Nat) (x1 : Nat) (x2 : Option Nat) (x3 : Int32) (hx0 : (11, x0) ∈ ids) (hx1 : (2, x1) ∈ ids) (hx2 : ∀ t, x2 = some t → (3, t) ∈ ids) {z : St} {H : Heap} {locs : List Loc} {ls : Array Slot} (hr : zRep D cy B ids A s.heap z H locs) (hl : lv_has ls 4 [(0, .ref (B 11 x0)), (1, .ref (B 2 x1)), (2, va_rf (Option.map (B 3) x2)), (3, .int x3)]), K14 x0 x1 x2 x3 z = some (r, z') → W p l e rmX11_settle s m args below meth c H locs 0 0 Q (F0 m 14 ls [])) (x0 : Nat) (x1 : Nat) (x2 : Option Nat) (x3 : Int32) (hx0 : (11, x0) ∈ ids) (hx1 : (2, x1) ∈ ids) (hx2 : ∀ t, x2 = some t → (3, t) ∈ ids) {z : St} {H : Heap} {locs : List Loc} {ls : Array Slot} (hr : zRep D cy B ids A s.heap z H locs) (hl : lv_has ls 4 [(0, .ref (B 11 x0)), (1, .ref (B 2 x1)), (2, va_rf (Option.map (B 3) x2)), (3, .int x3)]) (h : fX11_settle_14b N K14 x0 x1 x2 x3 z = some (r, z')) : W p l e rmX11_settle s m args below meth c H locs 0 0 Q (F0 m 14 ls []) := by
  unfold fX11_settle_14b at h
  refine lv_iload_n F.1 F.2.1 dX11_settle_14 rfl (lv_at hl 3 rfl) ?_
  refine lv_sipush (v := (2048)) F.1 F.2.1 dX11_settle_15 (by decide) ?_
  refine lv_icmp_ge (tgt := 54) F.1 F.2.1 dX11_settle_18 (by decide) (fun c1 => ?_) (fun c1 => ?_)
  · replace h := zi_t c1 h
    exact bX11_settle_54 hst F hA E  x0 x1 x2 hx0 hx1 hx2 hr (lv_sub hl [0, 1, 2] rfl) h
  · replace h := zi_f c1 h
    refine zr_aload_n F.1 F.2.1 dX11_settle_21 rfl (lv_at hl 2 rfl) ?_
    obtain ⟨a2, rfl, h⟩ := zd_some h
    refine gf11_332 F (hx2 _ rfl) hr dX11_settle_22 (fun y3 ey3 => ?_)
    replace h := zl_sub ey3 h
    have hy3 := zal_g hr (hx2 _ rfl) (j := 17) rfl ey3
    clear ey3
    obtain ⟨a4, rfl, h⟩ := zd_some h
    refine gf11_336 F (hy3 _ rfl) hr dX11_settle_25 ?_
    refine lv_if_le (tgt := 54) F.1 F.2.1 dX11_settle_28 (by decide) (fun c5 => ?_) (fun c5 => ?_)
    · replace h := zi_t c5 h
      exact bX11_settle_54 hst F hA E  x0 x1 (some a2) hx0 hx1 (zal_s (hx2 _ rfl)) hr (lv_sub hl [0, 1, 2] rfl) h
    · replace h := zi_f c5 h
      refine lv_aload_n F.1 F.2.1 dX11_settle_31 rfl (lv_at hl 1 rfl) ?_
      refine lv_bipush (v := (31)) F.1 F.2.1 dX11_settle_32 (by decide) ?_
      refine lv_aload_n F.1 F.2.1 dX11_settle_34 rfl (lv_at hl 1 rfl) ?_
      refine gf11_390 F hx1 hr dX11_settle_35 ?_
      refine lv_imul F.1 F.2.1 dX11_settle_38 ?_
      refine lv_aload_n F.1 F.2.1 dX11_settle_39 rfl (lv_at hl 0 rfl) ?_
      refine lv_aload_n F.1 F.2.1 dX11_settle_40 rfl (lv_at hl 1 rfl) ?_
      obtain ⟨r6, z7, hc8, h⟩ := zc_some h
      refine zr_calli (zrun_V (As := [.ref (B 2 x1)]) (rest := [.int ((31) * (zgI z 2 9 x1)), .ref (B 2 x1)]) zq_1652 zq_1654 zs_X11_takeByte zq_1655 zq_1 hdX11_takeByte (by decide) (T := TX11) (N := 21) rfl (okX11_takeByte l D cy B ids hst N x0 hx0 x1 hx1 hr.2.2 hc8) F hr hx0 hl.1 rfl (Nat.le_of_ble_eq_true rfl) dX11_settle_41 rfl rfl hroX11_settle_X11_takeByte ⟨Nat.zero_le _, Nat.zero_le _⟩) F hA hr (fun H locs hx9 hr => ?_)
      clear hc8
      refine lv_iadd F.1 F.2.1 dX11_settle_44 ?_
      refine pf11_390 F hx1 hr dX11_settle_45 (((31) * (zgI z 2 9 x1)) + r6) (fun H locs z10 ez10 hr => ?_)
      replace h := zl_sub ez10 h
      clear ez10
      obtain ⟨v11, ev11⟩ : ∃ y : Int32, y = (x3 + 1) := ⟨_, rfl⟩
      replace h := zl_sub ev11 h
      refine lv_iinc (v := v11) (lv' := [(3, .int v11), (0, .ref (B 11 x0)), (1, .ref (B 2 x1)), (2, .ref (B 3 a2))]) F.1 F.2.1 dX11_settle_48 hl (k := 3) rfl (by rw [ev11]; rfl) (by decide) rfl (fun ls hl => ?_)
      refine lv_goto (tgt := 14) F.1 F.2.1 dX11_settle_51 (by decide) ?_
      exact hK14 x0 x1 (some a2) v11 hx0 hx1 (zal_s (hx2 _ rfl)) hr (lv_sub hl [1, 2, 3, 0] rfl) h
theorem lX11_settle_14 (hst : zSt B ids) (F : zFx p m c cX11_settle 4 s args RX11 D cy B ids A) (hA : ∀ q : Nat, s.heap.size ≤ q → A q) {r : Int32} {z' : St} (E : zEnd p l e rmX11_settle s m args below meth c cX11_settle D cy B ids A Q none z' .return_ True) {N : Nat}  : ∀ (n : Nat) (x0 : Nat) (x1 : Nat) (x2 : Option Nat) (x3 : Int32) (hx0 : (11, x0) ∈ ids) (hx1 : (2, x1) ∈ ids) (hx2 : ∀ t, x2 = some t → (3, t) ∈ ids) {z : St} {H : Heap} {locs : List Loc} {ls : Array Slot} (hr : zRep D cy B ids A s.heap z H locs) (hl : lv_has ls 4 [(0, .ref (B 11 x0)), (1, .ref (B 2 x1)), (2, va_rf (Option.map (B 3) x2)), (3, .int x3)]), fX11_settle_14 N  n x0 x1 x2 x3 z = some (r, z') → W p l e rmX11_settle s m args below meth c H locs 0 0 Q (F0 m 14 ls []) := by
  intro n
  induction n with
  | zero => intro x0 x1 x2 x3 hx0 hx1 hx2 z H locs ls hr hl h; cases h
  | succ n ih => intro x0 x1 x2 x3 hx0 hx1 hx2 z H locs ls hr hl h; exact bX11_settle_14 hst F hA E ih x0 x1 x2 x3 hx0 hx1 hx2 hr hl h
def fX11_settle (N : Nat)  (x0 : Nat) (x1 : Nat) (z : St) : Option (Int32 × St) := zl (zgR z 2 12 x1) fun y1 => if (zgI z 2 8 x1) = 0 then (fX11_settle_54 N x0 x1 y1 z) else (fX11_settle_14 N N x0 x1 y1 (0) z)
set_option maxHeartbeats 4000000 in
set_option maxRecDepth 100000 in
theorem bX11_settle_0 (hst : zSt B ids) (F : zFx p m c cX11_settle 4 s args RX11 D cy B ids A) (hA : ∀ q : Nat, s.heap.size ≤ q → A q) {r : Int32} {z' : St} (E : zEnd p l e rmX11_settle s m args below meth c cX11_settle D cy B ids A Q none z' .return_ True) {N : Nat}  (x0 : Nat) (x1 : Nat) (hx0 : (11, x0) ∈ ids) (hx1 : (2, x1) ∈ ids) {z : St} {H : Heap} {locs : List Loc} {ls : Array Slot} (hr : zRep D cy B ids A s.heap z H locs) (hl : lv_has ls 4 [(0, .ref (B 11 x0)), (1, .ref (B 2 x1))]) (h : fX11_settle N x0 x1 z = some (r, z')) : W p l e rmX11_settle s m args below meth c H locs 0 0 Q (F0 m 0 ls []) := by
  unfold fX11_settle at h
  refine lv_aload_n F.1 F.2.1 dX11_settle_0 rfl (lv_at hl 1 rfl) ?_
  refine gf11_253 F hx1 hr dX11_settle_1 (fun y1 ey1 => ?_)
  replace h := zl_sub ey1 h
  have hy1 := zal_g hr hx1 (j := 12) rfl ey1
  clear ey1
  refine zr_astore_n (lv' := [(2, va_rf (Option.map (B 3) y1)), (0, .ref (B 11 x0)), (1, .ref (B 2 x1))]) F.1 F.2.1 dX11_settle_4 rfl hl (by decide) rfl (fun ls hl => ?_)
  refine lv_aload_n F.1 F.2.1 dX11_settle_5 rfl (lv_at hl 2 rfl) ?_
  refine gf11_387 F hx1 hr dX11_settle_6 ?_
  refine lv_if_eq (tgt := 54) F.1 F.2.1 dX11_settle_9 (by decide) (fun c2 => ?_) (fun c2 => ?_)
  · replace h := zi_t c2 h
    exact bX11_settle_54 hst F hA E  x0 x1 y1 hx0 hx1 hy1 hr (lv_sub hl [1, 2, 0] rfl) h
  · replace h := zi_f c2 h
    refine lv_iconst (v := (0)) F.1 F.2.1 dX11_settle_12 (by decide) ?_
    refine lv_istore_n (lv' := [(3, .int (0)), (2, va_rf (Option.map (B 3) y1)), (0, .ref (B 11 x0)), (1, .ref (B 2 x1))]) F.1 F.2.1 dX11_settle_13 rfl hl (by decide) (by simp only [List.filter, zrf_cat]; rfl) (fun ls hl => ?_)
    exact lX11_settle_14 hst F hA E  _ x0 x1 y1 (0) hx0 hx1 hy1 hr (lv_sub hl [2, 3, 1, 0] rfl) h
end SX11_settle
set_option maxRecDepth 100000 in
theorem okX11_settle (l : Launch) (D : va_G) (cy : Nat → ClassId) (B : Nat → Nat → Nat) (ids : List (Nat × Nat)) (hst : zSt B ids) (N : Nat) (x0 : Nat) (hx0 : (11, x0) ∈ ids) (x1 : Nat) (hx1 : (2, x1) ∈ ids) {z : St} {r : Int32} {z' : St} (hW : zWf ids z) (h : fX11_settle N x0 x1 z = some (r, z')) : zM l yX11_settle (zws yX11_settle cX11_settle 4 none) rmX11_settle D cy B ids [.ref (B 11 x0), .ref (B 2 x1)] none True z z' :=
  zM_of hst hW (by decide +kernel) (Nat.le_of_ble_eq_true rfl) (fun p e s m args below meth c A ls F hA hret hlocks hr hl => bX11_settle_0 hst F hA (zEnd_v F hret hlocks) x0 x1 hx0 hx1 hr hl h)
abbrev rmX11_doHost : Room := { frames := 6, cells := 0, slots := 0, locals := 187 }
theorem hdX11_doHost : yX11_doHost.cls ≠ "java/lang/invoke/MethodHandle" ∧ yX11_doHost.cls ≠ "java/lang/invoke/VarHandle" ∧ (parseMethodDescriptor yX11_doHost.desc).map (fun d => d.parameters.length) = some 1 := by decide +kernel
theorem hroX11_doHost_X11_addressSegment : rmX11_addressSegment.frames + 1 ≤ rmX11_doHost.frames ∧ 8 + (4 + 11) + rmX11_addressSegment.locals ≤ rmX11_doHost.locals := by decide
theorem hroX11_doHost_X11_sendOff : rmX11_sendOff.frames + 1 ≤ rmX11_doHost.frames ∧ 8 + (4 + 11) + rmX11_sendOff.locals ≤ rmX11_doHost.locals := by decide
theorem hroX11_doHost_X11_settle : rmX11_settle.frames + 1 ≤ rmX11_doHost.frames ∧ 8 + (4 + 11) + rmX11_settle.locals ≤ rmX11_doHost.locals := by decide
theorem hroX11_doHost_X3_makeNext : rmX3_makeNext.frames + 1 ≤ rmX11_doHost.frames ∧ 8 + (3 + 11) + rmX3_makeNext.locals ≤ rmX11_doHost.locals := by decide
theorem hroX11_doHost_X3_ring : rmX3_ring.frames + 1 ≤ rmX11_doHost.frames ∧ 8 + (2 + 11) + rmX3_ring.locals ≤ rmX11_doHost.locals := by decide
section SX11_doHost
variable {p : Program} {l : Launch} {e : Env} {s : State} {m : MethodId} {args : Array Value} {below : List Frame} {meth : Method} {c : Code} {Q : State → Prop} {D : va_G} {cy : Nat → ClassId} {B : Nat → Nat → Nat} {ids : List (Nat × Nat)} {A : Nat → Prop}
def fX11_doHost_97 (N : Nat) (K2 : Nat → Nat → Int32 → St → Option (Int32 × St)) (K44 : Nat → Nat → Int32 → Nat → Nat → Int32 → St → Option (Int32 × St)) (x0 : Nat) (x1 : Nat) (x2 : Int32) (z : St) : Option (Int32 × St) := zl (x2 + 1) fun v1 => K2 x0 x1 v1 z
set_option maxHeartbeats 4000000 in
set_option maxRecDepth 100000 in
theorem bX11_doHost_97 (hst : zSt B ids) (F : zFx p m c cX11_doHost 6 s args RX11 D cy B ids A) (hA : ∀ q : Nat, s.heap.size ≤ q → A q) {r : Int32} {z' : St} (E : zEnd p l e rmX11_doHost s m args below meth c cX11_doHost D cy B ids A Q none z' .return_ True) {N : Nat} {K2 : Nat → Nat → Int32 → St → Option (Int32 × St)} {K44 : Nat → Nat → Int32 → Nat → Nat → Int32 → St → Option (Int32 × St)} (hK2 : ∀ (x0 : Nat) (x1 : Nat) (x2 : Int32) (hx0 : (11, x0) ∈ ids) (hx1 : (1, x1) ∈ ids) {z : St} {H : Heap} {locs : List Loc} {ls : Array Slot} (hr : zRep D cy B ids A s.heap z H locs) (hl : lv_has ls 6 [(0, .ref (B 11 x0)), (1, .ref (B 1 x1)), (2, .int x2)]), K2 x0 x1 x2 z = some (r, z') → W p l e rmX11_doHost s m args below meth c H locs 0 0 Q (F0 m 2 ls [])) (hK44 : ∀ (x0 : Nat) (x1 : Nat) (x2 : Int32) (x3 : Nat) (x4 : Nat) (x5 : Int32) (hx0 : (11, x0) ∈ ids) (hx1 : (1, x1) ∈ ids) (hx3 : (2, x3) ∈ ids) (hx4 : (3, x4) ∈ ids) {z : St} {H : Heap} {locs : List Loc} {ls : Array Slot} (hr : zRep D cy B ids A s.heap z H locs) (hl : lv_has ls 6 [(0, .ref (B 11 x0)), (1, .ref (B 1 x1)), (2, .int x2), (3, .ref (B 2 x3)), (4, .ref (B 3 x4)), (5, .int x5)]), K44 x0 x1 x2 x3 x4 x5 z = some (r, z') → W p l e rmX11_doHost s m args below meth c H locs 0 0 Q (F0 m 44 ls [])) (x0 : Nat) (x1 : Nat) (x2 : Int32) (hx0 : (11, x0) ∈ ids) (hx1 : (1, x1) ∈ ids) {z : St} {H : Heap} {locs : List Loc} {ls : Array Slot} (hr : zRep D cy B ids A s.heap z H locs) (hl : lv_has ls 6 [(0, .ref (B 11 x0)), (1, .ref (B 1 x1)), (2, .int x2)]) (h : fX11_doHost_97 N K2 K44 x0 x1 x2 z = some (r, z')) : W p l e rmX11_doHost s m args below meth c H locs 0 0 Q (F0 m 97 ls []) := by
  unfold fX11_doHost_97 at h
  obtain ⟨v1, ev1⟩ : ∃ y : Int32, y = (x2 + 1) := ⟨_, rfl⟩
  replace h := zl_sub ev1 h
  refine lv_iinc (v := v1) (lv' := [(2, .int v1), (0, .ref (B 11 x0)), (1, .ref (B 1 x1))]) F.1 F.2.1 dX11_doHost_97 hl (k := 2) rfl (by rw [ev1]; rfl) (by decide) rfl (fun ls hl => ?_)
  refine lv_goto (tgt := 2) F.1 F.2.1 dX11_doHost_100 (by decide) ?_
  exact hK2 x0 x1 v1 hx0 hx1 hr (lv_sub hl [1, 2, 0] rfl) h
def fX11_doHost_2b (N : Nat) (K2 : Nat → Nat → Int32 → St → Option (Int32 × St)) (K44 : Nat → Nat → Int32 → Nat → Nat → Int32 → St → Option (Int32 × St)) (x0 : Nat) (x1 : Nat) (x2 : Int32) (z : St) : Option (Int32 × St) := if (6) ≤ x2 then (some (0, z)) else (zk x2 (zlen z 119 x1) <| zl (zgQ z 119 x1 x2.toNatClampNeg) fun y3 => zd y3 fun a4 => if (zgI z 2 0 a4) = (2) then (zl (zgR z 2 12 a4) fun y6 => zd y6 fun a7 => zc (fX3_ring N a7 (zgI z 11 4 x0) z) fun _ z9 => K44 x0 x1 x2 a4 a7 (0) z9) else (fX11_doHost_97 N K2 K44 x0 x1 x2 z))
def fX11_doHost_2 (N : Nat) (K44 : Nat → Nat → Int32 → Nat → Nat → Int32 → St → Option (Int32 × St)) : Nat → Nat → Nat → Int32 → St → Option (Int32 × St)
  | 0 => fun _ _ _ _ => none
  | n + 1 => fX11_doHost_2b N (fX11_doHost_2 N K44 n) K44
set_option maxHeartbeats 4000000 in
set_option maxRecDepth 100000 in
theorem bX11_doHost_2 (hst : zSt B ids) (F : zFx p m c cX11_doHost 6 s args RX11 D cy B ids A) (hA : ∀ q : Nat, s.heap.size ≤ q → A q) {r : Int32} {z' : St} (E : zEnd p l e rmX11_doHost s m args below meth c cX11_doHost D cy B ids A Q none z' .return_ True) {N : Nat} {K2 : Nat → Nat → Int32 → St → Option (Int32 × St)} {K44 : Nat → Nat → Int32 → Nat → Nat → Int32 → St → Option (Int32 × St)} (hK2 : ∀ (x0 : Nat) (x1 : Nat) (x2 : Int32) (hx0 : (11, x0) ∈ ids) (hx1 : (1, x1) ∈ ids) {z : St} {H : Heap} {locs : List Loc} {ls : Array Slot} (hr : zRep D cy B ids A s.heap z H locs) (hl : lv_has ls 6 [(0, .ref (B 11 x0)), (1, .ref (B 1 x1)), (2, .int x2)]), K2 x0 x1 x2 z = some (r, z') → W p l e rmX11_doHost s m args below meth c H locs 0 0 Q (F0 m 2 ls [])) (hK44 : ∀ (x0 : Nat) (x1 : Nat) (x2 : Int32) (x3 : Nat) (x4 : Nat) (x5 : Int32) (hx0 : (11, x0) ∈ ids) (hx1 : (1, x1) ∈ ids) (hx3 : (2, x3) ∈ ids) (hx4 : (3, x4) ∈ ids) {z : St} {H : Heap} {locs : List Loc} {ls : Array Slot} (hr : zRep D cy B ids A s.heap z H locs) (hl : lv_has ls 6 [(0, .ref (B 11 x0)), (1, .ref (B 1 x1)), (2, .int x2), (3, .ref (B 2 x3)), (4, .ref (B 3 x4)), (5, .int x5)]), K44 x0 x1 x2 x3 x4 x5 z = some (r, z') → W p l e rmX11_doHost s m args below meth c H locs 0 0 Q (F0 m 44 ls [])) (x0 : Nat) (x1 : Nat) (x2 : Int32) (hx0 : (11, x0) ∈ ids) (hx1 : (1, x1) ∈ ids) {z : St} {H : Heap} {locs : List Loc} {ls : Array Slot} (hr : zRep D cy B ids A s.heap z H locs) (hl : lv_has ls 6 [(0, .ref (B 11 x0)), (1, .ref (B 1 x1)), (2, .int x2)]) (h : fX11_doHost_2b N K2 K44 x0 x1 x2 z = some (r, z')) : W p l e rmX11_doHost s m args below meth c H locs 0 0 Q (F0 m 2 ls []) := by
  unfold fX11_doHost_2b at h
  refine lv_iload_n F.1 F.2.1 dX11_doHost_2 rfl (lv_at hl 2 rfl) ?_
  refine lv_bipush (v := (6)) F.1 F.2.1 dX11_doHost_3 (by decide) ?_
  refine lv_icmp_ge (tgt := 103) F.1 F.2.1 dX11_doHost_5 (by decide) (fun c1 => ?_) (fun c1 => ?_)
  · replace h := zi_t c1 h
    obtain ⟨rfl, rfl⟩ := zret h
    exact E _ _ _ _ dX11_doHost_103 trivial hr
  · replace h := zi_f c1 h
    refine lv_aload_n F.1 F.2.1 dX11_doHost_8 rfl (lv_at hl 1 rfl) ?_
    refine gf11_220 F hx1 hr dX11_doHost_9 ?_
    refine lv_iload_n F.1 F.2.1 dX11_doHost_12 rfl (lv_at hl 2 rfl) ?_
    obtain ⟨c2, h⟩ := zk_some h
    refine zr_aaldv (k := 119) (by decide) rfl rfl rfl F (zal_a F hx1 (j := 11) rfl) hr dX11_doHost_13 c2 (fun y3 ey3 => ?_)
    replace h := zl_sub ey3 h
    have hy3 := zal_q hr (zal_a F hx1 (j := 11) rfl) rfl ey3
    clear ey3
    refine zr_astore_n (lv' := [(3, va_rf (Option.map (B 2) y3)), (0, .ref (B 11 x0)), (1, .ref (B 1 x1)), (2, .int x2)]) F.1 F.2.1 dX11_doHost_14 rfl hl (by decide) rfl (fun ls hl => ?_)
    refine zr_aload_n F.1 F.2.1 dX11_doHost_15 rfl (lv_at hl 0 rfl) ?_
    obtain ⟨a4, rfl, h⟩ := zd_some h
    refine gf11_279 F (hy3 _ rfl) hr dX11_doHost_16 ?_
    refine lv_iconst (v := (2)) F.1 F.2.1 dX11_doHost_19 (by decide) ?_
    refine lv_icmp_eq (tgt := 26) F.1 F.2.1 dX11_doHost_20 (by decide) (fun c5 => ?_) (fun c5 => ?_)
    · replace h := zi_t c5 h
      refine lv_aload_n F.1 F.2.1 dX11_doHost_26 rfl (lv_at hl 0 rfl) ?_
      refine gf11_253 F (hy3 _ rfl) hr dX11_doHost_27 (fun y6 ey6 => ?_)
      replace h := zl_sub ey6 h
      have hy6 := zal_g hr (hy3 _ rfl) (j := 12) rfl ey6
      clear ey6
      refine zr_astore (lv' := [(4, va_rf (Option.map (B 3) y6)), (3, .ref (B 2 a4)), (0, .ref (B 11 x0)), (1, .ref (B 1 x1)), (2, .int x2)]) F.1 F.2.1 dX11_doHost_30 hl (by decide) rfl (fun ls hl => ?_)
      refine zr_aload F.1 F.2.1 dX11_doHost_32 (lv_at hl 0 rfl) ?_
      refine lv_aload_n F.1 F.2.1 dX11_doHost_34 rfl (lv_at hl 2 rfl) ?_
      refine gf11_176 F hx0 hr dX11_doHost_35 ?_
      obtain ⟨a7, rfl, h⟩ := zd_some h
      obtain ⟨r8, z9, hc10, h⟩ := zc_some h
      refine zr_callv (zrun_VN (As := [.int (zgI z 11 4 x0)]) (rest := []) zn_1591 zq_1593 zs_X3_ring zq_1594 zq_13 hdX3_ring (by decide) (T := TX3) (N := 19) rfl (okX3_ring l D cy B ids hst N a7 (hy6 _ rfl) (zgI z 11 4 x0)  hr.2.2 hc10) F hr (hy6 _ rfl) hl.1 rfl (by decide) dX11_doHost_38 rfl rfl hroX11_doHost_X3_ring ⟨Nat.zero_le _, Nat.zero_le _⟩) F hA hr (fun H locs hx11 hr => ?_)
      clear hc10
      refine lv_iconst (v := (0)) F.1 F.2.1 dX11_doHost_41 (by decide) ?_
      refine lv_istore (lv' := [(5, .int (0)), (4, .ref (B 3 a7)), (3, .ref (B 2 a4)), (0, .ref (B 11 x0)), (1, .ref (B 1 x1)), (2, .int x2)]) F.1 F.2.1 dX11_doHost_42 hl (by decide) rfl (fun ls hl => ?_)
      exact hK44 x0 x1 x2 a4 a7 (0) hx0 hx1 (hy3 _ rfl) (hy6 _ rfl) hr (lv_sub hl [3, 4, 5, 2, 1, 0] rfl) h
    · replace h := zi_f c5 h
      refine lv_goto (tgt := 97) F.1 F.2.1 dX11_doHost_23 (by decide) ?_
      exact bX11_doHost_97 hst F hA E hK2 hK44 x0 x1 x2 hx0 hx1 hr (lv_sub hl [1, 2, 3] rfl) h
theorem lX11_doHost_2 (hst : zSt B ids) (F : zFx p m c cX11_doHost 6 s args RX11 D cy B ids A) (hA : ∀ q : Nat, s.heap.size ≤ q → A q) {r : Int32} {z' : St} (E : zEnd p l e rmX11_doHost s m args below meth c cX11_doHost D cy B ids A Q none z' .return_ True) {N : Nat} {K44 : Nat → Nat → Int32 → Nat → Nat → Int32 → St → Option (Int32 × St)} (hK44 : ∀ (x0 : Nat) (x1 : Nat) (x2 : Int32) (x3 : Nat) (x4 : Nat) (x5 : Int32) (hx0 : (11, x0) ∈ ids) (hx1 : (1, x1) ∈ ids) (hx3 : (2, x3) ∈ ids) (hx4 : (3, x4) ∈ ids) {z : St} {H : Heap} {locs : List Loc} {ls : Array Slot} (hr : zRep D cy B ids A s.heap z H locs) (hl : lv_has ls 6 [(0, .ref (B 11 x0)), (1, .ref (B 1 x1)), (2, .int x2), (3, .ref (B 2 x3)), (4, .ref (B 3 x4)), (5, .int x5)]), K44 x0 x1 x2 x3 x4 x5 z = some (r, z') → W p l e rmX11_doHost s m args below meth c H locs 0 0 Q (F0 m 44 ls [])) : ∀ (n : Nat) (x0 : Nat) (x1 : Nat) (x2 : Int32) (hx0 : (11, x0) ∈ ids) (hx1 : (1, x1) ∈ ids) {z : St} {H : Heap} {locs : List Loc} {ls : Array Slot} (hr : zRep D cy B ids A s.heap z H locs) (hl : lv_has ls 6 [(0, .ref (B 11 x0)), (1, .ref (B 1 x1)), (2, .int x2)]), fX11_doHost_2 N K44 n x0 x1 x2 z = some (r, z') → W p l e rmX11_doHost s m args below meth c H locs 0 0 Q (F0 m 2 ls []) := by
  intro n
  induction n with
  | zero => intro x0 x1 x2 hx0 hx1 z H locs ls hr hl h; cases h
  | succ n ih => intro x0 x1 x2 hx0 hx1 z H locs ls hr hl h; exact bX11_doHost_2 hst F hA E ih hK44 x0 x1 x2 hx0 hx1 hr hl h
def fX11_doHost (N : Nat) (K44 : Nat → Nat → Int32 → Nat → Nat → Int32 → St → Option (Int32 × St)) (x0 : Nat) (x1 : Nat) (z : St) : Option (Int32 × St) := fX11_doHost_2 N K44 N x0 x1 (0) z
set_option maxHeartbeats 4000000 in
set_option maxRecDepth 100000 in
theorem bX11_doHost_0 (hst : zSt B ids) (F : zFx p m c cX11_doHost 6 s args RX11 D cy B ids A) (hA : ∀ q : Nat, s.heap.size ≤ q → A q) {r : Int32} {z' : St} (E : zEnd p l e rmX11_doHost s m args below meth c cX11_doHost D cy B ids A Q none z' .return_ True) {N : Nat} {K44 : Nat → Nat → Int32 → Nat → Nat → Int32 → St → Option (Int32 × St)} (hK44 : ∀ (x0 : Nat) (x1 : Nat) (x2 : Int32) (x3 : Nat) (x4 : Nat) (x5 : Int32) (hx0 : (11, x0) ∈ ids) (hx1 : (1, x1) ∈ ids) (hx3 : (2, x3) ∈ ids) (hx4 : (3, x4) ∈ ids) {z : St} {H : Heap} {locs : List Loc} {ls : Array Slot} (hr : zRep D cy B ids A s.heap z H locs) (hl : lv_has ls 6 [(0, .ref (B 11 x0)), (1, .ref (B 1 x1)), (2, .int x2), (3, .ref (B 2 x3)), (4, .ref (B 3 x4)), (5, .int x5)]), K44 x0 x1 x2 x3 x4 x5 z = some (r, z') → W p l e rmX11_doHost s m args below meth c H locs 0 0 Q (F0 m 44 ls [])) (x0 : Nat) (x1 : Nat) (hx0 : (11, x0) ∈ ids) (hx1 : (1, x1) ∈ ids) {z : St} {H : Heap} {locs : List Loc} {ls : Array Slot} (hr : zRep D cy B ids A s.heap z H locs) (hl : lv_has ls 6 [(0, .ref (B 11 x0)), (1, .ref (B 1 x1))]) (h : fX11_doHost N K44 x0 x1 z = some (r, z')) : W p l e rmX11_doHost s m args below meth c H locs 0 0 Q (F0 m 0 ls []) := by
  unfold fX11_doHost at h
  refine lv_iconst (v := (0)) F.1 F.2.1 dX11_doHost_0 (by decide) ?_
  refine lv_istore_n (lv' := [(2, .int (0)), (0, .ref (B 11 x0)), (1, .ref (B 1 x1))]) F.1 F.2.1 dX11_doHost_1 rfl hl (by decide) rfl (fun ls hl => ?_)
  exact lX11_doHost_2 hst F hA E hK44 _ x0 x1 (0) hx0 hx1 hr (lv_sub hl [1, 2, 0] rfl) h
end SX11_doHost
set_option maxRecDepth 100000 in
theorem okX11_doHost (l : Launch) (D : va_G) (cy : Nat → ClassId) (B : Nat → Nat → Nat) (ids : List (Nat × Nat)) (hst : zSt B ids) (N : Nat) (x0 : Nat) (hx0 : (11, x0) ∈ ids) (x1 : Nat) (hx1 : (1, x1) ∈ ids) {z : St} {r : Int32} {z' : St} (hW : zWf ids z) (h : fX11_doHost N x0 x1 z = some (r, z')) : zM l yX11_doHost (zws yX11_doHost cX11_doHost 6 none) rmX11_doHost D cy B ids [.ref (B 11 x0), .ref (B 1 x1)] none True z z' :=
  zM_of hst hW (by decide +kernel) (Nat.le_of_ble_eq_true rfl) (fun p e s m args below meth c A ls F hA hret hlocks hr hl => bX11_doHost_0 hst F hA (zEnd_v F hret hlocks) x0 x1 hx0 hx1 hr hl h)
abbrev rmX11_abandonThrough : Room := { frames := 2, cells := 0, slots := 0, locals := 41 }
theorem hdX11_abandonThrough : yX11_abandonThrough.cls ≠ "java/lang/invoke/MethodHandle" ∧ yX11_abandonThrough.cls ≠ "java/lang/invoke/VarHandle" ∧ (parseMethodDescriptor yX11_abandonThrough.desc).map (fun d => d.parameters.length) = some 2 := by decide +kernel
theorem hroX11_abandonThrough_X3_abortByOwner : rmX3_abortByOwner.frames + 1 ≤ rmX11_abandonThrough.frames ∧ 8 + (1 + 11) + rmX3_abortByOwner.locals ≤ rmX11_abandonThrough.locals := by decide
theorem hroX11_abandonThrough_X3_isDead : rmX3_isDead.frames + 1 ≤ rmX11_abandonThrough.frames ∧ 8 + (1 + 11) + rmX3_isDead.locals ≤ rmX11_abandonThrough.locals := by decide
section SX11_abandonThrough
variable {p : Program} {l : Launch} {e : Env} {s : State} {m : MethodId} {args : Array Value} {below : List Frame} {meth : Method} {c : Code} {Q : State → Prop} {D : va_G} {cy : Nat → ClassId} {B : Nat → Nat → Nat} {ids : List (Nat × Nat)} {A : Nat → Prop}
def fX11_abandonThrough_70 (N : Nat) (K2 : Nat → Int32 → Int32 → St → Option (Int32 × St)) (x1 : Nat) (x2 : Int32) (x3 : Int32) (z : St) : Option (Int32 × St) := zl (x3 + 1) fun v1 => K2 x1 x2 v1 z
set_option maxHeartbeats 4000000 in
set_option maxRecDepth 100000 in
theorem bX11_abandonThrough_70 (hst : zSt B ids) (F : zFx p m c cX11_abandonThrough 5 s args RX11 D cy B ids A) (hA : ∀ q : Nat, s.heap.size ≤ q → A q) {r : Int32} {z' : St} (E : zEnd p l e rmX11_abandonThrough s m args below meth c cX11_abandonThrough D cy B ids A Q none z' .return_ True) {N : Nat} {K2 : Nat → Int32 → Int32 → St → Option (Int32 × St)} (hK2 : ∀ (x1 : Nat) (x2 : Int32) (x3 : Int32) (hx1 : (1, x1) ∈ ids) {z : St} {H : Heap} {locs : List Loc} {ls : Array Slot} (hr : zRep D cy B ids A s.heap z H locs) (hl : lv_has ls 5 [(1, .ref (B 1 x1)), (2, .int x2), (3, .int x3)]), K2 x1 x2 x3 z = some (r, z') → W p l e rmX11_abandonThrough s m args below meth c H locs 0 0 Q (F0 m 2 ls [])) (x1 : Nat) (x2 : Int32) (x3 : Int32) (hx1 : (1, x1) ∈ ids) {z : St} {H : Heap} {locs : List Loc} {ls : Array Slot} (hr : zRep D cy B ids A s.heap z H locs) (hl : lv_has ls 5 [(1, .ref (B 1 x1)), (2, .int x2), (3, .int x3)]) (h : fX11_abandonThrough_70 N K2 x1 x2 x3 z = some (r, z')) : W p l e rmX11_abandonThrough s m args below meth c H locs 0 0 Q (F0 m 70 ls []) := by
  unfold fX11_abandonThrough_70 at h
  obtain ⟨v1, ev1⟩ : ∃ y : Int32, y = (x3 + 1) := ⟨_, rfl⟩
  replace h := zl_sub ev1 h
  refine lv_iinc (v := v1) (lv' := [(3, .int v1), (1, .ref (B 1 x1)), (2, .int x2)]) F.1 F.2.1 dX11_abandonThrough_70 hl (k := 2) rfl (by rw [ev1]; rfl) (by decide) rfl (fun ls hl => ?_)
  refine lv_goto (tgt := 2) F.1 F.2.1 dX11_abandonThrough_73 (by decide) ?_
  exact hK2 x1 x2 v1 hx1 hr (lv_sub hl [1, 2, 0] rfl) h
def fX11_abandonThrough_2b (N : Nat) (K2 : Nat → Int32 → Int32 → St → Option (Int32 × St)) (x1 : Nat) (x2 : Int32) (x3 : Int32) (z : St) : Option (Int32 × St) := if (6) ≤ x3 then (some (0, z)) else (zk x3 (zlen z 119 x1) <| zl (zgQ z 119 x1 x3.toNatClampNeg) fun y3 => zd y3 fun a4 => if ¬ (zgI z 2 0 a4) = (2) then (fX11_abandonThrough_70 N K2 x1 x2 x3 z) else (if (zgI z 2 5 a4) = x2 then (zl (zsI z 2 5 a4 (-1)) fun z7 => if ¬ (zgI z7 2 7 a4) = 0 then (fX11_abandonThrough_70 N K2 x1 x2 x3 z7) else (zl (zgR z7 2 12 a4) fun y9 => zd y9 fun a10 => zc (fX3_isDead N a10 z7) fun r11 z12 => if ¬ r11 = 0 then (fX11_abandonThrough_70 N K2 x1 x2 x3 z12) else (zl (zgR z12 2 12 a4) fun y16 => zd y16 fun a17 => zc (fX3_abortByOwner N a17 z12) fun _ z19 => fX11_abandonThrough_70 N K2 x1 x2 x3 z19))) else (fX11_abandonThrough_70 N K2 x1 x2 x3 z)))
def fX11_abandonThrough_2 (N : Nat)  : Nat → Nat → Int32 → Int32 → St → Option (Int32 × St)
  | 0 => fun _ _ _ _ => none
  | n + 1 => fX11_abandonThrough_2b N (fX11_abandonThrough_2 N  n)
set_option maxHeartbeats 4000000 in
set_option maxRecDepth 100000 in
theorem bX11_abandonThrough_2 (hst : zSt B ids) (F : zFx p m c cX11_abandonThrough 5 s args RX11 D cy B ids A) (hA : ∀ q : Nat, s.heap.size ≤ q → A q) {r : Int32} {z' : St} (E : zEnd p l e rmX11_abandonThrough s m args below meth c cX11_abandonThrough D cy B ids A Q none z' .return_ True) {N : Nat} {K2 : Nat → Int32 → Int32 → St → Option (Int32 × St)} (hK2 : ∀ (x1 : Nat) (x2 : Int32) (x3 : Int32) (hx1 : (1, x1) ∈ ids) {z : St} {H : Heap} {locs : List Loc} {ls : Array Slot} (hr : zRep D cy B ids A s.heap z H locs) (hl : lv_has ls 5 [(1, .ref (B 1 x1)), (2, .int x2), (3, .int x3)]), K2 x1 x2 x3 z = some (r, z') → W p l e rmX11_abandonThrough s m args below meth c H locs 0 0 Q (F0 m 2 ls [])) (x1 : Nat) (x2 : Int32) (x3 : Int32) (hx1 : (1, x1) ∈ ids) {z : St} {H : Heap} {locs : List Loc} {ls : Array Slot} (hr : zRep D cy B ids A s.heap z H locs) (hl : lv_has ls 5 [(1, .ref (B 1 x1)), (2, .int x2), (3, .int x3)]) (h : fX11_abandonThrough_2b N K2 x1 x2 x3 z = some (r, z')) : W p l e rmX11_abandonThrough s m args below meth c H locs 0 0 Q (F0 m 2 ls []) := by
  unfold fX11_abandonThrough_2b at h
  refine lv_iload_n F.1 F.2.1 dX11_abandonThrough_2 rfl (lv_at hl 2 rfl) ?_
  refine lv_bipush (v := (6)) F.1 F.2.1 dX11_abandonThrough_3 (by decide) ?_
  refine lv_icmp_ge (tgt := 76) F.1 F.2.1 dX11_abandonThrough_5 (by decide) (fun c1 => ?_) (fun c1 => ?_)
  · replace h := zi_t c1 h
    obtain ⟨rfl, rfl⟩ := zret h
    exact E _ _ _ _ dX11_abandonThrough_76 trivial hr
  · replace h := zi_f c1 h
    refine lv_aload_n F.1 F.2.1 dX11_abandonThrough_8 rfl (lv_at hl 0 rfl) ?_
    refine gf11_220 F hx1 hr dX11_abandonThrough_9 ?_
    refine lv_iload_n F.1 F.2.1 dX11_abandonThrough_12 rfl (lv_at hl 2 rfl) ?_
    obtain ⟨c2, h⟩ := zk_some h
    refine zr_aaldv (k := 119) (by decide) rfl rfl rfl F (zal_a F hx1 (j := 11) rfl) hr dX11_abandonThrough_13 c2 (fun y3 ey3 => ?_)
    replace h := zl_sub ey3 h
    have hy3 := zal_q hr (zal_a F hx1 (j := 11) rfl) rfl ey3
    clear ey3
    refine zr_astore (lv' := [(4, va_rf (Option.map (B 2) y3)), (1, .ref (B 1 x1)), (2, .int x2), (3, .int x3)]) F.1 F.2.1 dX11_abandonThrough_14 hl (by decide) rfl (fun ls hl => ?_)
    refine zr_aload F.1 F.2.1 dX11_abandonThrough_16 (lv_at hl 0 rfl) ?_
    obtain ⟨a4, rfl, h⟩ := zd_some h
    refine gf11_279 F (hy3 _ rfl) hr dX11_abandonThrough_18 ?_
    refine lv_iconst (v := (2)) F.1 F.2.1 dX11_abandonThrough_21 (by decide) ?_
    refine lv_icmp_ne (tgt := 70) F.1 F.2.1 dX11_abandonThrough_22 (by decide) (fun c5 => ?_) (fun c5 => ?_)
    · replace h := zi_t c5 h
      exact bX11_abandonThrough_70 hst F hA E hK2 x1 x2 x3 hx1 hr (lv_sub hl [1, 2, 3] rfl) h
    · replace h := zi_f (fun q => q c5) h
      refine lv_aload F.1 F.2.1 dX11_abandonThrough_25 (lv_at hl 0 rfl) ?_
      refine gf11_284 F (hy3 _ rfl) hr dX11_abandonThrough_27 ?_
      refine lv_iload_n F.1 F.2.1 dX11_abandonThrough_30 rfl (lv_at hl 2 rfl) ?_
      refine lv_icmp_eq (tgt := 37) F.1 F.2.1 dX11_abandonThrough_31 (by decide) (fun c6 => ?_) (fun c6 => ?_)
      · replace h := zi_t c6 h
        refine lv_aload F.1 F.2.1 dX11_abandonThrough_37 (lv_at hl 0 rfl) ?_
        refine lv_iconst (v := (-1)) F.1 F.2.1 dX11_abandonThrough_39 (by decide) ?_
        refine pf11_284 F (hy3 _ rfl) hr dX11_abandonThrough_40 (-1) (fun H locs z7 ez7 hr => ?_)
        replace h := zl_sub ez7 h
        clear ez7
        refine lv_aload F.1 F.2.1 dX11_abandonThrough_43 (lv_at hl 0 rfl) ?_
        refine gf11_287 F (hy3 _ rfl) hr dX11_abandonThrough_45 ?_
        refine lv_if_ne (tgt := 70) F.1 F.2.1 dX11_abandonThrough_48 (by decide) (fun c8 => ?_) (fun c8 => ?_)
        · replace h := zi_t c8 h
          exact bX11_abandonThrough_70 hst F hA E hK2 x1 x2 x3 hx1 hr (lv_sub hl [1, 2, 3] rfl) h
        · replace h := zi_f (fun q => q c8) h
          refine lv_aload F.1 F.2.1 dX11_abandonThrough_51 (lv_at hl 0 rfl) ?_
          refine gf11_253 F (hy3 _ rfl) hr dX11_abandonThrough_53 (fun y9 ey9 => ?_)
          replace h := zl_sub ey9 h
          have hy9 := zal_g hr (hy3 _ rfl) (j := 12) rfl ey9
          clear ey9
          obtain ⟨a10, rfl, h⟩ := zd_some h
          obtain ⟨r11, z12, hc13, h⟩ := zc_some h
          refine zr_calli (zrun_VN (As := []) (rest := []) zn_1672 zq_1227 zs_X3_isDead zq_1228 zq_13 hdX3_isDead (by decide) (T := TX3) (N := 19) rfl (okX3_isDead l D cy B ids hst N a10 (hy9 _ rfl) hr.2.2 hc13) F hr (hy9 _ rfl) hl.1 rfl (by decide) dX11_abandonThrough_56 rfl rfl hroX11_abandonThrough_X3_isDead ⟨Nat.zero_le _, Nat.zero_le _⟩) F hA hr (fun H locs hx14 hr => ?_)
          clear hc13
          refine lv_if_ne (tgt := 70) F.1 F.2.1 dX11_abandonThrough_59 (by decide) (fun c15 => ?_) (fun c15 => ?_)
          · replace h := zi_t c15 h
            exact bX11_abandonThrough_70 hst F hA E hK2 x1 x2 x3 hx1 hr (lv_sub hl [1, 2, 3] rfl) h
          · replace h := zi_f (fun q => q c15) h
            refine lv_aload F.1 F.2.1 dX11_abandonThrough_62 (lv_at hl 0 rfl) ?_
            refine gf11_253 F (hy3 _ rfl) hr dX11_abandonThrough_64 (fun y16 ey16 => ?_)
            replace h := zl_sub ey16 h
            have hy16 := zal_g hr (hy3 _ rfl) (j := 12) rfl ey16
            clear ey16
            obtain ⟨a17, rfl, h⟩ := zd_some h
            obtain ⟨r18, z19, hc20, h⟩ := zc_some h
            refine zr_callv (zrun_VN (As := []) (rest := []) zn_1793 zq_1795 zs_X3_abortByOwner zq_1796 zq_13 hdX3_abortByOwner (by decide) (T := TX3) (N := 19) rfl (okX3_abortByOwner l D cy B ids hst N a17 (hy16 _ rfl) hr.2.2 hc20) F hr (hy16 _ rfl) hl.1 rfl (by decide) dX11_abandonThrough_67 rfl rfl hroX11_abandonThrough_X3_abortByOwner ⟨Nat.zero_le _, Nat.zero_le _⟩) F hA hr (fun H locs hx21 hr => ?_)
            clear hc20
            exact bX11_abandonThrough_70 hst F hA E hK2 x1 x2 x3 hx1 hr (lv_sub hl [1, 2, 3] rfl) h
      · replace h := zi_f c6 h
        refine lv_goto (tgt := 70) F.1 F.2.1 dX11_abandonThrough_34 (by decide) ?_
        exact bX11_abandonThrough_70 hst F hA E hK2 x1 x2 x3 hx1 hr (lv_sub hl [1, 2, 3] rfl) h
theorem lX11_abandonThrough_2 (hst : zSt B ids) (F : zFx p m c cX11_abandonThrough 5 s args RX11 D cy B ids A) (hA : ∀ q : Nat, s.heap.size ≤ q → A q) {r : Int32} {z' : St} (E : zEnd p l e rmX11_abandonThrough s m args below meth c cX11_abandonThrough D cy B ids A Q none z' .return_ True) {N : Nat}  : ∀ (n : Nat) (x1 : Nat) (x2 : Int32) (x3 : Int32) (hx1 : (1, x1) ∈ ids) {z : St} {H : Heap} {locs : List Loc} {ls : Array Slot} (hr : zRep D cy B ids A s.heap z H locs) (hl : lv_has ls 5 [(1, .ref (B 1 x1)), (2, .int x2), (3, .int x3)]), fX11_abandonThrough_2 N  n x1 x2 x3 z = some (r, z') → W p l e rmX11_abandonThrough s m args below meth c H locs 0 0 Q (F0 m 2 ls []) := by
  intro n
  induction n with
  | zero => intro x1 x2 x3 hx1 z H locs ls hr hl h; cases h
  | succ n ih => intro x1 x2 x3 hx1 z H locs ls hr hl h; exact bX11_abandonThrough_2 hst F hA E ih x1 x2 x3 hx1 hr hl h
def fX11_abandonThrough (N : Nat)  (x0 : Nat) (x1 : Nat) (x2 : Int32) (z : St) : Option (Int32 × St) := fX11_abandonThrough_2 N N x1 x2 (0) z
set_option maxHeartbeats 4000000 in
set_option maxRecDepth 100000 in
theorem bX11_abandonThrough_0 (hst : zSt B ids) (F : zFx p m c cX11_abandonThrough 5 s args RX11 D cy B ids A) (hA : ∀ q : Nat, s.heap.size ≤ q → A q) {r : Int32} {z' : St} (E : zEnd p l e rmX11_abandonThrough s m args below meth c cX11_abandonThrough D cy B ids A Q none z' .return_ True) {N : Nat}  (x0 : Nat) (x1 : Nat) (x2 : Int32) (hx0 : (11, x0) ∈ ids) (hx1 : (1, x1) ∈ ids) {z : St} {H : Heap} {locs : List Loc} {ls : Array Slot} (hr : zRep D cy B ids A s.heap z H locs) (hl : lv_has ls 5 [(0, .ref (B 11 x0)), (1, .ref (B 1 x1)), (2, .int x2)]) (h : fX11_abandonThrough N x0 x1 x2 z = some (r, z')) : W p l e rmX11_abandonThrough s m args below meth c H locs 0 0 Q (F0 m 0 ls []) := by
  unfold fX11_abandonThrough at h
  refine lv_iconst (v := (0)) F.1 F.2.1 dX11_abandonThrough_0 (by decide) ?_
  refine lv_istore_n (lv' := [(3, .int (0)), (0, .ref (B 11 x0)), (1, .ref (B 1 x1)), (2, .int x2)]) F.1 F.2.1 dX11_abandonThrough_1 rfl hl (by decide) rfl (fun ls hl => ?_)
  exact lX11_abandonThrough_2 hst F hA E  _ x1 x2 (0) hx1 hr (lv_sub hl [2, 3, 0] rfl) h
end SX11_abandonThrough
set_option maxRecDepth 100000 in
theorem okX11_abandonThrough (l : Launch) (D : va_G) (cy : Nat → ClassId) (B : Nat → Nat → Nat) (ids : List (Nat × Nat)) (hst : zSt B ids) (N : Nat) (x0 : Nat) (hx0 : (11, x0) ∈ ids) (x1 : Nat) (hx1 : (1, x1) ∈ ids) (x2 : Int32) {z : St} {r : Int32} {z' : St} (hW : zWf ids z) (h : fX11_abandonThrough N x0 x1 x2 z = some (r, z')) : zM l yX11_abandonThrough (zws yX11_abandonThrough cX11_abandonThrough 5 none) rmX11_abandonThrough D cy B ids [.ref (B 11 x0), .ref (B 1 x1), .int x2] none True z z' :=
  zM_of hst hW (by decide +kernel) (Nat.le_of_ble_eq_true rfl) (fun p e s m args below meth c A ls F hA hret hlocks hr hl => bX11_abandonThrough_0 hst F hA (zEnd_v F hret hlocks) x0 x1 x2 hx0 hx1 hr hl h)
abbrev rmX11_wroteTo : Room := { frames := 2, cells := 0, slots := 0, locals := 41 }
theorem hdX11_wroteTo : yX11_wroteTo.cls ≠ "java/lang/invoke/MethodHandle" ∧ yX11_wroteTo.cls ≠ "java/lang/invoke/VarHandle" ∧ (parseMethodDescriptor yX11_wroteTo.desc).map (fun d => d.parameters.length) = some 1 := by decide +kernel
theorem hroX11_wroteTo_X11_stir : rmX11_stir.frames + 1 ≤ rmX11_wroteTo.frames ∧ 8 + (1 + 11) + rmX11_stir.locals ≤ rmX11_wroteTo.locals := by decide
theorem hroX11_wroteTo_X3_armProbe : rmX3_armProbe.frames + 1 ≤ rmX11_wroteTo.frames ∧ 8 + (2 + 11) + rmX3_armProbe.locals ≤ rmX11_wroteTo.locals := by decide
section SX11_wroteTo
variable {p : Program} {l : Launch} {e : Env} {s : State} {m : MethodId} {args : Array Value} {below : List Frame} {meth : Method} {c : Code} {Q : State → Prop} {D : va_G} {cy : Nat → ClassId} {B : Nat → Nat → Nat} {ids : List (Nat × Nat)} {A : Nat → Prop}
def fX11_wroteTo (N : Nat)  (x0 : Nat) (x1 : Nat) (z : St) : Option (Int32 × St) := zl (zgR z 2 12 x1) fun y1 => zd y1 fun a2 => zc (fX3_armProbe N a2 (zgI z 11 4 x0) z) fun _ z4 => zc (fX11_stir N x0 z4) fun _ z8 => some (0, z8)
set_option maxHeartbeats 4000000 in
set_option maxRecDepth 100000 in
theorem bX11_wroteTo_0 (hst : zSt B ids) (F : zFx p m c cX11_wroteTo 2 s args RX11 D cy B ids A) (hA : ∀ q : Nat, s.heap.size ≤ q → A q) {r : Int32} {z' : St} (E : zEnd p l e rmX11_wroteTo s m args below meth c cX11_wroteTo D cy B ids A Q none z' .return_ True) {N : Nat}  (x0 : Nat) (x1 : Nat) (hx0 : (11, x0) ∈ ids) (hx1 : (2, x1) ∈ ids) {z : St} {H : Heap} {locs : List Loc} {ls : Array Slot} (hr : zRep D cy B ids A s.heap z H locs) (hl : lv_has ls 2 [(0, .ref (B 11 x0)), (1, .ref (B 2 x1))]) (h : fX11_wroteTo N x0 x1 z = some (r, z')) : W p l e rmX11_wroteTo s m args below meth c H locs 0 0 Q (F0 m 0 ls []) := by
  unfold fX11_wroteTo at h
  refine lv_aload_n F.1 F.2.1 dX11_wroteTo_0 rfl (lv_at hl 1 rfl) ?_
  refine gf11_253 F hx1 hr dX11_wroteTo_1 (fun y1 ey1 => ?_)
  replace h := zl_sub ey1 h
  have hy1 := zal_g hr hx1 (j := 12) rfl ey1
  clear ey1
  refine lv_aload_n F.1 F.2.1 dX11_wroteTo_4 rfl (lv_at hl 0 rfl) ?_
  refine gf11_176 F hx0 hr dX11_wroteTo_5 ?_
  obtain ⟨a2, rfl, h⟩ := zd_some h
  obtain ⟨r3, z4, hc5, h⟩ := zc_some h
  refine zr_callv (zrun_VN (As := [.int (zgI z 11 4 x0)]) (rest := []) zn_1668 zq_1670 zs_X3_armProbe zq_1671 zq_13 hdX3_armProbe (by decide) (T := TX3) (N := 19) rfl (okX3_armProbe l D cy B ids hst N a2 (hy1 _ rfl) (zgI z 11 4 x0)  hr.2.2 hc5) F hr (hy1 _ rfl) hl.1 rfl (by decide) dX11_wroteTo_8 rfl rfl hroX11_wroteTo_X3_armProbe ⟨Nat.zero_le _, Nat.zero_le _⟩) F hA hr (fun H locs hx6 hr => ?_)
  clear hc5
  refine lv_aload_n F.1 F.2.1 dX11_wroteTo_11 rfl (lv_at hl 0 rfl) ?_
  obtain ⟨r7, z8, hc9, h⟩ := zc_some h
  refine zr_callv (zrun_V (As := []) (rest := []) zq_858 zq_860 zs_X11_stir zq_861 zq_1 hdX11_stir (by decide) (T := TX11) (N := 21) rfl (okX11_stir l D cy B ids hst N x0 hx0 hr.2.2 hc9) F hr hx0 hl.1 rfl (by decide) dX11_wroteTo_12 rfl rfl hroX11_wroteTo_X11_stir ⟨Nat.zero_le _, Nat.zero_le _⟩) F hA hr (fun H locs hx10 hr => ?_)
  clear hc9
  obtain ⟨rfl, rfl⟩ := zret h
  exact E _ _ _ _ dX11_wroteTo_15 trivial hr
end SX11_wroteTo
set_option maxRecDepth 100000 in
theorem okX11_wroteTo (l : Launch) (D : va_G) (cy : Nat → ClassId) (B : Nat → Nat → Nat) (ids : List (Nat × Nat)) (hst : zSt B ids) (N : Nat) (x0 : Nat) (hx0 : (11, x0) ∈ ids) (x1 : Nat) (hx1 : (2, x1) ∈ ids) {z : St} {r : Int32} {z' : St} (hW : zWf ids z) (h : fX11_wroteTo N x0 x1 z = some (r, z')) : zM l yX11_wroteTo (zws yX11_wroteTo cX11_wroteTo 2 none) rmX11_wroteTo D cy B ids [.ref (B 11 x0), .ref (B 2 x1)] none True z z' :=
  zM_of hst hW (by decide +kernel) (Nat.le_of_ble_eq_true rfl) (fun p e s m args below meth c A ls F hA hret hlocks hr hl => bX11_wroteTo_0 hst F hA (zEnd_v F hret hlocks) x0 x1 hx0 hx1 hr hl h)
abbrev rmX11_noteWriting : Room := { frames := 0, cells := 0, slots := 0, locals := 0 }
theorem hdX11_noteWriting : yX11_noteWriting.cls ≠ "java/lang/invoke/MethodHandle" ∧ yX11_noteWriting.cls ≠ "java/lang/invoke/VarHandle" ∧ (parseMethodDescriptor yX11_noteWriting.desc).map (fun d => d.parameters.length) = some 3 := by decide +kernel
section SX11_noteWriting
variable {p : Program} {l : Launch} {e : Env} {s : State} {m : MethodId} {args : Array Value} {below : List Frame} {meth : Method} {c : Code} {Q : State → Prop} {D : va_G} {cy : Nat → ClassId} {B : Nat → Nat → Nat} {ids : List (Nat × Nat)} {A : Nat → Prop}
def fX11_noteWriting (N : Nat)  (x0 : Nat) (x1 : Nat) (x2 : Int32) (x3 : Int64) (z : St) : Option (Int32 × St) := if (zgI z 11 19 x0) < (512) then (zk (zgI z 11 19 x0) 512 <| zl (zsA z 143 x0 (zgI z 11 19 x0).toNatClampNeg (zgI z 3 14 x1)) fun z3 => zk (zgI z3 11 19 x0) 512 <| zl (zsA z3 144 x0 (zgI z3 11 19 x0).toNatClampNeg x2) fun z5 => zk (zgI z5 11 19 x0) 512 <| zl (zsL z5 145 x0 (zgI z5 11 19 x0).toNatClampNeg x3) fun z7 => zl (zsI z7 11 19 x0 ((zgI z7 11 19 x0) + (1))) fun z8 => some (0, z8)) else (some (0, z))
set_option maxHeartbeats 4000000 in
set_option maxRecDepth 100000 in
theorem bX11_noteWriting_0 (hst : zSt B ids) (F : zFx p m c cX11_noteWriting 5 s args RX11 D cy B ids A) (hA : ∀ q : Nat, s.heap.size ≤ q → A q) {r : Int32} {z' : St} (E : zEnd p l e rmX11_noteWriting s m args below meth c cX11_noteWriting D cy B ids A Q none z' .return_ True) {N : Nat}  (x0 : Nat) (x1 : Nat) (x2 : Int32) (x3 : Int64) (hx0 : (11, x0) ∈ ids) (hx1 : (3, x1) ∈ ids) {z : St} {H : Heap} {locs : List Loc} {ls : Array Slot} (hr : zRep D cy B ids A s.heap z H locs) (hl : lv_has ls 5 [(0, .ref (B 11 x0)), (1, .ref (B 3 x1)), (2, .int x2), (3, .long x3)]) (h : fX11_noteWriting N x0 x1 x2 x3 z = some (r, z')) : W p l e rmX11_noteWriting s m args below meth c H locs 0 0 Q (F0 m 0 ls []) := by
  unfold fX11_noteWriting at h
  refine lv_aload_n F.1 F.2.1 dX11_noteWriting_0 rfl (lv_at hl 0 rfl) ?_
  refine gf11_899 F hx0 hr dX11_noteWriting_1 ?_
  refine lv_sipush (v := (512)) F.1 F.2.1 dX11_noteWriting_4 (by decide) ?_
  refine lv_icmp_lt (tgt := 11) F.1 F.2.1 dX11_noteWriting_7 (by decide) (fun c1 => ?_) (fun c1 => ?_)
  · replace h := zi_t c1 h
    refine lv_aload_n F.1 F.2.1 dX11_noteWriting_11 rfl (lv_at hl 0 rfl) ?_
    refine gf11_38 F hx0 hr dX11_noteWriting_12 ?_
    refine lv_aload_n F.1 F.2.1 dX11_noteWriting_15 rfl (lv_at hl 0 rfl) ?_
    refine gf11_899 F hx0 hr dX11_noteWriting_16 ?_
    refine lv_aload_n F.1 F.2.1 dX11_noteWriting_19 rfl (lv_at hl 1 rfl) ?_
    refine gf11_847 F hx1 hr dX11_noteWriting_20 ?_
    obtain ⟨c2, h⟩ := zk_some h
    refine zr_iast (k := 143) (by decide) rfl (by decide) F (zal_a F hx0 (j := 16) rfl) hr dX11_noteWriting_23 c2 (fun H locs z3 ez3 hr => ?_)
    replace h := zl_sub ez3 h
    clear ez3
    refine lv_aload_n F.1 F.2.1 dX11_noteWriting_24 rfl (lv_at hl 0 rfl) ?_
    refine gf11_42 F hx0 hr dX11_noteWriting_25 ?_
    refine lv_aload_n F.1 F.2.1 dX11_noteWriting_28 rfl (lv_at hl 0 rfl) ?_
    refine gf11_899 F hx0 hr dX11_noteWriting_29 ?_
    refine lv_iload_n F.1 F.2.1 dX11_noteWriting_32 rfl (lv_at hl 2 rfl) ?_
    obtain ⟨c4, h⟩ := zk_some h
    refine zr_iast (k := 144) (by decide) rfl (by decide) F (zal_a F hx0 (j := 17) rfl) hr dX11_noteWriting_33 c4 (fun H locs z5 ez5 hr => ?_)
    replace h := zl_sub ez5 h
    clear ez5
    refine lv_aload_n F.1 F.2.1 dX11_noteWriting_34 rfl (lv_at hl 0 rfl) ?_
    refine gf11_45 F hx0 hr dX11_noteWriting_35 ?_
    refine lv_aload_n F.1 F.2.1 dX11_noteWriting_38 rfl (lv_at hl 0 rfl) ?_
    refine gf11_899 F hx0 hr dX11_noteWriting_39 ?_
    refine lv_lload_n F.1 F.2.1 dX11_noteWriting_42 rfl (lv_at hl 3 rfl) ?_
    obtain ⟨c6, h⟩ := zk_some h
    refine zr_last (k := 145) (by decide) rfl (by decide) F (zal_a F hx0 (j := 18) rfl) hr dX11_noteWriting_43 c6 (fun H locs z7 ez7 hr => ?_)
    replace h := zl_sub ez7 h
    clear ez7
    refine lv_aload_n F.1 F.2.1 dX11_noteWriting_44 rfl (lv_at hl 0 rfl) ?_
    refine lv_dup F.1 F.2.1 dX11_noteWriting_45 rfl ?_
    refine gf11_899 F hx0 hr dX11_noteWriting_46 ?_
    refine lv_iconst (v := (1)) F.1 F.2.1 dX11_noteWriting_49 (by decide) ?_
    refine lv_iadd F.1 F.2.1 dX11_noteWriting_50 ?_
    refine pf11_899 F hx0 hr dX11_noteWriting_51 ((zgI z7 11 19 x0) + (1)) (fun H locs z8 ez8 hr => ?_)
    replace h := zl_sub ez8 h
    clear ez8
    obtain ⟨rfl, rfl⟩ := zret h
    exact E _ _ _ _ dX11_noteWriting_54 trivial hr
  · replace h := zi_f c1 h
    obtain ⟨rfl, rfl⟩ := zret h
    exact E _ _ _ _ dX11_noteWriting_10 trivial hr
end SX11_noteWriting
set_option maxRecDepth 100000 in
theorem okX11_noteWriting (l : Launch) (D : va_G) (cy : Nat → ClassId) (B : Nat → Nat → Nat) (ids : List (Nat × Nat)) (hst : zSt B ids) (N : Nat) (x0 : Nat) (hx0 : (11, x0) ∈ ids) (x1 : Nat) (hx1 : (3, x1) ∈ ids) (x2 : Int32) (x3 : Int64) {z : St} {r : Int32} {z' : St} (hW : zWf ids z) (h : fX11_noteWriting N x0 x1 x2 x3 z = some (r, z')) : zM l yX11_noteWriting (zws yX11_noteWriting cX11_noteWriting 5 none) rmX11_noteWriting D cy B ids [.ref (B 11 x0), .ref (B 3 x1), .int x2, .long x3] none True z z' :=
  zM_of hst hW (by decide +kernel) (Nat.le_of_ble_eq_true rfl) (fun p e s m args below meth c A ls F hA hret hlocks hr hl => bX11_noteWriting_0 hst F hA (zEnd_v F hret hlocks) x0 x1 x2 x3 hx0 hx1 hr hl h)
abbrev rmX14_begin : Room := { frames := 0, cells := 0, slots := 0, locals := 0 }
theorem hdX14_begin : yX14_begin.cls ≠ "java/lang/invoke/MethodHandle" ∧ yX14_begin.cls ≠ "java/lang/invoke/VarHandle" ∧ (parseMethodDescriptor yX14_begin.desc).map (fun d => d.parameters.length) = some 2 := by decide +kernel
section SX14_begin
variable {p : Program} {l : Launch} {e : Env} {s : State} {m : MethodId} {args : Array Value} {below : List Frame} {meth : Method} {c : Code} {Q : State → Prop} {D : va_G} {cy : Nat → ClassId} {B : Nat → Nat → Nat} {ids : List (Nat × Nat)} {A : Nat → Prop}
def fX14_begin_79b (N : Nat) (K79 : Nat → Int32 → St → Option (Int32 × St)) (x0 : Nat) (x3 : Int32) (z : St) : Option (Int32 × St) := if (2048) ≤ x3 then (zl (zsI z 14 21 x0 (0)) fun z2 => zl (zsI z2 14 22 x0 (0)) fun z3 => zl (zsI z3 14 23 x0 (0)) fun z4 => zl (zsI z4 14 28 x0 (0)) fun z5 => zl (zsI z5 14 29 x0 (0)) fun z6 => zl (zsI z6 14 30 x0 (0)) fun z7 => zl (zsI z7 14 31 x0 (0)) fun z8 => zl (zsI z8 14 32 x0 (0)) fun z9 => zl (zsI z9 14 33 x0 (0)) fun z10 => zl (zsI z10 14 35 x0 (60)) fun z11 => zl (zsI z11 14 36 x0 (0)) fun z12 => zl (zsI z12 14 37 x0 (0)) fun z13 => zl (zsI z13 14 40 x0 (0)) fun z14 => zl (zsI z14 14 41 x0 (0)) fun z15 => zl (zsI z15 14 42 x0 (0)) fun z16 => zl (zsI z16 14 46 x0 (0)) fun z17 => some (0, z17)) else (zk x3 2048 <| zl (zsA z 161 x0 x3.toNatClampNeg (vp_nar .boolean (0))) fun z19 => zl (x3 + 1) fun v20 => K79 x0 v20 z19)
def fX14_begin_79 (N : Nat)  : Nat → Nat → Int32 → St → Option (Int32 × St)
  | 0 => fun _ _ _ => none
  | n + 1 => fX14_begin_79b N (fX14_begin_79 N  n)
set_option maxHeartbeats 4000000 in
set_option maxRecDepth 100000 in
theorem bX14_begin_79 (hst : zSt B ids) (F : zFx p m c cX14_begin 4 s args RX14 D cy B ids A) (hA : ∀ q : Nat, s.heap.size ≤ q → A q) {r : Int32} {z' : St} (E : zEnd p l e rmX14_begin s m args below meth c cX14_begin D cy B ids A Q none z' .return_ True) {N : Nat} {K79 : Nat → Int32 → St → Option (Int32 × St)} (hK79 : ∀ (x0 : Nat) (x3 : Int32) (hx0 : (14, x0) ∈ ids) {z : St} {H : Heap} {locs : List Loc} {ls : Array Slot} (hr : zRep D cy B ids A s.heap z H locs) (hl : lv_has ls 4 [(0, .ref (B 14 x0)), (3, .int x3)]), K79 x0 x3 z = some (r, z') → W p l e rmX14_begin s m args below meth c H locs 0 0 Q (F0 m 79 ls [])) (x0 : Nat) (x3 : Int32) (hx0 : (14, x0) ∈ ids) {z : St} {H : Heap} {locs : List Loc} {ls : Array Slot} (hr : zRep D cy B ids A s.heap z H locs) (hl : lv_has ls 4 [(0, .ref (B 14 x0)), (3, .int x3)]) (h : fX14_begin_79b N K79 x0 x3 z = some (r, z')) : W p l e rmX14_begin s m args below meth c H locs 0 0 Q (F0 m 79 ls []) := by
  unfold fX14_begin_79b at h
  refine lv_iload_n F.1 F.2.1 dX14_begin_79 rfl (lv_at hl 1 rfl) ?_
  refine lv_sipush (v := (2048)) F.1 F.2.1 dX14_begin_80 (by decide) ?_
  refine lv_icmp_ge (tgt := 99) F.1 F.2.1 dX14_begin_83 (by decide) (fun c1 => ?_) (fun c1 => ?_)
  · replace h := zi_t c1 h
    refine lv_aload_n F.1 F.2.1 dX14_begin_99 rfl (lv_at hl 0 rfl) ?_
    refine lv_iconst (v := (0)) F.1 F.2.1 dX14_begin_100 (by decide) ?_
    refine pf14_75 F hx0 hr dX14_begin_101 (0) (by decide) (fun H locs z2 ez2 hr => ?_)
    replace h := zl_sub ez2 h
    clear ez2
    refine lv_aload_n F.1 F.2.1 dX14_begin_104 rfl (lv_at hl 0 rfl) ?_
    refine lv_iconst (v := (0)) F.1 F.2.1 dX14_begin_105 (by decide) ?_
    refine pf14_78 F hx0 hr dX14_begin_106 (0) (fun H locs z3 ez3 hr => ?_)
    replace h := zl_sub ez3 h
    clear ez3
    refine lv_aload_n F.1 F.2.1 dX14_begin_109 rfl (lv_at hl 0 rfl) ?_
    refine lv_iconst (v := (0)) F.1 F.2.1 dX14_begin_110 (by decide) ?_
    refine pf14_81 F hx0 hr dX14_begin_111 (0) (by decide) (fun H locs z4 ez4 hr => ?_)
    replace h := zl_sub ez4 h
    clear ez4
    refine lv_aload_n F.1 F.2.1 dX14_begin_114 rfl (lv_at hl 0 rfl) ?_
    refine lv_iconst (v := (0)) F.1 F.2.1 dX14_begin_115 (by decide) ?_
    refine pf14_84 F hx0 hr dX14_begin_116 (0) (by decide) (fun H locs z5 ez5 hr => ?_)
    replace h := zl_sub ez5 h
    clear ez5
    refine lv_aload_n F.1 F.2.1 dX14_begin_119 rfl (lv_at hl 0 rfl) ?_
    refine lv_iconst (v := (0)) F.1 F.2.1 dX14_begin_120 (by decide) ?_
    refine pf14_87 F hx0 hr dX14_begin_121 (0) (by decide) (fun H locs z6 ez6 hr => ?_)
    replace h := zl_sub ez6 h
    clear ez6
    refine lv_aload_n F.1 F.2.1 dX14_begin_124 rfl (lv_at hl 0 rfl) ?_
    refine lv_iconst (v := (0)) F.1 F.2.1 dX14_begin_125 (by decide) ?_
    refine pf14_90 F hx0 hr dX14_begin_126 (0) (by decide) (fun H locs z7 ez7 hr => ?_)
    replace h := zl_sub ez7 h
    clear ez7
    refine lv_aload_n F.1 F.2.1 dX14_begin_129 rfl (lv_at hl 0 rfl) ?_
    refine lv_iconst (v := (0)) F.1 F.2.1 dX14_begin_130 (by decide) ?_
    refine pf14_93 F hx0 hr dX14_begin_131 (0) (by decide) (fun H locs z8 ez8 hr => ?_)
    replace h := zl_sub ez8 h
    clear ez8
    refine lv_aload_n F.1 F.2.1 dX14_begin_134 rfl (lv_at hl 0 rfl) ?_
    refine lv_iconst (v := (0)) F.1 F.2.1 dX14_begin_135 (by decide) ?_
    refine pf14_96 F hx0 hr dX14_begin_136 (0) (by decide) (fun H locs z9 ez9 hr => ?_)
    replace h := zl_sub ez9 h
    clear ez9
    refine lv_aload_n F.1 F.2.1 dX14_begin_139 rfl (lv_at hl 0 rfl) ?_
    refine lv_iconst (v := (0)) F.1 F.2.1 dX14_begin_140 (by decide) ?_
    refine pf14_99 F hx0 hr dX14_begin_141 (0) (by decide) (fun H locs z10 ez10 hr => ?_)
    replace h := zl_sub ez10 h
    clear ez10
    refine lv_aload_n F.1 F.2.1 dX14_begin_144 rfl (lv_at hl 0 rfl) ?_
    refine lv_bipush (v := (60)) F.1 F.2.1 dX14_begin_145 (by decide) ?_
    refine pf14_102 F hx0 hr dX14_begin_147 (60) (fun H locs z11 ez11 hr => ?_)
    replace h := zl_sub ez11 h
    clear ez11
    refine lv_aload_n F.1 F.2.1 dX14_begin_150 rfl (lv_at hl 0 rfl) ?_
    refine lv_iconst (v := (0)) F.1 F.2.1 dX14_begin_151 (by decide) ?_
    refine pf14_105 F hx0 hr dX14_begin_152 (0) (fun H locs z12 ez12 hr => ?_)
    replace h := zl_sub ez12 h
    clear ez12
    refine lv_aload_n F.1 F.2.1 dX14_begin_155 rfl (lv_at hl 0 rfl) ?_
    refine lv_iconst (v := (0)) F.1 F.2.1 dX14_begin_156 (by decide) ?_
    refine pf14_108 F hx0 hr dX14_begin_157 (0) (by decide) (fun H locs z13 ez13 hr => ?_)
    replace h := zl_sub ez13 h
    clear ez13
    refine lv_aload_n F.1 F.2.1 dX14_begin_160 rfl (lv_at hl 0 rfl) ?_
    refine lv_iconst (v := (0)) F.1 F.2.1 dX14_begin_161 (by decide) ?_
    refine pf14_111 F hx0 hr dX14_begin_162 (0) (by decide) (fun H locs z14 ez14 hr => ?_)
    replace h := zl_sub ez14 h
    clear ez14
    refine lv_aload_n F.1 F.2.1 dX14_begin_165 rfl (lv_at hl 0 rfl) ?_
    refine lv_iconst (v := (0)) F.1 F.2.1 dX14_begin_166 (by decide) ?_
    refine pf14_114 F hx0 hr dX14_begin_167 (0) (fun H locs z15 ez15 hr => ?_)
    replace h := zl_sub ez15 h
    clear ez15
    refine lv_aload_n F.1 F.2.1 dX14_begin_170 rfl (lv_at hl 0 rfl) ?_
    refine lv_iconst (v := (0)) F.1 F.2.1 dX14_begin_171 (by decide) ?_
    refine pf14_117 F hx0 hr dX14_begin_172 (0) (fun H locs z16 ez16 hr => ?_)
    replace h := zl_sub ez16 h
    clear ez16
    refine lv_aload_n F.1 F.2.1 dX14_begin_175 rfl (lv_at hl 0 rfl) ?_
    refine lv_iconst (v := (0)) F.1 F.2.1 dX14_begin_176 (by decide) ?_
    refine pf14_120 F hx0 hr dX14_begin_177 (0) (fun H locs z17 ez17 hr => ?_)
    replace h := zl_sub ez17 h
    clear ez17
    obtain ⟨rfl, rfl⟩ := zret h
    exact E _ _ _ _ dX14_begin_180 trivial hr
  · replace h := zi_f c1 h
    refine lv_aload_n F.1 F.2.1 dX14_begin_86 rfl (lv_at hl 0 rfl) ?_
    refine gf14_18 F hx0 hr dX14_begin_87 ?_
    refine lv_iload_n F.1 F.2.1 dX14_begin_90 rfl (lv_at hl 1 rfl) ?_
    refine lv_iconst (v := (0)) F.1 F.2.1 dX14_begin_91 (by decide) ?_
    obtain ⟨c18, h⟩ := zk_some h
    refine zr_zast (k := 161) (by decide) rfl (by decide) F (zal_a F hx0 (j := 20) rfl) hr dX14_begin_92 c18 (fun H locs z19 ez19 hr => ?_)
    replace h := zl_sub ez19 h
    clear ez19
    obtain ⟨v20, ev20⟩ : ∃ y : Int32, y = (x3 + 1) := ⟨_, rfl⟩
    replace h := zl_sub ev20 h
    refine lv_iinc (v := v20) (lv' := [(3, .int v20), (0, .ref (B 14 x0))]) F.1 F.2.1 dX14_begin_93 hl (k := 1) rfl (by rw [ev20]; rfl) (by decide) rfl (fun ls hl => ?_)
    refine lv_goto (tgt := 79) F.1 F.2.1 dX14_begin_96 (by decide) ?_
    exact hK79 x0 v20 hx0 hr (lv_sub hl [1, 0] rfl) h
theorem lX14_begin_79 (hst : zSt B ids) (F : zFx p m c cX14_begin 4 s args RX14 D cy B ids A) (hA : ∀ q : Nat, s.heap.size ≤ q → A q) {r : Int32} {z' : St} (E : zEnd p l e rmX14_begin s m args below meth c cX14_begin D cy B ids A Q none z' .return_ True) {N : Nat}  : ∀ (n : Nat) (x0 : Nat) (x3 : Int32) (hx0 : (14, x0) ∈ ids) {z : St} {H : Heap} {locs : List Loc} {ls : Array Slot} (hr : zRep D cy B ids A s.heap z H locs) (hl : lv_has ls 4 [(0, .ref (B 14 x0)), (3, .int x3)]), fX14_begin_79 N  n x0 x3 z = some (r, z') → W p l e rmX14_begin s m args below meth c H locs 0 0 Q (F0 m 79 ls []) := by
  intro n
  induction n with
  | zero => intro x0 x3 hx0 z H locs ls hr hl h; cases h
  | succ n ih => intro x0 x3 hx0 z H locs ls hr hl h; exact bX14_begin_79 hst F hA E ih x0 x3 hx0 hr hl h
def fX14_begin (N : Nat)  (x0 : Nat) (x1 : Int32) (x2 : Int32) (z : St) : Option (Int32 × St) := zl (zsI z 14 0 x0 (0)) fun z1 => zl (zsI z1 14 1 x0 (0)) fun z2 => zl (zsI z2 14 5 x0 x1) fun z3 => zl (zsI z3 14 14 x0 x2) fun z4 => zl (zsI z4 14 15 x0 x2) fun z5 => zl (zsI z5 14 6 x0 x1) fun z6 => zl (zsI z6 14 7 x0 x1) fun z7 => zl (zsI z7 14 8 x0 (x1 + (1))) fun z8 => zl (zsI z8 14 9 x0 (0)) fun z9 => zl (zsI z9 14 11 x0 (0)) fun z10 => zl (zsI z10 14 12 x0 (0)) fun z11 => zl (zsI z11 14 13 x0 (0)) fun z12 => zl (zsI z12 14 16 x0 (0)) fun z13 => zl (zsI z13 14 17 x0 (0)) fun z14 => zl (zsI z14 14 18 x0 (0)) fun z15 => fX14_begin_79 N N x0 (0) z15
set_option maxHeartbeats 4000000 in
set_option maxRecDepth 100000 in
theorem bX14_begin_0 (hst : zSt B ids) (F : zFx p m c cX14_begin 4 s args RX14 D cy B ids A) (hA : ∀ q : Nat, s.heap.size ≤ q → A q) {r : Int32} {z' : St} (E : zEnd p l e rmX14_begin s m args below meth c cX14_begin D cy B ids A Q none z' .return_ True) {N : Nat}  (x0 : Nat) (x1 : Int32) (x2 : Int32) (hx0 : (14, x0) ∈ ids) {z : St} {H : Heap} {locs : List Loc} {ls : Array Slot} (hr : zRep D cy B ids A s.heap z H locs) (hl : lv_has ls 4 [(0, .ref (B 14 x0)), (1, .int x1), (2, .int x2)]) (h : fX14_begin N x0 x1 x2 z = some (r, z')) : W p l e rmX14_begin s m args below meth c H locs 0 0 Q (F0 m 0 ls []) := by
  unfold fX14_begin at h
  refine lv_aload_n F.1 F.2.1 dX14_begin_0 rfl (lv_at hl 0 rfl) ?_
  refine lv_iconst (v := (0)) F.1 F.2.1 dX14_begin_1 (by decide) ?_
  refine pf14_29 F hx0 hr dX14_begin_2 (0) (fun H locs z1 ez1 hr => ?_)
  replace h := zl_sub ez1 h
  clear ez1
  refine lv_aload_n F.1 F.2.1 dX14_begin_5 rfl (lv_at hl 0 rfl) ?_
  refine lv_iconst (v := (0)) F.1 F.2.1 dX14_begin_6 (by decide) ?_
  refine pf14_32 F hx0 hr dX14_begin_7 (0) (by decide) (fun H locs z2 ez2 hr => ?_)
  replace h := zl_sub ez2 h
  clear ez2
  refine lv_aload_n F.1 F.2.1 dX14_begin_10 rfl (lv_at hl 0 rfl) ?_
  refine lv_iload_n F.1 F.2.1 dX14_begin_11 rfl (lv_at hl 1 rfl) ?_
  refine pf14_36 F hx0 hr dX14_begin_12 x1 (fun H locs z3 ez3 hr => ?_)
  replace h := zl_sub ez3 h
  clear ez3
  refine lv_aload_n F.1 F.2.1 dX14_begin_15 rfl (lv_at hl 0 rfl) ?_
  refine lv_iload_n F.1 F.2.1 dX14_begin_16 rfl (lv_at hl 2 rfl) ?_
  refine pf14_39 F hx0 hr dX14_begin_17 x2 (fun H locs z4 ez4 hr => ?_)
  replace h := zl_sub ez4 h
  clear ez4
  refine lv_aload_n F.1 F.2.1 dX14_begin_20 rfl (lv_at hl 0 rfl) ?_
  refine lv_iload_n F.1 F.2.1 dX14_begin_21 rfl (lv_at hl 2 rfl) ?_
  refine pf14_42 F hx0 hr dX14_begin_22 x2 (fun H locs z5 ez5 hr => ?_)
  replace h := zl_sub ez5 h
  clear ez5
  refine lv_aload_n F.1 F.2.1 dX14_begin_25 rfl (lv_at hl 0 rfl) ?_
  refine lv_iload_n F.1 F.2.1 dX14_begin_26 rfl (lv_at hl 1 rfl) ?_
  refine pf14_45 F hx0 hr dX14_begin_27 x1 (fun H locs z6 ez6 hr => ?_)
  replace h := zl_sub ez6 h
  clear ez6
  refine lv_aload_n F.1 F.2.1 dX14_begin_30 rfl (lv_at hl 0 rfl) ?_
  refine lv_iload_n F.1 F.2.1 dX14_begin_31 rfl (lv_at hl 1 rfl) ?_
  refine pf14_48 F hx0 hr dX14_begin_32 x1 (fun H locs z7 ez7 hr => ?_)
  replace h := zl_sub ez7 h
  clear ez7
  refine lv_aload_n F.1 F.2.1 dX14_begin_35 rfl (lv_at hl 0 rfl) ?_
  refine lv_iload_n F.1 F.2.1 dX14_begin_36 rfl (lv_at hl 1 rfl) ?_
  refine lv_iconst (v := (1)) F.1 F.2.1 dX14_begin_37 (by decide) ?_
  refine lv_iadd F.1 F.2.1 dX14_begin_38 ?_
  refine pf14_51 F hx0 hr dX14_begin_39 (x1 + (1)) (fun H locs z8 ez8 hr => ?_)
  replace h := zl_sub ez8 h
  clear ez8
  refine lv_aload_n F.1 F.2.1 dX14_begin_42 rfl (lv_at hl 0 rfl) ?_
  refine lv_iconst (v := (0)) F.1 F.2.1 dX14_begin_43 (by decide) ?_
  refine pf14_54 F hx0 hr dX14_begin_44 (0) (by decide) (fun H locs z9 ez9 hr => ?_)
  replace h := zl_sub ez9 h
  clear ez9
  refine lv_aload_n F.1 F.2.1 dX14_begin_47 rfl (lv_at hl 0 rfl) ?_
  refine lv_iconst (v := (0)) F.1 F.2.1 dX14_begin_48 (by decide) ?_
  refine pf14_57 F hx0 hr dX14_begin_49 (0) (fun H locs z10 ez10 hr => ?_)
  replace h := zl_sub ez10 h
  clear ez10
  refine lv_aload_n F.1 F.2.1 dX14_begin_52 rfl (lv_at hl 0 rfl) ?_
  refine lv_iconst (v := (0)) F.1 F.2.1 dX14_begin_53 (by decide) ?_
  refine pf14_60 F hx0 hr dX14_begin_54 (0) (fun H locs z11 ez11 hr => ?_)
  replace h := zl_sub ez11 h
  clear ez11
  refine lv_aload_n F.1 F.2.1 dX14_begin_57 rfl (lv_at hl 0 rfl) ?_
  refine lv_iconst (v := (0)) F.1 F.2.1 dX14_begin_58 (by decide) ?_
  refine pf14_63 F hx0 hr dX14_begin_59 (0) (fun H locs z12 ez12 hr => ?_)
  replace h := zl_sub ez12 h
  clear ez12
  refine lv_aload_n F.1 F.2.1 dX14_begin_62 rfl (lv_at hl 0 rfl) ?_
  refine lv_iconst (v := (0)) F.1 F.2.1 dX14_begin_63 (by decide) ?_
  refine pf14_66 F hx0 hr dX14_begin_64 (0) (fun H locs z13 ez13 hr => ?_)
  replace h := zl_sub ez13 h
  clear ez13
  refine lv_aload_n F.1 F.2.1 dX14_begin_67 rfl (lv_at hl 0 rfl) ?_
  refine lv_iconst (v := (0)) F.1 F.2.1 dX14_begin_68 (by decide) ?_
  refine pf14_69 F hx0 hr dX14_begin_69 (0) (by decide) (fun H locs z14 ez14 hr => ?_)
  replace h := zl_sub ez14 h
  clear ez14
  refine lv_aload_n F.1 F.2.1 dX14_begin_72 rfl (lv_at hl 0 rfl) ?_
  refine lv_iconst (v := (0)) F.1 F.2.1 dX14_begin_73 (by decide) ?_
  refine pf14_72 F hx0 hr dX14_begin_74 (0) (fun H locs z15 ez15 hr => ?_)
  replace h := zl_sub ez15 h
  clear ez15
  refine lv_iconst (v := (0)) F.1 F.2.1 dX14_begin_77 (by decide) ?_
  refine lv_istore_n (lv' := [(3, .int (0)), (0, .ref (B 14 x0)), (1, .int x1), (2, .int x2)]) F.1 F.2.1 dX14_begin_78 rfl hl (by decide) rfl (fun ls hl => ?_)
  exact lX14_begin_79 hst F hA E  _ x0 (0) hx0 hr (lv_sub hl [1, 0] rfl) h
end SX14_begin
set_option maxRecDepth 100000 in
theorem okX14_begin (l : Launch) (D : va_G) (cy : Nat → ClassId) (B : Nat → Nat → Nat) (ids : List (Nat × Nat)) (hst : zSt B ids) (N : Nat) (x0 : Nat) (hx0 : (14, x0) ∈ ids) (x1 : Int32) (x2 : Int32) {z : St} {r : Int32} {z' : St} (hW : zWf ids z) (h : fX14_begin N x0 x1 x2 z = some (r, z')) : zM l yX14_begin (zws yX14_begin cX14_begin 4 none) rmX14_begin D cy B ids [.ref (B 14 x0), .int x1, .int x2] none True z z' :=
  zM_of hst hW (by decide +kernel) (Nat.le_of_ble_eq_true rfl) (fun p e s m args below meth c A ls F hA hret hlocks hr hl => bX14_begin_0 hst F hA (zEnd_v F hret hlocks) x0 x1 x2 hx0 hr hl h)
