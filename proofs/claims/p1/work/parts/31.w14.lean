abbrev rmX11_takeThanking : Room := { frames := 3, cells := 0, slots := 0, locals := 68 }
theorem hdX11_takeThanking : yX11_takeThanking.cls ≠ "java/lang/invoke/MethodHandle" ∧ yX11_takeThanking.cls ≠ "java/lang/invoke/VarHandle" ∧ (parseMethodDescriptor yX11_takeThanking.desc).map (fun d => d.parameters.length) = some 2 := by decide +kernel
theorem hroX11_takeThanking_X11_senderKey : rmX11_senderKey.frames + 1 ≤ rmX11_takeThanking.frames ∧ 8 + (4 + 11) + rmX11_senderKey.locals ≤ rmX11_takeThanking.locals := by decide
theorem hroX11_takeThanking_X7_get2 : rmX7_get2.frames + 1 ≤ rmX11_takeThanking.frames ∧ 8 + (2 + 11) + rmX7_get2.locals ≤ rmX11_takeThanking.locals := by decide
theorem hroX11_takeThanking_X7_get4 : rmX7_get4.frames + 1 ≤ rmX11_takeThanking.frames ∧ 8 + (2 + 11) + rmX7_get4.locals ≤ rmX11_takeThanking.locals := by decide
theorem hroX11_takeThanking_X9_setDue : rmX9_setDue.frames + 1 ≤ rmX11_takeThanking.frames ∧ 8 + (4 + 11) + rmX9_setDue.locals ≤ rmX11_takeThanking.locals := by decide
section SX11_takeThanking
variable {p : Program} {l : Launch} {e : Env} {s : State} {m : MethodId} {args : Array Value} {below : List Frame} {meth : Method} {c : Code} {Q : State → Prop} {D : va_G} {cy : Nat → ClassId} {B : Nat → Nat → Nat} {ids : List (Nat × Nat)} {A : Nat → Prop}
def fX11_takeThanking (N : Nat)  (x0 : Nat) (x1 : Nat) (x2 : Nat) (z : St) : Option (Int32 × St) := zl (zgR z 8 0 x1) fun y1 => zd y1 fun a2 => zl (zgR z 1 10 a2) fun y3 => zc (fX11_senderKey N x0 x1 x2 z) fun r4 z5 => zc (fX7_get2 N x2 (0 : Int32) z5) fun r8 z9 => if r4 < 0 then (some (0, z9)) else (if r8 < (16 : Int32) then (zd y3 fun a14 => zl (zgR z9 9 12 a14) fun y15 => zd y15 fun a16 => zk r8 16 <| zc (fX7_get4 N x2 (2 : Int32) z9) fun r18 z19 => if ¬ (zgA z9 100 a16 (Int32.toNatClampNeg r8)) = r18 then (some (0, z19)) else (zc (fX9_setDue N a14 r4 r8 (0 : Int32) z19) fun _ z24 => some (0, z24))) else (some (0, z9)))
set_option maxHeartbeats 4000000 in
set_option maxRecDepth 100000 in
theorem bX11_takeThanking_0 (hst : zSt B ids) (F : zFx p m c cX11_takeThanking 6 s args RX11 D cy B ids A) (hA : ∀ q : Nat, s.heap.size ≤ q → A q) {r : Int32} {z' : St} (E : zEnd p l e rmX11_takeThanking s m args below meth c cX11_takeThanking D cy B ids A Q none z' .return_ True) {N : Nat}  (x0 : Nat) (x1 : Nat) (x2 : Nat) (hx0 : (11, x0) ∈ ids) (hx1 : (8, x1) ∈ ids) (hx2 : (7, x2) ∈ ids) {z : St} {H : Heap} {locs : List Loc} {ls : Array Slot} (hr : zRep D cy B ids A s.heap z H locs) (hl : lv_has ls 6 [(0, .ref (B 11 x0)), (1, .ref (B 8 x1)), (2, .ref (B 7 x2))]) (h : fX11_takeThanking N x0 x1 x2 z = some (r, z')) : W p l e rmX11_takeThanking s m args below meth c H locs 0 0 Q (F0 m 0 ls []) := by
  unfold fX11_takeThanking at h
  refine lv_aload_n F.1 F.2.1 dX11_takeThanking_0 rfl (lv_at hl 1 rfl) ?_
  refine gf11_474 F hx1 hr dX11_takeThanking_1 (fun y1 ey1 => ?_)
  replace h := zl_sub ey1 h
  have hy1 := zal_g hr hx1 (j := 0) rfl ey1
  clear ey1
  replace h := zd_some h
  obtain ⟨a2, rfl, h⟩ := h
  refine gf11_395 F (hy1 _ rfl) hr dX11_takeThanking_4 (fun y3 ey3 => ?_)
  replace h := zl_sub ey3 h
  have hy3 := zal_g hr (hy1 _ rfl) (j := 10) rfl ey3
  clear ey3
  refine zr_astore_n (lv' := [(3, va_rf (Option.map (B 9) y3)), (0, .ref (B 11 x0)), (1, .ref (B 8 x1)), (2, .ref (B 7 x2))]) F.1 F.2.1 dX11_takeThanking_7 rfl hl (by decide) rfl (fun ls hl => ?_)
  refine lv_aload_n F.1 F.2.1 dX11_takeThanking_8 rfl (lv_at hl 1 rfl) ?_
  refine lv_aload_n F.1 F.2.1 dX11_takeThanking_9 rfl (lv_at hl 2 rfl) ?_
  refine lv_aload_n F.1 F.2.1 dX11_takeThanking_10 rfl (lv_at hl 3 rfl) ?_
  replace h := zc_some h
  obtain ⟨r4, z5, hc6, h⟩ := h
  refine zr_calli (zrun_V (As := [.ref (B 8 x1), .ref (B 7 x2)]) (rest := []) zq_1161 zq_1163 zs_X11_senderKey zq_1164 zq_1 hdX11_senderKey (by decide) (T := TX11) (N := 21) rfl (okX11_senderKey l D cy B ids hst N x0 hx0 x1 hx1 x2 hx2 hr.2.2 hc6) F hr hx0 hl.1 rfl (by decide) dX11_takeThanking_11 rfl rfl hroX11_takeThanking_X11_senderKey ⟨Nat.zero_le _, Nat.zero_le _⟩) F hA hr (fun H locs hw7 hr => ?_)
  clear hc6
  refine lv_istore (lv' := [(4, .int r4), (3, va_rf (Option.map (B 9) y3)), (0, .ref (B 11 x0)), (1, .ref (B 8 x1)), (2, .ref (B 7 x2))]) F.1 F.2.1 dX11_takeThanking_14 hl (by decide) (by simp only [List.filter, zrf_cat]; rfl) (fun ls hl => ?_)
  refine lv_aload_n F.1 F.2.1 dX11_takeThanking_16 rfl (lv_at hl 4 rfl) ?_
  refine lv_iconst (v := (0 : Int32)) F.1 F.2.1 dX11_takeThanking_17 (by decide) ?_
  replace h := zc_some h
  obtain ⟨r8, z9, hc10, h⟩ := h
  refine zr_calli (zrun_VN (As := [.int (0 : Int32)]) (rest := []) zn_1140 zq_1138 zs_X7_get2 zq_1139 zq_2 hdX7_get2 (by decide) (T := TX7) (N := 20) rfl (okX7_get2 l D cy B ids hst N x2 hx2 (0 : Int32)  hr.2.2 hc10) F hr hx2 hl.1 rfl (by decide) dX11_takeThanking_18 rfl rfl hroX11_takeThanking_X7_get2 ⟨Nat.zero_le _, Nat.zero_le _⟩) F hA hr (fun H locs hw11 hr => ?_)
  clear hc10
  refine lv_istore (lv' := [(5, .int r8), (4, .int r4), (3, va_rf (Option.map (B 9) y3)), (0, .ref (B 11 x0)), (1, .ref (B 8 x1)), (2, .ref (B 7 x2))]) F.1 F.2.1 dX11_takeThanking_21 hl (by decide) rfl (fun ls hl => ?_)
  refine lv_iload F.1 F.2.1 dX11_takeThanking_23 (lv_at hl 1 rfl) ?_
  refine lv_if_lt (tgt := 35) F.1 F.2.1 dX11_takeThanking_25 (by decide) (fun c12 => ?_) (fun c12 => ?_)
  · replace h := zi_t c12 h
    obtain ⟨rfl, rfl⟩ := zret h
    exact E _ _ _ _ dX11_takeThanking_35 trivial hr
  · replace h := zi_f c12 h
    refine lv_iload F.1 F.2.1 dX11_takeThanking_28 (lv_at hl 0 rfl) ?_
    refine lv_bipush (v := (16 : Int32)) F.1 F.2.1 dX11_takeThanking_30 (by decide) ?_
    refine lv_icmp_lt (tgt := 36) F.1 F.2.1 dX11_takeThanking_32 (by decide) (fun c13 => ?_) (fun c13 => ?_)
    · replace h := zi_t c13 h
      refine zr_aload_n F.1 F.2.1 dX11_takeThanking_36 rfl (lv_at hl 2 rfl) ?_
      replace h := zd_some h
      obtain ⟨a14, rfl, h⟩ := h
      refine gf11_399 F (hy3 _ rfl) hr dX11_takeThanking_37 (fun y15 ey15 => ?_)
      replace h := zl_sub ey15 h
      have hy15 := zal_g hr (hy3 _ rfl) (j := 12) rfl ey15
      clear ey15
      replace h := zd_some h
      obtain ⟨a16, rfl, h⟩ := h
      refine gf11_426 F (hy15 _ rfl) hr dX11_takeThanking_40 ?_
      refine lv_iload F.1 F.2.1 dX11_takeThanking_43 (lv_at hl 0 rfl) ?_
      replace h := zk_some h
      obtain ⟨c17, h⟩ := h
      refine zr_iald (k := 100) (by decide) rfl (by decide) F (zal_a F (hy15 _ rfl) (j := 1) rfl) hr dX11_takeThanking_45 c17 ?_
      refine lv_aload_n F.1 F.2.1 dX11_takeThanking_46 rfl (lv_at hl 5 rfl) ?_
      refine lv_iconst (v := (2 : Int32)) F.1 F.2.1 dX11_takeThanking_47 (by decide) ?_
      replace h := zc_some h
      obtain ⟨r18, z19, hc20, h⟩ := h
      refine zr_calli (zrun_VN (As := [.int (2 : Int32)]) (rest := [.int (zgA z9 100 a16 (Int32.toNatClampNeg r8))]) zn_1132 zq_1134 zs_X7_get4 zq_1135 zq_2 hdX7_get4 (by decide) (T := TX7) (N := 20) rfl (okX7_get4 l D cy B ids hst N x2 hx2 (2 : Int32)  hr.2.2 hc20) F hr hx2 hl.1 rfl (Nat.le_of_ble_eq_true rfl) dX11_takeThanking_48 rfl rfl hroX11_takeThanking_X7_get4 ⟨Nat.zero_le _, Nat.zero_le _⟩) F hA hr (fun H locs hw21 hr => ?_)
      clear hc20
      refine lv_icmp_ne (tgt := 63) F.1 F.2.1 dX11_takeThanking_51 (by decide) (fun c22 => ?_) (fun c22 => ?_)
      · replace h := zi_t c22 h
        obtain ⟨rfl, rfl⟩ := zret h
        exact E _ _ _ _ dX11_takeThanking_63 trivial hr
      · replace h := zi_f (fun q => q c22) h
        refine lv_aload_n F.1 F.2.1 dX11_takeThanking_54 rfl (lv_at hl 2 rfl) ?_
        refine lv_iload F.1 F.2.1 dX11_takeThanking_55 (lv_at hl 1 rfl) ?_
        refine lv_iload F.1 F.2.1 dX11_takeThanking_57 (lv_at hl 0 rfl) ?_
        refine lv_iconst (v := (0 : Int32)) F.1 F.2.1 dX11_takeThanking_59 (by decide) ?_
        replace h := zc_some h
        obtain ⟨r23, z24, hc25, h⟩ := h
        refine zr_callv (zrun_VN (As := [.int r4, .int r8, .int (0 : Int32)]) (rest := []) zn_1188 zq_1178 zs_X9_setDue zq_1179 zq_10 hdX9_setDue (by decide) (T := TX9) (N := 13) rfl (okX9_setDue l D cy B ids hst N a14 (hy3 _ rfl) r4  r8  (0 : Int32)  hr.2.2 hc25) F hr (hy3 _ rfl) hl.1 rfl (by decide) dX11_takeThanking_60 rfl rfl hroX11_takeThanking_X9_setDue ⟨Nat.zero_le _, Nat.zero_le _⟩) F hA hr (fun H locs hw26 hr => ?_)
        clear hc25
        obtain ⟨rfl, rfl⟩ := zret h
        exact E _ _ _ _ dX11_takeThanking_63 trivial hr
    · replace h := zi_f c13 h
      obtain ⟨rfl, rfl⟩ := zret h
      exact E _ _ _ _ dX11_takeThanking_35 trivial hr
end SX11_takeThanking
set_option maxRecDepth 100000 in
theorem okX11_takeThanking (l : Launch) (D : va_G) (cy : Nat → ClassId) (B : Nat → Nat → Nat) (ids : List (Nat × Nat)) (hst : zSt B ids) (N : Nat) (x0 : Nat) (hx0 : (11, x0) ∈ ids) (x1 : Nat) (hx1 : (8, x1) ∈ ids) (x2 : Nat) (hx2 : (7, x2) ∈ ids) {z : St} {r : Int32} {z' : St} (hW : zWf ids z) (h : fX11_takeThanking N x0 x1 x2 z = some (r, z')) : zM l yX11_takeThanking (zws yX11_takeThanking cX11_takeThanking 6 none) rmX11_takeThanking D cy B ids [.ref (B 11 x0), .ref (B 8 x1), .ref (B 7 x2)] none True z z' :=
  zM_of hst hW (by decide +kernel) (Nat.le_of_ble_eq_true rfl) (fun p e s m args below meth c A ls F hA hret hlocks hr hl => bX11_takeThanking_0 hst F hA (zEnd_v F hret hlocks) x0 x1 x2 hx0 hx1 hx2 hr hl h)
abbrev rmX11_takeAsRouter : Room := { frames := 4, cells := 0, slots := 0, locals := 114 }
theorem hdX11_takeAsRouter : yX11_takeAsRouter.cls ≠ "java/lang/invoke/MethodHandle" ∧ yX11_takeAsRouter.cls ≠ "java/lang/invoke/VarHandle" ∧ (parseMethodDescriptor yX11_takeAsRouter.desc).map (fun d => d.parameters.length) = some 2 := by decide +kernel
theorem hroX11_takeAsRouter_X11_takeAdvert : rmX11_takeAdvert.frames + 1 ≤ rmX11_takeAsRouter.frames ∧ 8 + (8 + 11) + rmX11_takeAdvert.locals ≤ rmX11_takeAsRouter.locals := by decide
theorem hroX11_takeAsRouter_X11_takeGreeting : rmX11_takeGreeting.frames + 1 ≤ rmX11_takeAsRouter.frames ∧ 8 + (8 + 11) + rmX11_takeGreeting.locals ≤ rmX11_takeAsRouter.locals := by decide
theorem hroX11_takeAsRouter_X11_takeThanking : rmX11_takeThanking.frames + 1 ≤ rmX11_takeAsRouter.frames ∧ 8 + (6 + 11) + rmX11_takeThanking.locals ≤ rmX11_takeAsRouter.locals := by decide
section SX11_takeAsRouter
variable {p : Program} {l : Launch} {e : Env} {s : State} {m : MethodId} {args : Array Value} {below : List Frame} {meth : Method} {c : Code} {Q : State → Prop} {D : va_G} {cy : Nat → ClassId} {B : Nat → Nat → Nat} {ids : List (Nat × Nat)} {A : Nat → Prop}
def fX11_takeAsRouter (N : Nat)  (x0 : Nat) (x1 : Nat) (x2 : Nat) (z : St) : Option (Int32 × St) := if ¬ (zgI z 7 2 x2) = (2 : Int32) then (if ¬ (zgI z 7 2 x2) = (3 : Int32) then (if ¬ (zgI z 7 2 x2) = (4 : Int32) then (some (0, z)) else (zc (fX11_takeThanking N x0 x1 x2 z) fun _ z5 => some (0, z5))) else (zc (fX11_takeAdvert N x0 x1 x2 z) fun _ z9 => some (0, z9))) else (zc (fX11_takeGreeting N x0 x1 x2 z) fun _ z13 => some (0, z13))
set_option maxHeartbeats 4000000 in
set_option maxRecDepth 100000 in
theorem bX11_takeAsRouter_0 (hst : zSt B ids) (F : zFx p m c cX11_takeAsRouter 3 s args RX11 D cy B ids A) (hA : ∀ q : Nat, s.heap.size ≤ q → A q) {r : Int32} {z' : St} (E : zEnd p l e rmX11_takeAsRouter s m args below meth c cX11_takeAsRouter D cy B ids A Q none z' .return_ True) {N : Nat}  (x0 : Nat) (x1 : Nat) (x2 : Nat) (hx0 : (11, x0) ∈ ids) (hx1 : (8, x1) ∈ ids) (hx2 : (7, x2) ∈ ids) {z : St} {H : Heap} {locs : List Loc} {ls : Array Slot} (hr : zRep D cy B ids A s.heap z H locs) (hl : lv_has ls 3 [(0, .ref (B 11 x0)), (1, .ref (B 8 x1)), (2, .ref (B 7 x2))]) (h : fX11_takeAsRouter N x0 x1 x2 z = some (r, z')) : W p l e rmX11_takeAsRouter s m args below meth c H locs 0 0 Q (F0 m 0 ls []) := by
  unfold fX11_takeAsRouter at h
  refine lv_aload_n F.1 F.2.1 dX11_takeAsRouter_0 rfl (lv_at hl 2 rfl) ?_
  refine gf11_600 F hx2 hr dX11_takeAsRouter_1 ?_
  refine lv_iconst (v := (2 : Int32)) F.1 F.2.1 dX11_takeAsRouter_4 (by decide) ?_
  refine lv_icmp_ne (tgt := 17) F.1 F.2.1 dX11_takeAsRouter_5 (by decide) (fun c1 => ?_) (fun c1 => ?_)
  · replace h := zi_t c1 h
    refine lv_aload_n F.1 F.2.1 dX11_takeAsRouter_17 rfl (lv_at hl 2 rfl) ?_
    refine gf11_600 F hx2 hr dX11_takeAsRouter_18 ?_
    refine lv_iconst (v := (3 : Int32)) F.1 F.2.1 dX11_takeAsRouter_21 (by decide) ?_
    refine lv_icmp_ne (tgt := 34) F.1 F.2.1 dX11_takeAsRouter_22 (by decide) (fun c2 => ?_) (fun c2 => ?_)
    · replace h := zi_t c2 h
      refine lv_aload_n F.1 F.2.1 dX11_takeAsRouter_34 rfl (lv_at hl 2 rfl) ?_
      refine gf11_600 F hx2 hr dX11_takeAsRouter_35 ?_
      refine lv_iconst (v := (4 : Int32)) F.1 F.2.1 dX11_takeAsRouter_38 (by decide) ?_
      refine lv_icmp_ne (tgt := 48) F.1 F.2.1 dX11_takeAsRouter_39 (by decide) (fun c3 => ?_) (fun c3 => ?_)
      · replace h := zi_t c3 h
        obtain ⟨rfl, rfl⟩ := zret h
        exact E _ _ _ _ dX11_takeAsRouter_48 trivial hr
      · replace h := zi_f (fun q => q c3) h
        refine lv_aload_n F.1 F.2.1 dX11_takeAsRouter_42 rfl (lv_at hl 0 rfl) ?_
        refine lv_aload_n F.1 F.2.1 dX11_takeAsRouter_43 rfl (lv_at hl 1 rfl) ?_
        refine lv_aload_n F.1 F.2.1 dX11_takeAsRouter_44 rfl (lv_at hl 2 rfl) ?_
        replace h := zc_some h
        obtain ⟨r4, z5, hc6, h⟩ := h
        refine zr_callv (zrun_V (As := [.ref (B 8 x1), .ref (B 7 x2)]) (rest := []) zq_1207 zq_1209 zs_X11_takeThanking zq_1210 zq_1 hdX11_takeThanking (by decide) (T := TX11) (N := 21) rfl (okX11_takeThanking l D cy B ids hst N x0 hx0 x1 hx1 x2 hx2 hr.2.2 hc6) F hr hx0 hl.1 rfl (by decide) dX11_takeAsRouter_45 rfl rfl hroX11_takeAsRouter_X11_takeThanking ⟨Nat.zero_le _, Nat.zero_le _⟩) F hA hr (fun H locs hw7 hr => ?_)
        clear hc6
        obtain ⟨rfl, rfl⟩ := zret h
        exact E _ _ _ _ dX11_takeAsRouter_48 trivial hr
    · replace h := zi_f (fun q => q c2) h
      refine lv_aload_n F.1 F.2.1 dX11_takeAsRouter_25 rfl (lv_at hl 0 rfl) ?_
      refine lv_aload_n F.1 F.2.1 dX11_takeAsRouter_26 rfl (lv_at hl 1 rfl) ?_
      refine lv_aload_n F.1 F.2.1 dX11_takeAsRouter_27 rfl (lv_at hl 2 rfl) ?_
      replace h := zc_some h
      obtain ⟨r8, z9, hc10, h⟩ := h
      refine zr_callv (zrun_V (As := [.ref (B 8 x1), .ref (B 7 x2)]) (rest := []) zq_1180 zq_1182 zs_X11_takeAdvert zq_1183 zq_1 hdX11_takeAdvert (by decide) (T := TX11) (N := 21) rfl (okX11_takeAdvert l D cy B ids hst N x0 hx0 x1 hx1 x2 hx2 hr.2.2 hc10) F hr hx0 hl.1 rfl (by decide) dX11_takeAsRouter_28 rfl rfl hroX11_takeAsRouter_X11_takeAdvert ⟨Nat.zero_le _, Nat.zero_le _⟩) F hA hr (fun H locs hw11 hr => ?_)
      clear hc10
      refine lv_goto (tgt := 48) F.1 F.2.1 dX11_takeAsRouter_31 (by decide) ?_
      obtain ⟨rfl, rfl⟩ := zret h
      exact E _ _ _ _ dX11_takeAsRouter_48 trivial hr
  · replace h := zi_f (fun q => q c1) h
    refine lv_aload_n F.1 F.2.1 dX11_takeAsRouter_8 rfl (lv_at hl 0 rfl) ?_
    refine lv_aload_n F.1 F.2.1 dX11_takeAsRouter_9 rfl (lv_at hl 1 rfl) ?_
    refine lv_aload_n F.1 F.2.1 dX11_takeAsRouter_10 rfl (lv_at hl 2 rfl) ?_
    replace h := zc_some h
    obtain ⟨r12, z13, hc14, h⟩ := h
    refine zr_callv (zrun_V (As := [.ref (B 8 x1), .ref (B 7 x2)]) (rest := []) zq_1157 zq_1159 zs_X11_takeGreeting zq_1160 zq_1 hdX11_takeGreeting (by decide) (T := TX11) (N := 21) rfl (okX11_takeGreeting l D cy B ids hst N x0 hx0 x1 hx1 x2 hx2 hr.2.2 hc14) F hr hx0 hl.1 rfl (by decide) dX11_takeAsRouter_11 rfl rfl hroX11_takeAsRouter_X11_takeGreeting ⟨Nat.zero_le _, Nat.zero_le _⟩) F hA hr (fun H locs hw15 hr => ?_)
    clear hc14
    refine lv_goto (tgt := 48) F.1 F.2.1 dX11_takeAsRouter_14 (by decide) ?_
    obtain ⟨rfl, rfl⟩ := zret h
    exact E _ _ _ _ dX11_takeAsRouter_48 trivial hr
end SX11_takeAsRouter
set_option maxRecDepth 100000 in
theorem okX11_takeAsRouter (l : Launch) (D : va_G) (cy : Nat → ClassId) (B : Nat → Nat → Nat) (ids : List (Nat × Nat)) (hst : zSt B ids) (N : Nat) (x0 : Nat) (hx0 : (11, x0) ∈ ids) (x1 : Nat) (hx1 : (8, x1) ∈ ids) (x2 : Nat) (hx2 : (7, x2) ∈ ids) {z : St} {r : Int32} {z' : St} (hW : zWf ids z) (h : fX11_takeAsRouter N x0 x1 x2 z = some (r, z')) : zM l yX11_takeAsRouter (zws yX11_takeAsRouter cX11_takeAsRouter 3 none) rmX11_takeAsRouter D cy B ids [.ref (B 11 x0), .ref (B 8 x1), .ref (B 7 x2)] none True z z' :=
  zM_of hst hW (by decide +kernel) (Nat.le_of_ble_eq_true rfl) (fun p e s m args below meth c A ls F hA hret hlocks hr hl => bX11_takeAsRouter_0 hst F hA (zEnd_v F hret hlocks) x0 x1 x2 hx0 hx1 hx2 hr hl h)
abbrev rmX11_resetStranger : Room := { frames := 2, cells := 0, slots := 0, locals := 47 }
theorem hdX11_resetStranger : yX11_resetStranger.cls ≠ "java/lang/invoke/MethodHandle" ∧ yX11_resetStranger.cls ≠ "java/lang/invoke/VarHandle" ∧ (parseMethodDescriptor yX11_resetStranger.desc).map (fun d => d.parameters.length) = some 2 := by decide +kernel
theorem hroX11_resetStranger_X1_nextNumber : rmX1_nextNumber.frames + 1 ≤ rmX11_resetStranger.frames ∧ 8 + (1 + 11) + rmX1_nextNumber.locals ≤ rmX11_resetStranger.locals := by decide
theorem hroX11_resetStranger_X7_beginSegment : rmX7_beginSegment.frames + 1 ≤ rmX11_resetStranger.frames ∧ 8 + (5 + 11) + rmX7_beginSegment.locals ≤ rmX11_resetStranger.locals := by decide
theorem hroX11_resetStranger_X7_get2 : rmX7_get2.frames + 1 ≤ rmX11_resetStranger.frames ∧ 8 + (2 + 11) + rmX7_get2.locals ≤ rmX11_resetStranger.locals := by decide
theorem hroX11_resetStranger_X7_has : rmX7_has.frames + 1 ≤ rmX11_resetStranger.frames ∧ 8 + (2 + 11) + rmX7_has.locals ≤ rmX11_resetStranger.locals := by decide
theorem hroX11_resetStranger_X7_put2 : rmX7_put2.frames + 1 ≤ rmX11_resetStranger.frames ∧ 8 + (3 + 11) + rmX7_put2.locals ≤ rmX11_resetStranger.locals := by decide
theorem hroX11_resetStranger_X7_resetFlags : rmX7_resetFlags.frames + 1 ≤ rmX11_resetStranger.frames ∧ 8 + (1 + 11) + rmX7_resetFlags.locals ≤ rmX11_resetStranger.locals := by decide
theorem hroX11_resetStranger_X7_resetNumber : rmX7_resetNumber.frames + 1 ≤ rmX11_resetStranger.frames ∧ 8 + (1 + 11) + rmX7_resetNumber.locals ≤ rmX11_resetStranger.locals := by decide
theorem hroX11_resetStranger_X7_resetThanked : rmX7_resetThanked.frames + 1 ≤ rmX11_resetStranger.frames ∧ 8 + (1 + 11) + rmX7_resetThanked.locals ≤ rmX11_resetStranger.locals := by decide
section SX11_resetStranger
variable {p : Program} {l : Launch} {e : Env} {s : State} {m : MethodId} {args : Array Value} {below : List Frame} {meth : Method} {c : Code} {Q : State → Prop} {D : va_G} {cy : Nat → ClassId} {B : Nat → Nat → Nat} {ids : List (Nat × Nat)} {A : Nat → Prop}
def fX11_resetStranger (N : Nat)  (x0 : Nat) (x1 : Nat) (x2 : Nat) (z : St) : Option (Int32 × St) := zc (fX7_has N x2 (4 : Int32) z) fun r1 z2 => if r1 = 0 then (zl (zgR z2 11 13 x0) fun y6 => zc (fX7_resetFlags N x2 z2) fun r7 z8 => zc (fX7_resetNumber N x2 z8) fun r11 z12 => zc (fX7_resetThanked N x2 z12) fun r15 z16 => zd y6 fun a19 => zc (fX7_beginSegment N a19 r7 r11 r15 (0 : Int32) z16) fun _ z21 => zl (zgR z21 11 13 x0) fun y24 => zd y24 fun a25 => zl (zsI z21 7 0 a25 (zgI z21 8 4 x1)) fun z26 => zl (zgR z26 11 13 x0) fun y27 => zd y27 fun a28 => zl (zsI z26 7 1 a28 (zgI z26 7 0 x2)) fun z29 => zl (zgR z29 11 13 x0) fun y30 => zc (fX7_get2 N x2 (2 : Int32) z29) fun r31 z32 => zd y30 fun a35 => zc (fX7_put2 N a35 (0 : Int32) r31 z32) fun _ z37 => zl (zgR z37 11 13 x0) fun y40 => zc (fX7_get2 N x2 (0 : Int32) z37) fun r41 z42 => zd y40 fun a45 => zc (fX7_put2 N a45 (2 : Int32) r41 z42) fun _ z47 => zl (zgR z47 11 13 x0) fun y50 => zl (zgR z47 8 0 x1) fun y51 => zd y51 fun a52 => zc (fX1_nextNumber N a52 z47) fun r53 z54 => zd y50 fun a57 => zl (zsI z54 7 3 a57 r53) fun z58 => zl (zsI z58 11 15 x0 (1 : Int32)) fun z59 => some (0, z59)) else (some (0, z2))
set_option maxHeartbeats 4000000 in
set_option maxRecDepth 100000 in
theorem bX11_resetStranger_0 (hst : zSt B ids) (F : zFx p m c cX11_resetStranger 3 s args RX11 D cy B ids A) (hA : ∀ q : Nat, s.heap.size ≤ q → A q) {r : Int32} {z' : St} (E : zEnd p l e rmX11_resetStranger s m args below meth c cX11_resetStranger D cy B ids A Q none z' .return_ True) {N : Nat}  (x0 : Nat) (x1 : Nat) (x2 : Nat) (hx0 : (11, x0) ∈ ids) (hx1 : (8, x1) ∈ ids) (hx2 : (7, x2) ∈ ids) {z : St} {H : Heap} {locs : List Loc} {ls : Array Slot} (hr : zRep D cy B ids A s.heap z H locs) (hl : lv_has ls 3 [(0, .ref (B 11 x0)), (1, .ref (B 8 x1)), (2, .ref (B 7 x2))]) (h : fX11_resetStranger N x0 x1 x2 z = some (r, z')) : W p l e rmX11_resetStranger s m args below meth c H locs 0 0 Q (F0 m 0 ls []) := by
  unfold fX11_resetStranger at h
  refine lv_aload_n F.1 F.2.1 dX11_resetStranger_0 rfl (lv_at hl 2 rfl) ?_
  refine lv_iconst (v := (4 : Int32)) F.1 F.2.1 dX11_resetStranger_1 (by decide) ?_
  replace h := zc_some h
  obtain ⟨r1, z2, hc3, h⟩ := h
  refine zr_calli (zrun_VN (As := [.int (4 : Int32)]) (rest := []) zn_1274 zq_1276 zs_X7_has zq_1277 zq_2 hdX7_has (by decide) (T := TX7) (N := 20) rfl (okX7_has l D cy B ids hst N x2 hx2 (4 : Int32)  hr.2.2 hc3) F hr hx2 hl.1 rfl (by decide) dX11_resetStranger_2 rfl rfl hroX11_resetStranger_X7_has ⟨Nat.zero_le _, Nat.zero_le _⟩) F hA hr (fun H locs hw4 hr => ?_)
  clear hc3
  refine lv_if_eq (tgt := 9) F.1 F.2.1 dX11_resetStranger_5 (by decide) (fun c5 => ?_) (fun c5 => ?_)
  · replace h := zi_t c5 h
    refine lv_aload_n F.1 F.2.1 dX11_resetStranger_9 rfl (lv_at hl 0 rfl) ?_
    refine gf11_31 F hx0 hr dX11_resetStranger_10 (fun y6 ey6 => ?_)
    replace h := zl_sub ey6 h
    have hy6 := zal_g hr hx0 (j := 13) rfl ey6
    clear ey6
    refine lv_aload_n F.1 F.2.1 dX11_resetStranger_13 rfl (lv_at hl 2 rfl) ?_
    replace h := zc_some h
    obtain ⟨r7, z8, hc9, h⟩ := h
    refine zr_calli (zrun_VN (As := []) (rest := [va_rf (Option.map (B 7) y6)]) zn_1278 zq_1280 zs_X7_resetFlags zq_1281 zq_2 hdX7_resetFlags (by decide) (T := TX7) (N := 20) rfl (okX7_resetFlags l D cy B ids hst N x2 hx2 hr.2.2 hc9) F hr hx2 hl.1 rfl (by simp only [List.map, zrf_cat]; exact Nat.le_of_ble_eq_true rfl) dX11_resetStranger_14 rfl rfl hroX11_resetStranger_X7_resetFlags ⟨Nat.zero_le _, Nat.zero_le _⟩) F hA hr (fun H locs hw10 hr => ?_)
    clear hc9
    refine lv_aload_n F.1 F.2.1 dX11_resetStranger_17 rfl (lv_at hl 2 rfl) ?_
    replace h := zc_some h
    obtain ⟨r11, z12, hc13, h⟩ := h
    refine zr_calli (zrun_VN (As := []) (rest := [.int r7, va_rf (Option.map (B 7) y6)]) zn_1283 zq_1285 zs_X7_resetNumber zq_1286 zq_2 hdX7_resetNumber (by decide) (T := TX7) (N := 20) rfl (okX7_resetNumber l D cy B ids hst N x2 hx2 hr.2.2 hc13) F hr hx2 hl.1 rfl (by simp only [List.map, zrf_cat]; exact Nat.le_of_ble_eq_true rfl) dX11_resetStranger_18 rfl rfl hroX11_resetStranger_X7_resetNumber ⟨Nat.zero_le _, Nat.zero_le _⟩) F hA hr (fun H locs hw14 hr => ?_)
    clear hc13
    refine lv_aload_n F.1 F.2.1 dX11_resetStranger_21 rfl (lv_at hl 2 rfl) ?_
    replace h := zc_some h
    obtain ⟨r15, z16, hc17, h⟩ := h
    refine zr_calli (zrun_VN (As := []) (rest := [.int r11, .int r7, va_rf (Option.map (B 7) y6)]) zn_1287 zq_1289 zs_X7_resetThanked zq_1290 zq_2 hdX7_resetThanked (by decide) (T := TX7) (N := 20) rfl (okX7_resetThanked l D cy B ids hst N x2 hx2 hr.2.2 hc17) F hr hx2 hl.1 rfl (by simp only [List.map, zrf_cat]; exact Nat.le_of_ble_eq_true rfl) dX11_resetStranger_22 rfl rfl hroX11_resetStranger_X7_resetThanked ⟨Nat.zero_le _, Nat.zero_le _⟩) F hA hr (fun H locs hw18 hr => ?_)
    clear hc17
    refine lv_iconst (v := (0 : Int32)) F.1 F.2.1 dX11_resetStranger_25 (by decide) ?_
    replace h := zd_some h
    obtain ⟨a19, rfl, h⟩ := h
    replace h := zc_some h
    obtain ⟨r20, z21, hc22, h⟩ := h
    refine zr_callv (zrun_VN (As := [.int r7, .int r11, .int r15, .int (0 : Int32)]) (rest := []) zn_1295 zq_1297 zs_X7_beginSegment zq_1298 zq_2 hdX7_beginSegment (by decide) (T := TX7) (N := 20) rfl (okX7_beginSegment l D cy B ids hst N a19 (hy6 _ rfl) r7  r11  r15  (0 : Int32)  hr.2.2 hc22) F hr (hy6 _ rfl) hl.1 rfl (by decide) dX11_resetStranger_26 rfl rfl hroX11_resetStranger_X7_beginSegment ⟨Nat.zero_le _, Nat.zero_le _⟩) F hA hr (fun H locs hw23 hr => ?_)
    clear hc22
    refine lv_aload_n F.1 F.2.1 dX11_resetStranger_29 rfl (lv_at hl 0 rfl) ?_
    refine gf11_31 F hx0 hr dX11_resetStranger_30 (fun y24 ey24 => ?_)
    replace h := zl_sub ey24 h
    have hy24 := zal_g hr hx0 (j := 13) rfl ey24
    clear ey24
    refine lv_aload_n F.1 F.2.1 dX11_resetStranger_33 rfl (lv_at hl 1 rfl) ?_
    refine gf11_141 F hx1 hr dX11_resetStranger_34 ?_
    replace h := zd_some h
    obtain ⟨a25, rfl, h⟩ := h
    refine pf11_535 F (hy24 _ rfl) hr dX11_resetStranger_37 (zgI z21 8 4 x1) (fun H locs z26 ez26 hr => ?_)
    replace h := zl_sub ez26 h
    clear ez26
    refine lv_aload_n F.1 F.2.1 dX11_resetStranger_40 rfl (lv_at hl 0 rfl) ?_
    refine gf11_31 F hx0 hr dX11_resetStranger_41 (fun y27 ey27 => ?_)
    replace h := zl_sub ey27 h
    have hy27 := zal_g hr hx0 (j := 13) rfl ey27
    clear ey27
    refine lv_aload_n F.1 F.2.1 dX11_resetStranger_44 rfl (lv_at hl 2 rfl) ?_
    refine gf11_535 F hx2 hr dX11_resetStranger_45 ?_
    replace h := zd_some h
    obtain ⟨a28, rfl, h⟩ := h
    refine pf11_538 F (hy27 _ rfl) hr dX11_resetStranger_48 (zgI z26 7 0 x2) (fun H locs z29 ez29 hr => ?_)
    replace h := zl_sub ez29 h
    clear ez29
    refine lv_aload_n F.1 F.2.1 dX11_resetStranger_51 rfl (lv_at hl 0 rfl) ?_
    refine gf11_31 F hx0 hr dX11_resetStranger_52 (fun y30 ey30 => ?_)
    replace h := zl_sub ey30 h
    have hy30 := zal_g hr hx0 (j := 13) rfl ey30
    clear ey30
    refine lv_iconst (v := (0 : Int32)) F.1 F.2.1 dX11_resetStranger_55 (by decide) ?_
    refine lv_aload_n F.1 F.2.1 dX11_resetStranger_56 rfl (lv_at hl 2 rfl) ?_
    refine lv_iconst (v := (2 : Int32)) F.1 F.2.1 dX11_resetStranger_57 (by decide) ?_
    replace h := zc_some h
    obtain ⟨r31, z32, hc33, h⟩ := h
    refine zr_calli (zrun_VN (As := [.int (2 : Int32)]) (rest := [.int (0 : Int32), va_rf (Option.map (B 7) y30)]) zn_1140 zq_1138 zs_X7_get2 zq_1139 zq_2 hdX7_get2 (by decide) (T := TX7) (N := 20) rfl (okX7_get2 l D cy B ids hst N x2 hx2 (2 : Int32)  hr.2.2 hc33) F hr hx2 hl.1 rfl (by simp only [List.map, zrf_cat]; exact Nat.le_of_ble_eq_true rfl) dX11_resetStranger_58 rfl rfl hroX11_resetStranger_X7_get2 ⟨Nat.zero_le _, Nat.zero_le _⟩) F hA hr (fun H locs hw34 hr => ?_)
    clear hc33
    replace h := zd_some h
    obtain ⟨a35, rfl, h⟩ := h
    replace h := zc_some h
    obtain ⟨r36, z37, hc38, h⟩ := h
    refine zr_callv (zrun_VN (As := [.int (0 : Int32), .int r31]) (rest := []) zn_1308 zq_1306 zs_X7_put2 zq_1307 zq_2 hdX7_put2 (by decide) (T := TX7) (N := 20) rfl (okX7_put2 l D cy B ids hst N a35 (hy30 _ rfl) (0 : Int32)  r31  hr.2.2 hc38) F hr (hy30 _ rfl) hl.1 rfl (by decide) dX11_resetStranger_61 rfl rfl hroX11_resetStranger_X7_put2 ⟨Nat.zero_le _, Nat.zero_le _⟩) F hA hr (fun H locs hw39 hr => ?_)
    clear hc38
    refine lv_aload_n F.1 F.2.1 dX11_resetStranger_64 rfl (lv_at hl 0 rfl) ?_
    refine gf11_31 F hx0 hr dX11_resetStranger_65 (fun y40 ey40 => ?_)
    replace h := zl_sub ey40 h
    have hy40 := zal_g hr hx0 (j := 13) rfl ey40
    clear ey40
    refine lv_iconst (v := (2 : Int32)) F.1 F.2.1 dX11_resetStranger_68 (by decide) ?_
    refine lv_aload_n F.1 F.2.1 dX11_resetStranger_69 rfl (lv_at hl 2 rfl) ?_
    refine lv_iconst (v := (0 : Int32)) F.1 F.2.1 dX11_resetStranger_70 (by decide) ?_
    replace h := zc_some h
    obtain ⟨r41, z42, hc43, h⟩ := h
    refine zr_calli (zrun_VN (As := [.int (0 : Int32)]) (rest := [.int (2 : Int32), va_rf (Option.map (B 7) y40)]) zn_1140 zq_1138 zs_X7_get2 zq_1139 zq_2 hdX7_get2 (by decide) (T := TX7) (N := 20) rfl (okX7_get2 l D cy B ids hst N x2 hx2 (0 : Int32)  hr.2.2 hc43) F hr hx2 hl.1 rfl (by simp only [List.map, zrf_cat]; exact Nat.le_of_ble_eq_true rfl) dX11_resetStranger_71 rfl rfl hroX11_resetStranger_X7_get2 ⟨Nat.zero_le _, Nat.zero_le _⟩) F hA hr (fun H locs hw44 hr => ?_)
    clear hc43
    replace h := zd_some h
    obtain ⟨a45, rfl, h⟩ := h
    replace h := zc_some h
    obtain ⟨r46, z47, hc48, h⟩ := h
    refine zr_callv (zrun_VN (As := [.int (2 : Int32), .int r41]) (rest := []) zn_1308 zq_1306 zs_X7_put2 zq_1307 zq_2 hdX7_put2 (by decide) (T := TX7) (N := 20) rfl (okX7_put2 l D cy B ids hst N a45 (hy40 _ rfl) (2 : Int32)  r41  hr.2.2 hc48) F hr (hy40 _ rfl) hl.1 rfl (by decide) dX11_resetStranger_74 rfl rfl hroX11_resetStranger_X7_put2 ⟨Nat.zero_le _, Nat.zero_le _⟩) F hA hr (fun H locs hw49 hr => ?_)
    clear hc48
    refine lv_aload_n F.1 F.2.1 dX11_resetStranger_77 rfl (lv_at hl 0 rfl) ?_
    refine gf11_31 F hx0 hr dX11_resetStranger_78 (fun y50 ey50 => ?_)
    replace h := zl_sub ey50 h
    have hy50 := zal_g hr hx0 (j := 13) rfl ey50
    clear ey50
    refine lv_aload_n F.1 F.2.1 dX11_resetStranger_81 rfl (lv_at hl 1 rfl) ?_
    refine gf11_474 F hx1 hr dX11_resetStranger_82 (fun y51 ey51 => ?_)
    replace h := zl_sub ey51 h
    have hy51 := zal_g hr hx1 (j := 0) rfl ey51
    clear ey51
    replace h := zd_some h
    obtain ⟨a52, rfl, h⟩ := h
    replace h := zc_some h
    obtain ⟨r53, z54, hc55, h⟩ := h
    refine zr_calli (zrun_VN (As := []) (rest := [va_rf (Option.map (B 7) y50)]) zn_1309 zq_1311 zs_X1_nextNumber zq_1312 zq_9 hdX1_nextNumber (by decide) (T := TX1) (N := 13) rfl (okX1_nextNumber l D cy B ids hst N a52 (hy51 _ rfl) hr.2.2 hc55) F hr (hy51 _ rfl) hl.1 rfl (by simp only [List.map, zrf_cat]; exact Nat.le_of_ble_eq_true rfl) dX11_resetStranger_85 rfl rfl hroX11_resetStranger_X1_nextNumber ⟨Nat.zero_le _, Nat.zero_le _⟩) F hA hr (fun H locs hw56 hr => ?_)
    clear hc55
    replace h := zd_some h
    obtain ⟨a57, rfl, h⟩ := h
    refine pf11_691 F (hy50 _ rfl) hr dX11_resetStranger_88 r53 (fun H locs z58 ez58 hr => ?_)
    replace h := zl_sub ez58 h
    clear ez58
    refine lv_aload_n F.1 F.2.1 dX11_resetStranger_91 rfl (lv_at hl 0 rfl) ?_
    refine lv_iconst (v := (1 : Int32)) F.1 F.2.1 dX11_resetStranger_92 (by decide) ?_
    refine pf11_586 F hx0 hr dX11_resetStranger_93 (1 : Int32) (by decide) (fun H locs z59 ez59 hr => ?_)
    replace h := zl_sub ez59 h
    clear ez59
    obtain ⟨rfl, rfl⟩ := zret h
    exact E _ _ _ _ dX11_resetStranger_96 trivial hr
  · replace h := zi_f c5 h
    obtain ⟨rfl, rfl⟩ := zret h
    exact E _ _ _ _ dX11_resetStranger_8 trivial hr
end SX11_resetStranger
set_option maxRecDepth 100000 in
theorem okX11_resetStranger (l : Launch) (D : va_G) (cy : Nat → ClassId) (B : Nat → Nat → Nat) (ids : List (Nat × Nat)) (hst : zSt B ids) (N : Nat) (x0 : Nat) (hx0 : (11, x0) ∈ ids) (x1 : Nat) (hx1 : (8, x1) ∈ ids) (x2 : Nat) (hx2 : (7, x2) ∈ ids) {z : St} {r : Int32} {z' : St} (hW : zWf ids z) (h : fX11_resetStranger N x0 x1 x2 z = some (r, z')) : zM l yX11_resetStranger (zws yX11_resetStranger cX11_resetStranger 3 none) rmX11_resetStranger D cy B ids [.ref (B 11 x0), .ref (B 8 x1), .ref (B 7 x2)] none True z z' :=
  zM_of hst hW (by decide +kernel) (Nat.le_of_ble_eq_true rfl) (fun p e s m args below meth c A ls F hA hret hlocks hr hl => bX11_resetStranger_0 hst F hA (zEnd_v F hret hlocks) x0 x1 x2 hx0 hx1 hx2 hr hl h)
abbrev rmX11_takeSegment : Room := { frames := 4, cells := 0, slots := 0, locals := 129 }
theorem hdX11_takeSegment : yX11_takeSegment.cls ≠ "java/lang/invoke/MethodHandle" ∧ yX11_takeSegment.cls ≠ "java/lang/invoke/VarHandle" ∧ (parseMethodDescriptor yX11_takeSegment.desc).map (fun d => d.parameters.length) = some 2 := by decide +kernel
theorem hroX11_takeSegment_X11_firstNumber : rmX11_firstNumber.frames + 1 ≤ rmX11_takeSegment.frames ∧ 8 + (2 + 11) + rmX11_firstNumber.locals ≤ rmX11_takeSegment.locals := by decide
theorem hroX11_takeSegment_X11_resetStranger : rmX11_resetStranger.frames + 1 ≤ rmX11_takeSegment.frames ∧ 8 + (3 + 11) + rmX11_resetStranger.locals ≤ rmX11_takeSegment.locals := by decide
theorem hroX11_takeSegment_X1_doorThrough : rmX1_doorThrough.frames + 1 ≤ rmX11_takeSegment.frames ∧ 8 + (5 + 11) + rmX1_doorThrough.locals ≤ rmX11_takeSegment.locals := by decide
theorem hroX11_takeSegment_X1_listenerAt : rmX1_listenerAt.frames + 1 ≤ rmX11_takeSegment.frames ∧ 8 + (3 + 11) + rmX1_listenerAt.locals ≤ rmX11_takeSegment.locals := by decide
theorem hroX11_takeSegment_X1_liveDoor : rmX1_liveDoor.frames + 1 ≤ rmX11_takeSegment.frames ∧ 8 + (5 + 11) + rmX1_liveDoor.locals ≤ rmX11_takeSegment.locals := by decide
theorem hroX11_takeSegment_X2_giveEnd : rmX2_giveEnd.frames + 1 ≤ rmX11_takeSegment.frames ∧ 8 + (4 + 11) + rmX2_giveEnd.locals ≤ rmX11_takeSegment.locals := by decide
theorem hroX11_takeSegment_X3_begin : rmX3_begin.frames + 1 ≤ rmX11_takeSegment.frames ∧ 8 + (4 + 11) + rmX3_begin.locals ≤ rmX11_takeSegment.locals := by decide
theorem hroX11_takeSegment_X3_goesOn : rmX3_goesOn.frames + 1 ≤ rmX11_takeSegment.frames ∧ 8 + (3 + 11) + rmX3_goesOn.locals ≤ rmX11_takeSegment.locals := by decide
theorem hroX11_takeSegment_X3_takeAsking : rmX3_takeAsking.frames + 1 ≤ rmX11_takeSegment.frames ∧ 8 + (4 + 11) + rmX3_takeAsking.locals ≤ rmX11_takeSegment.locals := by decide
theorem hroX11_takeSegment_X3_takeListening : rmX3_takeListening.frames + 1 ≤ rmX11_takeSegment.frames ∧ 8 + (2 + 11) + rmX3_takeListening.locals ≤ rmX11_takeSegment.locals := by decide
theorem hroX11_takeSegment_X3_takeRest : rmX3_takeRest.frames + 1 ≤ rmX11_takeSegment.frames ∧ 8 + (4 + 11) + rmX3_takeRest.locals ≤ rmX11_takeSegment.locals := by decide
theorem hroX11_takeSegment_X7_get2 : rmX7_get2.frames + 1 ≤ rmX11_takeSegment.frames ∧ 8 + (2 + 11) + rmX7_get2.locals ≤ rmX11_takeSegment.locals := by decide
theorem hroX11_takeSegment_X7_readHead : rmX7_readHead.frames + 1 ≤ rmX11_takeSegment.frames ∧ 8 + (1 + 11) + rmX7_readHead.locals ≤ rmX11_takeSegment.locals := by decide
section SX11_takeSegment
variable {p : Program} {l : Launch} {e : Env} {s : State} {m : MethodId} {args : Array Value} {below : List Frame} {meth : Method} {c : Code} {Q : State → Prop} {D : va_G} {cy : Nat → ClassId} {B : Nat → Nat → Nat} {ids : List (Nat × Nat)} {A : Nat → Prop}
def fX11_takeSegment_143 (N : Nat)  (x0 : Nat) (x1 : Nat) (x2 : Nat) (x6 : Option Nat) (z : St) : Option (Int32 × St) := zo x6 (zc (fX11_resetStranger N x0 x1 x2 z) fun _ z4 => some (0, z4)) fun a2 => zl (zgR z 2 12 a2) fun y7 => zd y7 fun a8 => if ¬ (zgI z 3 0 a8) = (1 : Int32) then (zl (zgR z 2 12 a2) fun y10 => zd y10 fun a11 => if ¬ (zgI z 3 0 a11) = (2 : Int32) then (zl (zgR z 2 12 a2) fun y13 => zd y13 fun a14 => zc (fX3_goesOn N a14 x2 (zgI z 11 4 x0) z) fun r15 z16 => if r15 = 0 then (some (0, z16)) else (zl (zgR z16 2 12 a2) fun y20 => zd y20 fun a21 => zc (fX3_takeRest N a21 x2 (zgI z16 11 4 x0) z16) fun _ z23 => some (0, z23))) else (zl (zgR z 2 12 a2) fun y26 => zd y26 fun a27 => zc (fX3_takeAsking N a27 x2 (zgI z 11 4 x0) z) fun _ z29 => some (0, z29))) else (zl (zgR z 2 12 a2) fun y32 => zd y32 fun a33 => zc (fX3_takeListening N a33 x2 z) fun _ z35 => some (0, z35))
set_option maxHeartbeats 4000000 in
set_option maxRecDepth 100000 in
theorem bX11_takeSegment_143 (hst : zSt B ids) (F : zFx p m c cX11_takeSegment 8 s args RX11 D cy B ids A) (hA : ∀ q : Nat, s.heap.size ≤ q → A q) {r : Int32} {z' : St} (E : zEnd p l e rmX11_takeSegment s m args below meth c cX11_takeSegment D cy B ids A Q none z' .return_ True) {N : Nat}  (x0 : Nat) (x1 : Nat) (x2 : Nat) (x6 : Option Nat) (hx0 : (11, x0) ∈ ids) (hx1 : (8, x1) ∈ ids) (hx2 : (7, x2) ∈ ids) (hx6 : ∀ t, x6 = some t → (2, t) ∈ ids) {z : St} {H : Heap} {locs : List Loc} {ls : Array Slot} (hr : zRep D cy B ids A s.heap z H locs) (hl : lv_has ls 8 [(0, .ref (B 11 x0)), (1, .ref (B 8 x1)), (2, .ref (B 7 x2)), (6, va_rf (Option.map (B 2) x6))]) (h : fX11_takeSegment_143 N x0 x1 x2 x6 z = some (r, z')) : W p l e rmX11_takeSegment s m args below meth c H locs 0 0 Q (F0 m 143 ls []) := by
  unfold fX11_takeSegment_143 at h
  refine zr_aload F.1 F.2.1 dX11_takeSegment_143 (lv_at hl 3 rfl) ?_
  refine zr_ifnonnull (tgt := 157) F.1 F.2.1 dX11_takeSegment_145 (by decide) (fun e1 => ?_) (fun a2 e1 => ?_)
  · replace h := zo_n e1 h
    subst e1
    refine lv_aload_n F.1 F.2.1 dX11_takeSegment_148 rfl (lv_at hl 0 rfl) ?_
    refine lv_aload_n F.1 F.2.1 dX11_takeSegment_149 rfl (lv_at hl 1 rfl) ?_
    refine lv_aload_n F.1 F.2.1 dX11_takeSegment_150 rfl (lv_at hl 2 rfl) ?_
    replace h := zc_some h
    obtain ⟨r3, z4, hc5, h⟩ := h
    refine zr_callv (zrun_V (As := [.ref (B 8 x1), .ref (B 7 x2)]) (rest := []) zq_1270 zq_1272 zs_X11_resetStranger zq_1273 zq_1 hdX11_resetStranger (by decide) (T := TX11) (N := 21) rfl (okX11_resetStranger l D cy B ids hst N x0 hx0 x1 hx1 x2 hx2 hr.2.2 hc5) F hr hx0 hl.1 rfl (by decide) dX11_takeSegment_151 rfl rfl hroX11_takeSegment_X11_resetStranger ⟨Nat.zero_le _, Nat.zero_le _⟩) F hA hr (fun H locs hw6 hr => ?_)
    clear hc5
    refine lv_goto (tgt := 238) F.1 F.2.1 dX11_takeSegment_154 (by decide) ?_
    obtain ⟨rfl, rfl⟩ := zret h
    exact E _ _ _ _ dX11_takeSegment_238 trivial hr
  · replace h := zo_s e1 h
    subst e1
    refine lv_aload F.1 F.2.1 dX11_takeSegment_157 (lv_at hl 3 rfl) ?_
    refine gf11_253 F (hx6 _ rfl) hr dX11_takeSegment_159 (fun y7 ey7 => ?_)
    replace h := zl_sub ey7 h
    have hy7 := zal_g hr (hx6 _ rfl) (j := 12) rfl ey7
    clear ey7
    replace h := zd_some h
    obtain ⟨a8, rfl, h⟩ := h
    refine gf11_290 F (hy7 _ rfl) hr dX11_takeSegment_162 ?_
    refine lv_iconst (v := (1 : Int32)) F.1 F.2.1 dX11_takeSegment_165 (by decide) ?_
    refine lv_icmp_ne (tgt := 181) F.1 F.2.1 dX11_takeSegment_166 (by decide) (fun c9 => ?_) (fun c9 => ?_)
    · replace h := zi_t c9 h
      refine lv_aload F.1 F.2.1 dX11_takeSegment_181 (lv_at hl 3 rfl) ?_
      refine gf11_253 F (hx6 _ rfl) hr dX11_takeSegment_183 (fun y10 ey10 => ?_)
      replace h := zl_sub ey10 h
      have hy10 := zal_g hr (hx6 _ rfl) (j := 12) rfl ey10
      clear ey10
      replace h := zd_some h
      obtain ⟨a11, rfl, h⟩ := h
      refine gf11_290 F (hy10 _ rfl) hr dX11_takeSegment_186 ?_
      refine lv_iconst (v := (2 : Int32)) F.1 F.2.1 dX11_takeSegment_189 (by decide) ?_
      refine lv_icmp_ne (tgt := 209) F.1 F.2.1 dX11_takeSegment_190 (by decide) (fun c12 => ?_) (fun c12 => ?_)
      · replace h := zi_t c12 h
        refine lv_aload F.1 F.2.1 dX11_takeSegment_209 (lv_at hl 3 rfl) ?_
        refine gf11_253 F (hx6 _ rfl) hr dX11_takeSegment_211 (fun y13 ey13 => ?_)
        replace h := zl_sub ey13 h
        have hy13 := zal_g hr (hx6 _ rfl) (j := 12) rfl ey13
        clear ey13
        refine lv_aload_n F.1 F.2.1 dX11_takeSegment_214 rfl (lv_at hl 2 rfl) ?_
        refine lv_aload_n F.1 F.2.1 dX11_takeSegment_215 rfl (lv_at hl 0 rfl) ?_
        refine gf11_176 F hx0 hr dX11_takeSegment_216 ?_
        replace h := zd_some h
        obtain ⟨a14, rfl, h⟩ := h
        replace h := zc_some h
        obtain ⟨r15, z16, hc17, h⟩ := h
        refine zr_calli (zrun_VN (As := [.ref (B 7 x2), .int (zgI z 11 4 x0)]) (rest := []) zn_1365 zq_1367 zs_X3_goesOn zq_1368 zq_13 hdX3_goesOn (by decide) (T := TX3) (N := 19) rfl (okX3_goesOn l D cy B ids hst N a14 (hy13 _ rfl) x2 hx2 (zgI z 11 4 x0)  hr.2.2 hc17) F hr (hy13 _ rfl) hl.1 rfl (by decide) dX11_takeSegment_219 rfl rfl hroX11_takeSegment_X3_goesOn ⟨Nat.zero_le _, Nat.zero_le _⟩) F hA hr (fun H locs hw18 hr => ?_)
        clear hc17
        refine lv_if_eq (tgt := 238) F.1 F.2.1 dX11_takeSegment_222 (by decide) (fun c19 => ?_) (fun c19 => ?_)
        · replace h := zi_t c19 h
          obtain ⟨rfl, rfl⟩ := zret h
          exact E _ _ _ _ dX11_takeSegment_238 trivial hr
        · replace h := zi_f c19 h
          refine lv_aload F.1 F.2.1 dX11_takeSegment_225 (lv_at hl 3 rfl) ?_
          refine gf11_253 F (hx6 _ rfl) hr dX11_takeSegment_227 (fun y20 ey20 => ?_)
          replace h := zl_sub ey20 h
          have hy20 := zal_g hr (hx6 _ rfl) (j := 12) rfl ey20
          clear ey20
          refine lv_aload_n F.1 F.2.1 dX11_takeSegment_230 rfl (lv_at hl 2 rfl) ?_
          refine lv_aload_n F.1 F.2.1 dX11_takeSegment_231 rfl (lv_at hl 0 rfl) ?_
          refine gf11_176 F hx0 hr dX11_takeSegment_232 ?_
          replace h := zd_some h
          obtain ⟨a21, rfl, h⟩ := h
          replace h := zc_some h
          obtain ⟨r22, z23, hc24, h⟩ := h
          refine zr_callv (zrun_VN (As := [.ref (B 7 x2), .int (zgI z16 11 4 x0)]) (rest := []) zn_1383 zq_1385 zs_X3_takeRest zq_1386 zq_13 hdX3_takeRest (by decide) (T := TX3) (N := 19) rfl (okX3_takeRest l D cy B ids hst N a21 (hy20 _ rfl) x2 hx2 (zgI z16 11 4 x0)  hr.2.2 hc24) F hr (hy20 _ rfl) hl.1 rfl (by decide) dX11_takeSegment_235 rfl rfl hroX11_takeSegment_X3_takeRest ⟨Nat.zero_le _, Nat.zero_le _⟩) F hA hr (fun H locs hw25 hr => ?_)
          clear hc24
          obtain ⟨rfl, rfl⟩ := zret h
          exact E _ _ _ _ dX11_takeSegment_238 trivial hr
      · replace h := zi_f (fun q => q c12) h
        refine lv_aload F.1 F.2.1 dX11_takeSegment_193 (lv_at hl 3 rfl) ?_
        refine gf11_253 F (hx6 _ rfl) hr dX11_takeSegment_195 (fun y26 ey26 => ?_)
        replace h := zl_sub ey26 h
        have hy26 := zal_g hr (hx6 _ rfl) (j := 12) rfl ey26
        clear ey26
        refine lv_aload_n F.1 F.2.1 dX11_takeSegment_198 rfl (lv_at hl 2 rfl) ?_
        refine lv_aload_n F.1 F.2.1 dX11_takeSegment_199 rfl (lv_at hl 0 rfl) ?_
        refine gf11_176 F hx0 hr dX11_takeSegment_200 ?_
        replace h := zd_some h
        obtain ⟨a27, rfl, h⟩ := h
        replace h := zc_some h
        obtain ⟨r28, z29, hc30, h⟩ := h
        refine zr_callv (zrun_VN (As := [.ref (B 7 x2), .int (zgI z 11 4 x0)]) (rest := []) zn_1334 zq_1336 zs_X3_takeAsking zq_1337 zq_13 hdX3_takeAsking (by decide) (T := TX3) (N := 19) rfl (okX3_takeAsking l D cy B ids hst N a27 (hy26 _ rfl) x2 hx2 (zgI z 11 4 x0)  hr.2.2 hc30) F hr (hy26 _ rfl) hl.1 rfl (by decide) dX11_takeSegment_203 rfl rfl hroX11_takeSegment_X3_takeAsking ⟨Nat.zero_le _, Nat.zero_le _⟩) F hA hr (fun H locs hw31 hr => ?_)
        clear hc30
        refine lv_goto (tgt := 238) F.1 F.2.1 dX11_takeSegment_206 (by decide) ?_
        obtain ⟨rfl, rfl⟩ := zret h
        exact E _ _ _ _ dX11_takeSegment_238 trivial hr
    · replace h := zi_f (fun q => q c9) h
      refine lv_aload F.1 F.2.1 dX11_takeSegment_169 (lv_at hl 3 rfl) ?_
      refine gf11_253 F (hx6 _ rfl) hr dX11_takeSegment_171 (fun y32 ey32 => ?_)
      replace h := zl_sub ey32 h
      have hy32 := zal_g hr (hx6 _ rfl) (j := 12) rfl ey32
      clear ey32
      refine lv_aload_n F.1 F.2.1 dX11_takeSegment_174 rfl (lv_at hl 2 rfl) ?_
      replace h := zd_some h
      obtain ⟨a33, rfl, h⟩ := h
      replace h := zc_some h
      obtain ⟨r34, z35, hc36, h⟩ := h
      refine zr_callv (zrun_VN (As := [.ref (B 7 x2)]) (rest := []) zn_1313 zq_1315 zs_X3_takeListening zq_1316 zq_13 hdX3_takeListening (by decide) (T := TX3) (N := 19) rfl (okX3_takeListening l D cy B ids hst N a33 (hy32 _ rfl) x2 hx2 hr.2.2 hc36) F hr (hy32 _ rfl) hl.1 rfl (by decide) dX11_takeSegment_175 rfl rfl hroX11_takeSegment_X3_takeListening ⟨Nat.zero_le _, Nat.zero_le _⟩) F hA hr (fun H locs hw37 hr => ?_)
      clear hc36
      refine lv_goto (tgt := 238) F.1 F.2.1 dX11_takeSegment_178 (by decide) ?_
      obtain ⟨rfl, rfl⟩ := zret h
      exact E _ _ _ _ dX11_takeSegment_238 trivial hr
def fX11_takeSegment (N : Nat)  (x0 : Nat) (x1 : Nat) (x2 : Nat) (z : St) : Option (Int32 × St) := zl (zgR z 8 0 x1) fun y1 => zc (fX7_readHead N x2 z) fun _ z3 => zc (fX7_get2 N x2 (2 : Int32) z3) fun r6 z7 => zc (fX7_get2 N x2 (0 : Int32) z7) fun r10 z11 => zd y1 fun a14 => zc (fX1_liveDoor N a14 r6 (zgI z11 7 0 x2) r10 z11) fun r15 z16 => zo r15 (if ¬ ((zgI z16 7 15 x2) &&& (13 : Int32)) = (1 : Int32) then (fX11_takeSegment_143 N x0 x1 x2 none z16) else (zc (fX1_listenerAt N a14 r6 z16) fun r22 z23 => if r22 < 0 then (fX11_takeSegment_143 N x0 x1 x2 none z23) else (zc (fX1_doorThrough N a14 r22 z23) fun r27 z28 => zo r27 (some (0, z28)) fun a32 => zc (fX2_giveEnd N a32 r6 (zgI z28 7 0 x2) r10 z28) fun _ z34 => zl (zsI z34 2 6 a32 (1 : Int32)) fun z37 => zl (zsI z37 2 5 a32 r22) fun z38 => zl (zsI z38 11 7 x0 ((zgI z38 11 7 x0) + (1 : Int32))) fun z39 => zl (zgR z39 2 12 a32) fun y40 => zc (fX11_firstNumber N x0 a14 z39) fun r41 z42 => zl (zgR z42 8 1 x1) fun y45 => zd y45 fun a46 => zd y40 fun a47 => zc (fX3_begin N a47 r41 ((zgI z42 5 1 a46) - (40 : Int32)) (zgI z42 11 7 x0) z42) fun _ z49 => fX11_takeSegment_143 N x0 x1 x2 (some a32) z49))) fun a20 => fX11_takeSegment_143 N x0 x1 x2 (some a20) z16
set_option maxHeartbeats 4000000 in
set_option maxRecDepth 100000 in
theorem bX11_takeSegment_0 (hst : zSt B ids) (F : zFx p m c cX11_takeSegment 8 s args RX11 D cy B ids A) (hA : ∀ q : Nat, s.heap.size ≤ q → A q) {r : Int32} {z' : St} (E : zEnd p l e rmX11_takeSegment s m args below meth c cX11_takeSegment D cy B ids A Q none z' .return_ True) {N : Nat}  (x0 : Nat) (x1 : Nat) (x2 : Nat) (hx0 : (11, x0) ∈ ids) (hx1 : (8, x1) ∈ ids) (hx2 : (7, x2) ∈ ids) {z : St} {H : Heap} {locs : List Loc} {ls : Array Slot} (hr : zRep D cy B ids A s.heap z H locs) (hl : lv_has ls 8 [(0, .ref (B 11 x0)), (1, .ref (B 8 x1)), (2, .ref (B 7 x2))]) (h : fX11_takeSegment N x0 x1 x2 z = some (r, z')) : W p l e rmX11_takeSegment s m args below meth c H locs 0 0 Q (F0 m 0 ls []) := by
  unfold fX11_takeSegment at h
  refine lv_aload_n F.1 F.2.1 dX11_takeSegment_0 rfl (lv_at hl 1 rfl) ?_
  refine gf11_474 F hx1 hr dX11_takeSegment_1 (fun y1 ey1 => ?_)
  replace h := zl_sub ey1 h
  have hy1 := zal_g hr hx1 (j := 0) rfl ey1
  clear ey1
  refine zr_astore_n (lv' := [(3, va_rf (Option.map (B 1) y1)), (0, .ref (B 11 x0)), (1, .ref (B 8 x1)), (2, .ref (B 7 x2))]) F.1 F.2.1 dX11_takeSegment_4 rfl hl (by decide) rfl (fun ls hl => ?_)
  refine lv_aload_n F.1 F.2.1 dX11_takeSegment_5 rfl (lv_at hl 3 rfl) ?_
  replace h := zc_some h
  obtain ⟨r2, z3, hc4, h⟩ := h
  refine zr_callv (zrun_VN (As := []) (rest := []) zn_1215 zq_1217 zs_X7_readHead zq_1218 zq_2 hdX7_readHead (by decide) (T := TX7) (N := 20) rfl (okX7_readHead l D cy B ids hst N x2 hx2 hr.2.2 hc4) F hr hx2 hl.1 rfl (by decide) dX11_takeSegment_6 rfl rfl hroX11_takeSegment_X7_readHead ⟨Nat.zero_le _, Nat.zero_le _⟩) F hA hr (fun H locs hw5 hr => ?_)
  clear hc4
  refine lv_aload_n F.1 F.2.1 dX11_takeSegment_9 rfl (lv_at hl 3 rfl) ?_
  refine lv_iconst (v := (2 : Int32)) F.1 F.2.1 dX11_takeSegment_10 (by decide) ?_
  replace h := zc_some h
  obtain ⟨r6, z7, hc8, h⟩ := h
  refine zr_calli (zrun_VN (As := [.int (2 : Int32)]) (rest := []) zn_1140 zq_1138 zs_X7_get2 zq_1139 zq_2 hdX7_get2 (by decide) (T := TX7) (N := 20) rfl (okX7_get2 l D cy B ids hst N x2 hx2 (2 : Int32)  hr.2.2 hc8) F hr hx2 hl.1 rfl (by decide) dX11_takeSegment_11 rfl rfl hroX11_takeSegment_X7_get2 ⟨Nat.zero_le _, Nat.zero_le _⟩) F hA hr (fun H locs hw9 hr => ?_)
  clear hc8
  refine lv_istore (lv' := [(4, .int r6), (3, va_rf (Option.map (B 1) y1)), (0, .ref (B 11 x0)), (1, .ref (B 8 x1)), (2, .ref (B 7 x2))]) F.1 F.2.1 dX11_takeSegment_14 hl (by decide) (by simp only [List.filter, zrf_cat]; rfl) (fun ls hl => ?_)
  refine lv_aload_n F.1 F.2.1 dX11_takeSegment_16 rfl (lv_at hl 4 rfl) ?_
  refine lv_iconst (v := (0 : Int32)) F.1 F.2.1 dX11_takeSegment_17 (by decide) ?_
  replace h := zc_some h
  obtain ⟨r10, z11, hc12, h⟩ := h
  refine zr_calli (zrun_VN (As := [.int (0 : Int32)]) (rest := []) zn_1140 zq_1138 zs_X7_get2 zq_1139 zq_2 hdX7_get2 (by decide) (T := TX7) (N := 20) rfl (okX7_get2 l D cy B ids hst N x2 hx2 (0 : Int32)  hr.2.2 hc12) F hr hx2 hl.1 rfl (by decide) dX11_takeSegment_18 rfl rfl hroX11_takeSegment_X7_get2 ⟨Nat.zero_le _, Nat.zero_le _⟩) F hA hr (fun H locs hw13 hr => ?_)
  clear hc12
  refine lv_istore (lv' := [(5, .int r10), (4, .int r6), (3, va_rf (Option.map (B 1) y1)), (0, .ref (B 11 x0)), (1, .ref (B 8 x1)), (2, .ref (B 7 x2))]) F.1 F.2.1 dX11_takeSegment_21 hl (by decide) rfl (fun ls hl => ?_)
  refine zr_aload_n F.1 F.2.1 dX11_takeSegment_23 rfl (lv_at hl 2 rfl) ?_
  refine lv_iload F.1 F.2.1 dX11_takeSegment_24 (lv_at hl 1 rfl) ?_
  refine lv_aload_n F.1 F.2.1 dX11_takeSegment_26 rfl (lv_at hl 5 rfl) ?_
  refine gf11_535 F hx2 hr dX11_takeSegment_27 ?_
  refine lv_iload F.1 F.2.1 dX11_takeSegment_30 (lv_at hl 0 rfl) ?_
  replace h := zd_some h
  obtain ⟨a14, rfl, h⟩ := h
  replace h := zc_some h
  obtain ⟨r15, z16, hc17, h⟩ := h
  refine zr_callr (zrun_VN (As := [.int r6, .int (zgI z11 7 0 x2), .int r10]) (rest := []) zn_1220 zq_1222 zs_X1_liveDoor zq_1223 zq_9 hdX1_liveDoor (by decide) (T := TX1) (N := 13) rfl (okX1_liveDoor l D cy B ids hst N a14 (hy1 _ rfl) r6  (zgI z11 7 0 x2)  r10  hr.2.2 hc17) F hr (hy1 _ rfl) hl.1 rfl (by decide) dX11_takeSegment_32 rfl rfl hroX11_takeSegment_X1_liveDoor ⟨Nat.zero_le _, Nat.zero_le _⟩) F hA hr (fun H locs hw18 hr => ?_)
  clear hc17
  refine zr_astore (lv' := [(6, va_rf (Option.map (B 2) r15)), (5, .int r10), (4, .int r6), (3, .ref (B 1 a14)), (0, .ref (B 11 x0)), (1, .ref (B 8 x1)), (2, .ref (B 7 x2))]) F.1 F.2.1 dX11_takeSegment_35 hl (by decide) rfl (fun ls hl => ?_)
  refine zr_aload F.1 F.2.1 dX11_takeSegment_37 (lv_at hl 0 rfl) ?_
  refine zr_ifnonnull (tgt := 143) F.1 F.2.1 dX11_takeSegment_39 (by decide) (fun e19 => ?_) (fun a20 e19 => ?_)
  · replace h := zo_n e19 h
    subst e19
    refine lv_aload_n F.1 F.2.1 dX11_takeSegment_42 rfl (lv_at hl 6 rfl) ?_
    refine gf11_861 F hx2 hr dX11_takeSegment_43 ?_
    refine lv_bipush (v := (13 : Int32)) F.1 F.2.1 dX11_takeSegment_46 (by decide) ?_
    refine lv_iand F.1 F.2.1 dX11_takeSegment_48 ?_
    refine lv_iconst (v := (1 : Int32)) F.1 F.2.1 dX11_takeSegment_49 (by decide) ?_
    refine lv_icmp_ne (tgt := 143) F.1 F.2.1 dX11_takeSegment_50 (by decide) (fun c21 => ?_) (fun c21 => ?_)
    · replace h := zi_t c21 h
      exact bX11_takeSegment_143 hst F hA E  x0 x1 x2 none hx0 hx1 hx2 zal_0 hr (lv_sub hl [4, 5, 6, 0] rfl) h
    · replace h := zi_f (fun q => q c21) h
      refine lv_aload_n F.1 F.2.1 dX11_takeSegment_53 rfl (lv_at hl 3 rfl) ?_
      refine lv_iload F.1 F.2.1 dX11_takeSegment_54 (lv_at hl 2 rfl) ?_
      replace h := zc_some h
      obtain ⟨r22, z23, hc24, h⟩ := h
      refine zr_calli (zrun_VN (As := [.int r6]) (rest := []) zn_1229 zq_1231 zs_X1_listenerAt zq_1232 zq_9 hdX1_listenerAt (by decide) (T := TX1) (N := 13) rfl (okX1_listenerAt l D cy B ids hst N a14 (hy1 _ rfl) r6  hr.2.2 hc24) F hr (hy1 _ rfl) hl.1 rfl (by decide) dX11_takeSegment_56 rfl rfl hroX11_takeSegment_X1_listenerAt ⟨Nat.zero_le _, Nat.zero_le _⟩) F hA hr (fun H locs hw25 hr => ?_)
      clear hc24
      refine lv_istore (lv' := [(7, .int r22), (6, .null), (5, .int r10), (4, .int r6), (3, .ref (B 1 a14)), (0, .ref (B 11 x0)), (1, .ref (B 8 x1)), (2, .ref (B 7 x2))]) F.1 F.2.1 dX11_takeSegment_59 hl (by decide) rfl (fun ls hl => ?_)
      refine lv_iload F.1 F.2.1 dX11_takeSegment_61 (lv_at hl 0 rfl) ?_
      refine lv_if_lt (tgt := 143) F.1 F.2.1 dX11_takeSegment_63 (by decide) (fun c26 => ?_) (fun c26 => ?_)
      · replace h := zi_t c26 h
        exact bX11_takeSegment_143 hst F hA E  x0 x1 x2 none hx0 hx1 hx2 zal_0 hr (lv_sub hl [5, 6, 7, 1] rfl) h
      · replace h := zi_f c26 h
        refine lv_aload_n F.1 F.2.1 dX11_takeSegment_66 rfl (lv_at hl 4 rfl) ?_
        refine lv_iload F.1 F.2.1 dX11_takeSegment_67 (lv_at hl 0 rfl) ?_
        replace h := zc_some h
        obtain ⟨r27, z28, hc29, h⟩ := h
        refine zr_callr (zrun_VN (As := [.int r22]) (rest := []) zn_1233 zq_1235 zs_X1_doorThrough zq_1236 zq_9 hdX1_doorThrough (by decide) (T := TX1) (N := 13) rfl (okX1_doorThrough l D cy B ids hst N a14 (hy1 _ rfl) r22  hr.2.2 hc29) F hr (hy1 _ rfl) hl.1 rfl (by decide) dX11_takeSegment_69 rfl rfl hroX11_takeSegment_X1_doorThrough ⟨Nat.zero_le _, Nat.zero_le _⟩) F hA hr (fun H locs hw30 hr => ?_)
        clear hc29
        refine zr_astore (lv' := [(6, va_rf (Option.map (B 2) r27)), (7, .int r22), (5, .int r10), (4, .int r6), (3, .ref (B 1 a14)), (0, .ref (B 11 x0)), (1, .ref (B 8 x1)), (2, .ref (B 7 x2))]) F.1 F.2.1 dX11_takeSegment_72 hl (by decide) rfl (fun ls hl => ?_)
        refine zr_aload F.1 F.2.1 dX11_takeSegment_74 (lv_at hl 0 rfl) ?_
        refine zr_ifnonnull (tgt := 80) F.1 F.2.1 dX11_takeSegment_76 (by decide) (fun e31 => ?_) (fun a32 e31 => ?_)
        · replace h := zo_n e31 h
          subst e31
          obtain ⟨rfl, rfl⟩ := zret h
          exact E _ _ _ _ dX11_takeSegment_79 trivial hr
        · replace h := zo_s e31 h
          subst e31
          refine lv_aload F.1 F.2.1 dX11_takeSegment_80 (lv_at hl 0 rfl) ?_
          refine lv_iload F.1 F.2.1 dX11_takeSegment_82 (lv_at hl 3 rfl) ?_
          refine lv_aload_n F.1 F.2.1 dX11_takeSegment_84 rfl (lv_at hl 7 rfl) ?_
          refine gf11_535 F hx2 hr dX11_takeSegment_85 ?_
          refine lv_iload F.1 F.2.1 dX11_takeSegment_88 (lv_at hl 2 rfl) ?_
          replace h := zc_some h
          obtain ⟨r33, z34, hc35, h⟩ := h
          refine zr_callv (zrun_VN (As := [.int r6, .int (zgI z28 7 0 x2), .int r10]) (rest := []) zn_1241 zq_1243 zs_X2_giveEnd zq_1244 zq_12 hdX2_giveEnd (by decide) (T := TX2) (N := 13) rfl (okX2_giveEnd l D cy B ids hst N a32 (hw30 _ rfl) r6  (zgI z28 7 0 x2)  r10  hr.2.2 hc35) F hr (hw30 _ rfl) hl.1 rfl (by decide) dX11_takeSegment_90 rfl rfl hroX11_takeSegment_X2_giveEnd ⟨Nat.zero_le _, Nat.zero_le _⟩) F hA hr (fun H locs hw36 hr => ?_)
          clear hc35
          refine lv_aload F.1 F.2.1 dX11_takeSegment_93 (lv_at hl 0 rfl) ?_
          refine lv_iconst (v := (1 : Int32)) F.1 F.2.1 dX11_takeSegment_95 (by decide) ?_
          refine pf11_851 F (hw30 _ rfl) hr dX11_takeSegment_96 (1 : Int32) (by decide) (fun H locs z37 ez37 hr => ?_)
          replace h := zl_sub ez37 h
          clear ez37
          refine lv_aload F.1 F.2.1 dX11_takeSegment_99 (lv_at hl 0 rfl) ?_
          refine lv_iload F.1 F.2.1 dX11_takeSegment_101 (lv_at hl 1 rfl) ?_
          refine pf11_284 F (hw30 _ rfl) hr dX11_takeSegment_103 r22 (fun H locs z38 ez38 hr => ?_)
          replace h := zl_sub ez38 h
          clear ez38
          refine lv_aload_n F.1 F.2.1 dX11_takeSegment_106 rfl (lv_at hl 5 rfl) ?_
          refine lv_dup F.1 F.2.1 dX11_takeSegment_107 rfl ?_
          refine gf11_250 F hx0 hr dX11_takeSegment_108 ?_
          refine lv_iconst (v := (1 : Int32)) F.1 F.2.1 dX11_takeSegment_111 (by decide) ?_
          refine lv_iadd F.1 F.2.1 dX11_takeSegment_112 ?_
          refine pf11_250 F hx0 hr dX11_takeSegment_113 ((zgI z38 11 7 x0) + (1 : Int32)) (fun H locs z39 ez39 hr => ?_)
          replace h := zl_sub ez39 h
          clear ez39
          refine lv_aload F.1 F.2.1 dX11_takeSegment_116 (lv_at hl 0 rfl) ?_
          refine gf11_253 F (hw30 _ rfl) hr dX11_takeSegment_118 (fun y40 ey40 => ?_)
          replace h := zl_sub ey40 h
          have hy40 := zal_g hr (hw30 _ rfl) (j := 12) rfl ey40
          clear ey40
          refine lv_aload_n F.1 F.2.1 dX11_takeSegment_121 rfl (lv_at hl 5 rfl) ?_
          refine lv_aload_n F.1 F.2.1 dX11_takeSegment_122 rfl (lv_at hl 4 rfl) ?_
          replace h := zc_some h
          obtain ⟨r41, z42, hc43, h⟩ := h
          refine zr_calli (zrun_V (As := [.ref (B 1 a14)]) (rest := [va_rf (Option.map (B 3) y40)]) zq_1245 zq_1247 zs_X11_firstNumber zq_1248 zq_1 hdX11_firstNumber (by decide) (T := TX11) (N := 21) rfl (okX11_firstNumber l D cy B ids hst N x0 hx0 a14 (hy1 _ rfl) hr.2.2 hc43) F hr hx0 hl.1 rfl (by simp only [List.map, zrf_cat]; exact Nat.le_of_ble_eq_true rfl) dX11_takeSegment_123 rfl rfl hroX11_takeSegment_X11_firstNumber ⟨Nat.zero_le _, Nat.zero_le _⟩) F hA hr (fun H locs hw44 hr => ?_)
          clear hc43
          refine lv_aload_n F.1 F.2.1 dX11_takeSegment_126 rfl (lv_at hl 6 rfl) ?_
          refine gf11_261 F hx1 hr dX11_takeSegment_127 (fun y45 ey45 => ?_)
          replace h := zl_sub ey45 h
          have hy45 := zal_g hr hx1 (j := 1) rfl ey45
          clear ey45
          replace h := zd_some h
          obtain ⟨a46, rfl, h⟩ := h
          refine gf11_90 F (hy45 _ rfl) hr dX11_takeSegment_130 ?_
          refine lv_bipush (v := (40 : Int32)) F.1 F.2.1 dX11_takeSegment_133 (by decide) ?_
          refine lv_isub F.1 F.2.1 dX11_takeSegment_135 ?_
          refine lv_aload_n F.1 F.2.1 dX11_takeSegment_136 rfl (lv_at hl 5 rfl) ?_
          refine gf11_250 F hx0 hr dX11_takeSegment_137 ?_
          replace h := zd_some h
          obtain ⟨a47, rfl, h⟩ := h
          replace h := zc_some h
          obtain ⟨r48, z49, hc50, h⟩ := h
          refine zr_callv (zrun_VN (As := [.int r41, .int ((zgI z42 5 1 a46) - (40 : Int32)), .int (zgI z42 11 7 x0)]) (rest := []) zn_1250 zq_1252 zs_X3_begin zq_1253 zq_13 hdX3_begin (by decide) (T := TX3) (N := 19) rfl (okX3_begin l D cy B ids hst N a47 (hy40 _ rfl) r41  ((zgI z42 5 1 a46) - (40 : Int32))  (zgI z42 11 7 x0)  hr.2.2 hc50) F hr (hy40 _ rfl) hl.1 rfl (by decide) dX11_takeSegment_140 rfl rfl hroX11_takeSegment_X3_begin ⟨Nat.zero_le _, Nat.zero_le _⟩) F hA hr (fun H locs hw51 hr => ?_)
          clear hc50
          exact bX11_takeSegment_143 hst F hA E  x0 x1 x2 (some a32) hx0 hx1 hx2 (zal_s (hw30 _ rfl)) hr (lv_sub hl [5, 6, 7, 0] rfl) h
  · replace h := zo_s e19 h
    subst e19
    exact bX11_takeSegment_143 hst F hA E  x0 x1 x2 (some a20) hx0 hx1 hx2 (zal_s (hw18 _ rfl)) hr (lv_sub hl [4, 5, 6, 0] rfl) h
end SX11_takeSegment
set_option maxRecDepth 100000 in
theorem okX11_takeSegment (l : Launch) (D : va_G) (cy : Nat → ClassId) (B : Nat → Nat → Nat) (ids : List (Nat × Nat)) (hst : zSt B ids) (N : Nat) (x0 : Nat) (hx0 : (11, x0) ∈ ids) (x1 : Nat) (hx1 : (8, x1) ∈ ids) (x2 : Nat) (hx2 : (7, x2) ∈ ids) {z : St} {r : Int32} {z' : St} (hW : zWf ids z) (h : fX11_takeSegment N x0 x1 x2 z = some (r, z')) : zM l yX11_takeSegment (zws yX11_takeSegment cX11_takeSegment 8 none) rmX11_takeSegment D cy B ids [.ref (B 11 x0), .ref (B 8 x1), .ref (B 7 x2)] none True z z' :=
  zM_of hst hW (by decide +kernel) (Nat.le_of_ble_eq_true rfl) (fun p e s m args below meth c A ls F hA hret hlocks hr hl => bX11_takeSegment_0 hst F hA (zEnd_v F hret hlocks) x0 x1 x2 hx0 hx1 hx2 hr hl h)
abbrev rmX11_arriveAt : Room := { frames := 5, cells := 0, slots := 0, locals := 164 }
theorem hdX11_arriveAt : yX11_arriveAt.cls ≠ "java/lang/invoke/MethodHandle" ∧ yX11_arriveAt.cls ≠ "java/lang/invoke/VarHandle" ∧ (parseMethodDescriptor yX11_arriveAt.desc).map (fun d => d.parameters.length) = some 2 := by decide +kernel
theorem hroX11_arriveAt_X11_errorCame : rmX11_errorCame.frames + 1 ≤ rmX11_arriveAt.frames ∧ 8 + (3 + 11) + rmX11_errorCame.locals ≤ rmX11_arriveAt.locals := by decide
theorem hroX11_arriveAt_X11_putNote : rmX11_putNote.frames + 1 ≤ rmX11_arriveAt.frames ∧ 8 + (5 + 11) + rmX11_putNote.locals ≤ rmX11_arriveAt.locals := by decide
theorem hroX11_arriveAt_X11_putTogether : rmX11_putTogether.frames + 1 ≤ rmX11_arriveAt.frames ∧ 8 + (4 + 11) + rmX11_putTogether.locals ≤ rmX11_arriveAt.locals := by decide
theorem hroX11_arriveAt_X11_release : rmX11_release.frames + 1 ≤ rmX11_arriveAt.frames ∧ 8 + (5 + 11) + rmX11_release.locals ≤ rmX11_arriveAt.locals := by decide
theorem hroX11_arriveAt_X11_takeAsRouter : rmX11_takeAsRouter.frames + 1 ≤ rmX11_arriveAt.frames ∧ 8 + (3 + 11) + rmX11_takeAsRouter.locals ≤ rmX11_arriveAt.locals := by decide
theorem hroX11_arriveAt_X11_takeSegment : rmX11_takeSegment.frames + 1 ≤ rmX11_arriveAt.frames ∧ 8 + (8 + 11) + rmX11_takeSegment.locals ≤ rmX11_arriveAt.locals := by decide
theorem hroX11_arriveAt_X1_hasAddress : rmX1_hasAddress.frames + 1 ≤ rmX11_arriveAt.frames ∧ 8 + (3 + 11) + rmX1_hasAddress.locals ≤ rmX11_arriveAt.locals := by decide
theorem hroX11_arriveAt_X8_isAsked : rmX8_isAsked.frames + 1 ≤ rmX11_arriveAt.frames ∧ 8 + (2 + 11) + rmX8_isAsked.locals ≤ rmX11_arriveAt.locals := by decide
section SX11_arriveAt
variable {p : Program} {l : Launch} {e : Env} {s : State} {m : MethodId} {args : Array Value} {below : List Frame} {meth : Method} {c : Code} {Q : State → Prop} {D : va_G} {cy : Nat → ClassId} {B : Nat → Nat → Nat} {ids : List (Nat × Nat)} {A : Nat → Prop}
def fX11_arriveAt_145 (N : Nat)   (z : St) : Option (Int32 × St) := some ((1 : Int32), z)
set_option maxHeartbeats 4000000 in
set_option maxRecDepth 100000 in
theorem bX11_arriveAt_145 (hst : zSt B ids) (F : zFx p m c cX11_arriveAt 5 s args RX11 D cy B ids A) (hA : ∀ q : Nat, s.heap.size ≤ q → A q) {r : Int32} {z' : St} (E : zEnd p l e rmX11_arriveAt s m args below meth c cX11_arriveAt D cy B ids A Q (some (.int r)) z' .ireturn (r = 0 ∨ r = 1)) {N : Nat}    {z : St} {H : Heap} {locs : List Loc} {ls : Array Slot} (hr : zRep D cy B ids A s.heap z H locs) (hl : lv_has ls 5 []) (h : fX11_arriveAt_145 N z = some (r, z')) : W p l e rmX11_arriveAt s m args below meth c H locs 0 0 Q (F0 m 145 ls []) := by
  unfold fX11_arriveAt_145 at h
  refine lv_iconst (v := (1 : Int32)) F.1 F.2.1 dX11_arriveAt_145 (by decide) ?_
  refine lv_goto (tgt := 150) F.1 F.2.1 dX11_arriveAt_146 (by decide) ?_
  obtain ⟨rfl, rfl⟩ := zret h
  exact E _ _ _ _ dX11_arriveAt_150 (by decide) hr
def fX11_arriveAt_151 (N : Nat)  (x0 : Nat) (x1 : Nat) (x2 : Nat) (x3 : Option Nat) (z : St) : Option (Int32 × St) := zd x3 fun a1 => zc (fX11_putTogether N x0 a1 x2 z) fun r2 z3 => zo r2 (some ((0 : Int32), z3)) fun a7 => zk (3 : Int32) 8 <| zk (3 : Int32) 8 <| zl (zsA z3 113 a1 (Int32.toNatClampNeg (3 : Int32)) ((zgA z3 113 a1 (Int32.toNatClampNeg (3 : Int32))) + (1 : Int32))) fun z10 => if ¬ (zgI z10 7 2 a7) = 0 then (if (zgI z10 1 1 a1) = 0 then (if ¬ (zgI z10 7 2 a7) = (1 : Int32) then (some ((0 : Int32), z10)) else (zc (fX11_takeSegment N x0 x1 a7 z10) fun _ z15 => some ((0 : Int32), z15))) else (zc (fX11_takeAsRouter N x0 x1 a7 z10) fun _ z19 => some ((0 : Int32), z19))) else (zc (fX11_errorCame N x0 a1 a7 z10) fun _ z23 => some ((0 : Int32), z23))
set_option maxHeartbeats 4000000 in
set_option maxRecDepth 100000 in
theorem bX11_arriveAt_151 (hst : zSt B ids) (F : zFx p m c cX11_arriveAt 5 s args RX11 D cy B ids A) (hA : ∀ q : Nat, s.heap.size ≤ q → A q) {r : Int32} {z' : St} (E : zEnd p l e rmX11_arriveAt s m args below meth c cX11_arriveAt D cy B ids A Q (some (.int r)) z' .ireturn (r = 0 ∨ r = 1)) {N : Nat}  (x0 : Nat) (x1 : Nat) (x2 : Nat) (x3 : Option Nat) (hx0 : (11, x0) ∈ ids) (hx1 : (8, x1) ∈ ids) (hx2 : (7, x2) ∈ ids) (hx3 : ∀ t, x3 = some t → (1, t) ∈ ids) {z : St} {H : Heap} {locs : List Loc} {ls : Array Slot} (hr : zRep D cy B ids A s.heap z H locs) (hl : lv_has ls 5 [(0, .ref (B 11 x0)), (1, .ref (B 8 x1)), (2, .ref (B 7 x2)), (3, va_rf (Option.map (B 1) x3))]) (h : fX11_arriveAt_151 N x0 x1 x2 x3 z = some (r, z')) : W p l e rmX11_arriveAt s m args below meth c H locs 0 0 Q (F0 m 151 ls []) := by
  unfold fX11_arriveAt_151 at h
  refine lv_aload_n F.1 F.2.1 dX11_arriveAt_151 rfl (lv_at hl 0 rfl) ?_
  refine zr_aload_n F.1 F.2.1 dX11_arriveAt_152 rfl (lv_at hl 3 rfl) ?_
  refine lv_aload_n F.1 F.2.1 dX11_arriveAt_153 rfl (lv_at hl 2 rfl) ?_
  replace h := zd_some h
  obtain ⟨a1, rfl, h⟩ := h
  replace h := zc_some h
  obtain ⟨r2, z3, hc4, h⟩ := h
  refine zr_callr (zrun_V (As := [.ref (B 1 a1), .ref (B 7 x2)]) (rest := []) zq_1094 zq_1096 zs_X11_putTogether zq_1097 zq_1 hdX11_putTogether (by decide) (T := TX11) (N := 21) rfl (okX11_putTogether l D cy B ids hst N x0 hx0 a1 (hx3 _ rfl) x2 hx2 hr.2.2 hc4) F hr hx0 hl.1 rfl (by decide) dX11_arriveAt_154 rfl rfl hroX11_arriveAt_X11_putTogether ⟨Nat.zero_le _, Nat.zero_le _⟩) F hA hr (fun H locs hw5 hr => ?_)
  clear hc4
  refine zr_astore (lv' := [(4, va_rf (Option.map (B 7) r2)), (0, .ref (B 11 x0)), (1, .ref (B 8 x1)), (2, .ref (B 7 x2)), (3, .ref (B 1 a1))]) F.1 F.2.1 dX11_arriveAt_157 hl (by decide) rfl (fun ls hl => ?_)
  refine zr_aload F.1 F.2.1 dX11_arriveAt_159 (lv_at hl 0 rfl) ?_
  refine zr_ifnonnull (tgt := 166) F.1 F.2.1 dX11_arriveAt_161 (by decide) (fun e6 => ?_) (fun a7 e6 => ?_)
  · replace h := zo_n e6 h
    subst e6
    refine lv_iconst (v := (0 : Int32)) F.1 F.2.1 dX11_arriveAt_164 (by decide) ?_
    obtain ⟨rfl, rfl⟩ := zret h
    exact E _ _ _ _ dX11_arriveAt_165 (by decide) hr
  · replace h := zo_s e6 h
    subst e6
    refine lv_aload_n F.1 F.2.1 dX11_arriveAt_166 rfl (lv_at hl 4 rfl) ?_
    refine gf11_439 F (hx3 _ rfl) hr dX11_arriveAt_167 ?_
    refine lv_iconst (v := (3 : Int32)) F.1 F.2.1 dX11_arriveAt_170 (by decide) ?_
    refine lv_dup2_11 F.1 F.2.1 dX11_arriveAt_171 rfl rfl ?_
    replace h := zk_some h
    obtain ⟨c8, h⟩ := h
    refine zr_iald (k := 113) (by decide) rfl (by decide) F (zal_a F (hx3 _ rfl) (j := 4) rfl) hr dX11_arriveAt_172 c8 ?_
    refine lv_iconst (v := (1 : Int32)) F.1 F.2.1 dX11_arriveAt_173 (by decide) ?_
    refine lv_iadd F.1 F.2.1 dX11_arriveAt_174 ?_
    replace h := zk_some h
    obtain ⟨c9, h⟩ := h
    refine zr_iast (k := 113) (by decide) rfl (by decide) F (zal_a F (hx3 _ rfl) (j := 4) rfl) hr dX11_arriveAt_175 c9 (fun H locs z10 ez10 hr => ?_)
    replace h := zl_sub ez10 h
    clear ez10
    refine lv_aload F.1 F.2.1 dX11_arriveAt_176 (lv_at hl 0 rfl) ?_
    refine gf11_600 F (hw5 _ rfl) hr dX11_arriveAt_178 ?_
    refine lv_if_ne (tgt := 194) F.1 F.2.1 dX11_arriveAt_181 (by decide) (fun c11 => ?_) (fun c11 => ?_)
    · replace h := zi_t c11 h
      refine lv_aload_n F.1 F.2.1 dX11_arriveAt_194 rfl (lv_at hl 4 rfl) ?_
      refine gf11_109 F (hx3 _ rfl) hr dX11_arriveAt_195 ?_
      refine lv_if_eq (tgt := 211) F.1 F.2.1 dX11_arriveAt_198 (by decide) (fun c12 => ?_) (fun c12 => ?_)
      · replace h := zi_t c12 h
        refine lv_aload F.1 F.2.1 dX11_arriveAt_211 (lv_at hl 0 rfl) ?_
        refine gf11_600 F (hw5 _ rfl) hr dX11_arriveAt_213 ?_
        refine lv_iconst (v := (1 : Int32)) F.1 F.2.1 dX11_arriveAt_216 (by decide) ?_
        refine lv_icmp_ne (tgt := 227) F.1 F.2.1 dX11_arriveAt_217 (by decide) (fun c13 => ?_) (fun c13 => ?_)
        · replace h := zi_t c13 h
          refine lv_iconst (v := (0 : Int32)) F.1 F.2.1 dX11_arriveAt_227 (by decide) ?_
          obtain ⟨rfl, rfl⟩ := zret h
          exact E _ _ _ _ dX11_arriveAt_228 (by decide) hr
        · replace h := zi_f (fun q => q c13) h
          refine lv_aload_n F.1 F.2.1 dX11_arriveAt_220 rfl (lv_at hl 1 rfl) ?_
          refine lv_aload_n F.1 F.2.1 dX11_arriveAt_221 rfl (lv_at hl 2 rfl) ?_
          refine lv_aload F.1 F.2.1 dX11_arriveAt_222 (lv_at hl 0 rfl) ?_
          replace h := zc_some h
          obtain ⟨r14, z15, hc16, h⟩ := h
          refine zr_callv (zrun_V (As := [.ref (B 8 x1), .ref (B 7 a7)]) (rest := []) zq_1211 zq_1213 zs_X11_takeSegment zq_1214 zq_1 hdX11_takeSegment (by decide) (T := TX11) (N := 21) rfl (okX11_takeSegment l D cy B ids hst N x0 hx0 x1 hx1 a7 (hw5 _ rfl) hr.2.2 hc16) F hr hx0 hl.1 rfl (by decide) dX11_arriveAt_224 rfl rfl hroX11_arriveAt_X11_takeSegment ⟨Nat.zero_le _, Nat.zero_le _⟩) F hA hr (fun H locs hw17 hr => ?_)
          clear hc16
          refine lv_iconst (v := (0 : Int32)) F.1 F.2.1 dX11_arriveAt_227 (by decide) ?_
          obtain ⟨rfl, rfl⟩ := zret h
          exact E _ _ _ _ dX11_arriveAt_228 (by decide) hr
      · replace h := zi_f c12 h
        refine lv_aload_n F.1 F.2.1 dX11_arriveAt_201 rfl (lv_at hl 1 rfl) ?_
        refine lv_aload_n F.1 F.2.1 dX11_arriveAt_202 rfl (lv_at hl 2 rfl) ?_
        refine lv_aload F.1 F.2.1 dX11_arriveAt_203 (lv_at hl 0 rfl) ?_
        replace h := zc_some h
        obtain ⟨r18, z19, hc20, h⟩ := h
        refine zr_callv (zrun_V (As := [.ref (B 8 x1), .ref (B 7 a7)]) (rest := []) zq_1153 zq_1155 zs_X11_takeAsRouter zq_1156 zq_1 hdX11_takeAsRouter (by decide) (T := TX11) (N := 21) rfl (okX11_takeAsRouter l D cy B ids hst N x0 hx0 x1 hx1 a7 (hw5 _ rfl) hr.2.2 hc20) F hr hx0 hl.1 rfl (by decide) dX11_arriveAt_205 rfl rfl hroX11_arriveAt_X11_takeAsRouter ⟨Nat.zero_le _, Nat.zero_le _⟩) F hA hr (fun H locs hw21 hr => ?_)
        clear hc20
        refine lv_goto (tgt := 227) F.1 F.2.1 dX11_arriveAt_208 (by decide) ?_
        refine lv_iconst (v := (0 : Int32)) F.1 F.2.1 dX11_arriveAt_227 (by decide) ?_
        obtain ⟨rfl, rfl⟩ := zret h
        exact E _ _ _ _ dX11_arriveAt_228 (by decide) hr
    · replace h := zi_f (fun q => q c11) h
      refine lv_aload_n F.1 F.2.1 dX11_arriveAt_184 rfl (lv_at hl 1 rfl) ?_
      refine lv_aload_n F.1 F.2.1 dX11_arriveAt_185 rfl (lv_at hl 4 rfl) ?_
      refine lv_aload F.1 F.2.1 dX11_arriveAt_186 (lv_at hl 0 rfl) ?_
      replace h := zc_some h
      obtain ⟨r22, z23, hc24, h⟩ := h
      refine zr_callv (zrun_V (As := [.ref (B 1 a1), .ref (B 7 a7)]) (rest := []) zq_1128 zq_1130 zs_X11_errorCame zq_1131 zq_1 hdX11_errorCame (by decide) (T := TX11) (N := 21) rfl (okX11_errorCame l D cy B ids hst N x0 hx0 a1 (hx3 _ rfl) a7 (hw5 _ rfl) hr.2.2 hc24) F hr hx0 hl.1 rfl (by decide) dX11_arriveAt_188 rfl rfl hroX11_arriveAt_X11_errorCame ⟨Nat.zero_le _, Nat.zero_le _⟩) F hA hr (fun H locs hw25 hr => ?_)
      clear hc24
      refine lv_goto (tgt := 227) F.1 F.2.1 dX11_arriveAt_191 (by decide) ?_
      refine lv_iconst (v := (0 : Int32)) F.1 F.2.1 dX11_arriveAt_227 (by decide) ?_
      obtain ⟨rfl, rfl⟩ := zret h
      exact E _ _ _ _ dX11_arriveAt_228 (by decide) hr
def fX11_arriveAt_51 (N : Nat)  (x0 : Nat) (x1 : Nat) (x2 : Nat) (x3 : Option Nat) (z : St) : Option (Int32 × St) := if ¬ (zgI z 7 2 x2) = (5 : Int32) then (if ¬ (zgI z 7 2 x2) = (6 : Int32) then (if (zgI z 7 1 x2) = 0 then (fX11_arriveAt_151 N x0 x1 x2 x3 z) else (zd x3 fun a4 => zc (fX1_hasAddress N a4 (zgI z 7 1 x2) z) fun r5 z6 => if ¬ r5 = 0 then (fX11_arriveAt_151 N x0 x1 x2 (some a4) z6) else (if (zgI z6 1 1 a4) = 0 then (some ((0 : Int32), z6)) else (if (zgI z6 7 11 x2) < 0 then (some ((0 : Int32), z6)) else (if (zgI z6 7 2 x2) = (1 : Int32) then (fX11_arriveAt_145 N z6) else (if ¬ (zgI z6 7 2 x2) = 0 then (some ((0 : Int32), z6)) else (fX11_arriveAt_145 N z6))))))) else (some ((0 : Int32), z))) else (if ¬ (zgI z 7 1 x2) = (zgI z 8 4 x1) then (some ((0 : Int32), z)) else (zc (fX11_putNote N x0 x1 (zgI z 7 13 x2) (6 : Int32) (zgI z 7 0 x2) z) fun _ z16 => some ((0 : Int32), z16)))
set_option maxHeartbeats 4000000 in
set_option maxRecDepth 100000 in
theorem bX11_arriveAt_51 (hst : zSt B ids) (F : zFx p m c cX11_arriveAt 5 s args RX11 D cy B ids A) (hA : ∀ q : Nat, s.heap.size ≤ q → A q) {r : Int32} {z' : St} (E : zEnd p l e rmX11_arriveAt s m args below meth c cX11_arriveAt D cy B ids A Q (some (.int r)) z' .ireturn (r = 0 ∨ r = 1)) {N : Nat}  (x0 : Nat) (x1 : Nat) (x2 : Nat) (x3 : Option Nat) (hx0 : (11, x0) ∈ ids) (hx1 : (8, x1) ∈ ids) (hx2 : (7, x2) ∈ ids) (hx3 : ∀ t, x3 = some t → (1, t) ∈ ids) {z : St} {H : Heap} {locs : List Loc} {ls : Array Slot} (hr : zRep D cy B ids A s.heap z H locs) (hl : lv_has ls 5 [(0, .ref (B 11 x0)), (1, .ref (B 8 x1)), (2, .ref (B 7 x2)), (3, va_rf (Option.map (B 1) x3))]) (h : fX11_arriveAt_51 N x0 x1 x2 x3 z = some (r, z')) : W p l e rmX11_arriveAt s m args below meth c H locs 0 0 Q (F0 m 51 ls []) := by
  unfold fX11_arriveAt_51 at h
  refine lv_aload_n F.1 F.2.1 dX11_arriveAt_51 rfl (lv_at hl 2 rfl) ?_
  refine gf11_600 F hx2 hr dX11_arriveAt_52 ?_
  refine lv_iconst (v := (5 : Int32)) F.1 F.2.1 dX11_arriveAt_55 (by decide) ?_
  refine lv_icmp_ne (tgt := 87) F.1 F.2.1 dX11_arriveAt_56 (by decide) (fun c1 => ?_) (fun c1 => ?_)
  · replace h := zi_t c1 h
    refine lv_aload_n F.1 F.2.1 dX11_arriveAt_87 rfl (lv_at hl 2 rfl) ?_
    refine gf11_600 F hx2 hr dX11_arriveAt_88 ?_
    refine lv_bipush (v := (6 : Int32)) F.1 F.2.1 dX11_arriveAt_91 (by decide) ?_
    refine lv_icmp_ne (tgt := 98) F.1 F.2.1 dX11_arriveAt_93 (by decide) (fun c2 => ?_) (fun c2 => ?_)
    · replace h := zi_t c2 h
      refine lv_aload_n F.1 F.2.1 dX11_arriveAt_98 rfl (lv_at hl 2 rfl) ?_
      refine gf11_538 F hx2 hr dX11_arriveAt_99 ?_
      refine lv_if_eq (tgt := 151) F.1 F.2.1 dX11_arriveAt_102 (by decide) (fun c3 => ?_) (fun c3 => ?_)
      · replace h := zi_t c3 h
        exact bX11_arriveAt_151 hst F hA E  x0 x1 x2 x3 hx0 hx1 hx2 hx3 hr (lv_sub hl [0, 1, 2, 3] rfl) h
      · replace h := zi_f c3 h
        refine zr_aload_n F.1 F.2.1 dX11_arriveAt_105 rfl (lv_at hl 3 rfl) ?_
        refine lv_aload_n F.1 F.2.1 dX11_arriveAt_106 rfl (lv_at hl 2 rfl) ?_
        refine gf11_538 F hx2 hr dX11_arriveAt_107 ?_
        replace h := zd_some h
        obtain ⟨a4, rfl, h⟩ := h
        replace h := zc_some h
        obtain ⟨r5, z6, hc7, h⟩ := h
        refine zr_calli (zrun_VN (As := [.int (zgI z 7 1 x2)]) (rest := []) zn_1090 zq_1092 zs_X1_hasAddress zq_1093 zq_9 hdX1_hasAddress (by decide) (T := TX1) (N := 13) rfl (okX1_hasAddress l D cy B ids hst N a4 (hx3 _ rfl) (zgI z 7 1 x2)  hr.2.2 hc7) F hr (hx3 _ rfl) hl.1 rfl (by decide) dX11_arriveAt_110 rfl rfl hroX11_arriveAt_X1_hasAddress ⟨Nat.zero_le _, Nat.zero_le _⟩) F hA hr (fun H locs hw8 hr => ?_)
        clear hc7
        refine lv_if_ne (tgt := 151) F.1 F.2.1 dX11_arriveAt_113 (by decide) (fun c9 => ?_) (fun c9 => ?_)
        · replace h := zi_t c9 h
          exact bX11_arriveAt_151 hst F hA E  x0 x1 x2 (some a4) hx0 hx1 hx2 (zal_s (hx3 _ rfl)) hr (lv_sub hl [0, 1, 2, 3] rfl) h
        · replace h := zi_f (fun q => q c9) h
          refine lv_aload_n F.1 F.2.1 dX11_arriveAt_116 rfl (lv_at hl 3 rfl) ?_
          refine gf11_109 F (hx3 _ rfl) hr dX11_arriveAt_117 ?_
          refine lv_if_eq (tgt := 149) F.1 F.2.1 dX11_arriveAt_120 (by decide) (fun c10 => ?_) (fun c10 => ?_)
          · replace h := zi_t c10 h
            refine lv_iconst (v := (0 : Int32)) F.1 F.2.1 dX11_arriveAt_149 (by decide) ?_
            obtain ⟨rfl, rfl⟩ := zret h
            exact E _ _ _ _ dX11_arriveAt_150 (by decide) hr
          · replace h := zi_f c10 h
            refine lv_aload_n F.1 F.2.1 dX11_arriveAt_123 rfl (lv_at hl 2 rfl) ?_
            refine gf11_525 F hx2 hr dX11_arriveAt_124 ?_
            refine lv_if_lt (tgt := 149) F.1 F.2.1 dX11_arriveAt_127 (by decide) (fun c11 => ?_) (fun c11 => ?_)
            · replace h := zi_t c11 h
              refine lv_iconst (v := (0 : Int32)) F.1 F.2.1 dX11_arriveAt_149 (by decide) ?_
              obtain ⟨rfl, rfl⟩ := zret h
              exact E _ _ _ _ dX11_arriveAt_150 (by decide) hr
            · replace h := zi_f c11 h
              refine lv_aload_n F.1 F.2.1 dX11_arriveAt_130 rfl (lv_at hl 2 rfl) ?_
              refine gf11_600 F hx2 hr dX11_arriveAt_131 ?_
              refine lv_iconst (v := (1 : Int32)) F.1 F.2.1 dX11_arriveAt_134 (by decide) ?_
              refine lv_icmp_eq (tgt := 145) F.1 F.2.1 dX11_arriveAt_135 (by decide) (fun c12 => ?_) (fun c12 => ?_)
              · replace h := zi_t c12 h
                exact bX11_arriveAt_145 hst F hA E   hr (lv_sub hl [] rfl) h
              · replace h := zi_f c12 h
                refine lv_aload_n F.1 F.2.1 dX11_arriveAt_138 rfl (lv_at hl 2 rfl) ?_
                refine gf11_600 F hx2 hr dX11_arriveAt_139 ?_
                refine lv_if_ne (tgt := 149) F.1 F.2.1 dX11_arriveAt_142 (by decide) (fun c13 => ?_) (fun c13 => ?_)
                · replace h := zi_t c13 h
                  refine lv_iconst (v := (0 : Int32)) F.1 F.2.1 dX11_arriveAt_149 (by decide) ?_
                  obtain ⟨rfl, rfl⟩ := zret h
                  exact E _ _ _ _ dX11_arriveAt_150 (by decide) hr
                · replace h := zi_f (fun q => q c13) h
                  exact bX11_arriveAt_145 hst F hA E   hr (lv_sub hl [] rfl) h
    · replace h := zi_f (fun q => q c2) h
      refine lv_iconst (v := (0 : Int32)) F.1 F.2.1 dX11_arriveAt_96 (by decide) ?_
      obtain ⟨rfl, rfl⟩ := zret h
      exact E _ _ _ _ dX11_arriveAt_97 (by decide) hr
  · replace h := zi_f (fun q => q c1) h
    refine lv_aload_n F.1 F.2.1 dX11_arriveAt_59 rfl (lv_at hl 2 rfl) ?_
    refine gf11_538 F hx2 hr dX11_arriveAt_60 ?_
    refine lv_aload_n F.1 F.2.1 dX11_arriveAt_63 rfl (lv_at hl 1 rfl) ?_
    refine gf11_141 F hx1 hr dX11_arriveAt_64 ?_
    refine lv_icmp_ne (tgt := 85) F.1 F.2.1 dX11_arriveAt_67 (by decide) (fun c14 => ?_) (fun c14 => ?_)
    · replace h := zi_t c14 h
      refine lv_iconst (v := (0 : Int32)) F.1 F.2.1 dX11_arriveAt_85 (by decide) ?_
      obtain ⟨rfl, rfl⟩ := zret h
      exact E _ _ _ _ dX11_arriveAt_86 (by decide) hr
    · replace h := zi_f (fun q => q c14) h
      refine lv_aload_n F.1 F.2.1 dX11_arriveAt_70 rfl (lv_at hl 0 rfl) ?_
      refine lv_aload_n F.1 F.2.1 dX11_arriveAt_71 rfl (lv_at hl 1 rfl) ?_
      refine lv_aload_n F.1 F.2.1 dX11_arriveAt_72 rfl (lv_at hl 2 rfl) ?_
      refine gf11_522 F hx2 hr dX11_arriveAt_73 ?_
      refine lv_bipush (v := (6 : Int32)) F.1 F.2.1 dX11_arriveAt_76 (by decide) ?_
      refine lv_aload_n F.1 F.2.1 dX11_arriveAt_78 rfl (lv_at hl 2 rfl) ?_
      refine gf11_535 F hx2 hr dX11_arriveAt_79 ?_
      replace h := zc_some h
      obtain ⟨r15, z16, hc17, h⟩ := h
      refine zr_callv (zrun_V (As := [.ref (B 8 x1), .int (zgI z 7 13 x2), .int (6 : Int32), .int (zgI z 7 0 x2)]) (rest := []) zq_1082 zq_1084 zs_X11_putNote zq_1085 zq_1 hdX11_putNote (by decide) (T := TX11) (N := 21) rfl (okX11_putNote l D cy B ids hst N x0 hx0 x1 hx1 (zgI z 7 13 x2)  (6 : Int32)  (zgI z 7 0 x2)  hr.2.2 hc17) F hr hx0 hl.1 rfl (by decide) dX11_arriveAt_82 rfl rfl hroX11_arriveAt_X11_putNote ⟨Nat.zero_le _, Nat.zero_le _⟩) F hA hr (fun H locs hw18 hr => ?_)
      clear hc17
      refine lv_iconst (v := (0 : Int32)) F.1 F.2.1 dX11_arriveAt_85 (by decide) ?_
      obtain ⟨rfl, rfl⟩ := zret h
      exact E _ _ _ _ dX11_arriveAt_86 (by decide) hr
def fX11_arriveAt (N : Nat)  (x0 : Nat) (x1 : Nat) (x2 : Nat) (z : St) : Option (Int32 × St) := zl (zgR z 8 0 x1) fun y1 => zl (zgR z 8 1 x1) fun y2 => zd y2 fun a3 => zl (zsI z 5 10 a3 ((zgI z 5 10 a3) + (1 : Int32))) fun z4 => zk (zgI z4 7 13 x2) 8 <| zl (zsA z4 126 x1 (Int32.toNatClampNeg (zgI z4 7 13 x2)) (zgI z4 11 4 x0)) fun z6 => zc (fX8_isAsked N x1 (zgI z6 7 13 x2) z6) fun r7 z8 => if r7 = 0 then (fX11_arriveAt_51 N x0 x1 x2 y1 z8) else (zc (fX11_release N x0 x1 (zgI z8 7 13 x2) z8) fun _ z13 => fX11_arriveAt_51 N x0 x1 x2 y1 z13)
set_option maxHeartbeats 4000000 in
set_option maxRecDepth 100000 in
theorem bX11_arriveAt_0 (hst : zSt B ids) (F : zFx p m c cX11_arriveAt 5 s args RX11 D cy B ids A) (hA : ∀ q : Nat, s.heap.size ≤ q → A q) {r : Int32} {z' : St} (E : zEnd p l e rmX11_arriveAt s m args below meth c cX11_arriveAt D cy B ids A Q (some (.int r)) z' .ireturn (r = 0 ∨ r = 1)) {N : Nat}  (x0 : Nat) (x1 : Nat) (x2 : Nat) (hx0 : (11, x0) ∈ ids) (hx1 : (8, x1) ∈ ids) (hx2 : (7, x2) ∈ ids) {z : St} {H : Heap} {locs : List Loc} {ls : Array Slot} (hr : zRep D cy B ids A s.heap z H locs) (hl : lv_has ls 5 [(0, .ref (B 11 x0)), (1, .ref (B 8 x1)), (2, .ref (B 7 x2))]) (h : fX11_arriveAt N x0 x1 x2 z = some (r, z')) : W p l e rmX11_arriveAt s m args below meth c H locs 0 0 Q (F0 m 0 ls []) := by
  unfold fX11_arriveAt at h
  refine lv_aload_n F.1 F.2.1 dX11_arriveAt_0 rfl (lv_at hl 1 rfl) ?_
  refine gf11_474 F hx1 hr dX11_arriveAt_1 (fun y1 ey1 => ?_)
  replace h := zl_sub ey1 h
  have hy1 := zal_g hr hx1 (j := 0) rfl ey1
  clear ey1
  refine zr_astore_n (lv' := [(3, va_rf (Option.map (B 1) y1)), (0, .ref (B 11 x0)), (1, .ref (B 8 x1)), (2, .ref (B 7 x2))]) F.1 F.2.1 dX11_arriveAt_4 rfl hl (by decide) rfl (fun ls hl => ?_)
  refine lv_aload_n F.1 F.2.1 dX11_arriveAt_5 rfl (lv_at hl 2 rfl) ?_
  refine gf11_261 F hx1 hr dX11_arriveAt_6 (fun y2 ey2 => ?_)
  replace h := zl_sub ey2 h
  have hy2 := zal_g hr hx1 (j := 1) rfl ey2
  clear ey2
  refine lv_dup F.1 F.2.1 dX11_arriveAt_9 zrf_cat ?_
  replace h := zd_some h
  obtain ⟨a3, rfl, h⟩ := h
  refine gf11_434 F (hy2 _ rfl) hr dX11_arriveAt_10 ?_
  refine lv_iconst (v := (1 : Int32)) F.1 F.2.1 dX11_arriveAt_13 (by decide) ?_
  refine lv_iadd F.1 F.2.1 dX11_arriveAt_14 ?_
  refine pf11_434 F (hy2 _ rfl) hr dX11_arriveAt_15 ((zgI z 5 10 a3) + (1 : Int32)) (fun H locs z4 ez4 hr => ?_)
  replace h := zl_sub ez4 h
  clear ez4
  refine lv_aload_n F.1 F.2.1 dX11_arriveAt_18 rfl (lv_at hl 2 rfl) ?_
  refine gf11_593 F hx1 hr dX11_arriveAt_19 ?_
  refine lv_aload_n F.1 F.2.1 dX11_arriveAt_22 rfl (lv_at hl 3 rfl) ?_
  refine gf11_522 F hx2 hr dX11_arriveAt_23 ?_
  refine lv_aload_n F.1 F.2.1 dX11_arriveAt_26 rfl (lv_at hl 1 rfl) ?_
  refine gf11_176 F hx0 hr dX11_arriveAt_27 ?_
  replace h := zk_some h
  obtain ⟨c5, h⟩ := h
  refine zr_iast (k := 126) (by decide) rfl (by decide) F (zal_a F hx1 (j := 6) rfl) hr dX11_arriveAt_30 c5 (fun H locs z6 ez6 hr => ?_)
  replace h := zl_sub ez6 h
  clear ez6
  refine lv_aload_n F.1 F.2.1 dX11_arriveAt_31 rfl (lv_at hl 2 rfl) ?_
  refine lv_aload_n F.1 F.2.1 dX11_arriveAt_32 rfl (lv_at hl 3 rfl) ?_
  refine gf11_522 F hx2 hr dX11_arriveAt_33 ?_
  replace h := zc_some h
  obtain ⟨r7, z8, hc9, h⟩ := h
  refine zr_calli (zrun_VN (As := [.int (zgI z6 7 13 x2)]) (rest := []) zn_1043 zq_1045 zs_X8_isAsked zq_1046 zq_24 hdX8_isAsked (by decide) (T := TX8) (N := 13) rfl (okX8_isAsked l D cy B ids hst N x1 hx1 (zgI z6 7 13 x2)  hr.2.2 hc9) F hr hx1 hl.1 rfl (by decide) dX11_arriveAt_36 rfl rfl hroX11_arriveAt_X8_isAsked ⟨Nat.zero_le _, Nat.zero_le _⟩) F hA hr (fun H locs hw10 hr => ?_)
  clear hc9
  refine lv_if_eq (tgt := 51) F.1 F.2.1 dX11_arriveAt_39 (by decide) (fun c11 => ?_) (fun c11 => ?_)
  · replace h := zi_t c11 h
    exact bX11_arriveAt_51 hst F hA E  x0 x1 x2 y1 hx0 hx1 hx2 hy1 hr (lv_sub hl [1, 2, 3, 0] rfl) h
  · replace h := zi_f c11 h
    refine lv_aload_n F.1 F.2.1 dX11_arriveAt_42 rfl (lv_at hl 1 rfl) ?_
    refine lv_aload_n F.1 F.2.1 dX11_arriveAt_43 rfl (lv_at hl 2 rfl) ?_
    refine lv_aload_n F.1 F.2.1 dX11_arriveAt_44 rfl (lv_at hl 3 rfl) ?_
    refine gf11_522 F hx2 hr dX11_arriveAt_45 ?_
    replace h := zc_some h
    obtain ⟨r12, z13, hc14, h⟩ := h
    refine zr_callv (zrun_V (As := [.ref (B 8 x1), .int (zgI z8 7 13 x2)]) (rest := []) zq_1047 zq_1049 zs_X11_release zq_1050 zq_1 hdX11_release (by decide) (T := TX11) (N := 21) rfl (okX11_release l D cy B ids hst N x0 hx0 x1 hx1 (zgI z8 7 13 x2)  hr.2.2 hc14) F hr hx0 hl.1 rfl (by decide) dX11_arriveAt_48 rfl rfl hroX11_arriveAt_X11_release ⟨Nat.zero_le _, Nat.zero_le _⟩) F hA hr (fun H locs hw15 hr => ?_)
    clear hc14
    exact bX11_arriveAt_51 hst F hA E  x0 x1 x2 y1 hx0 hx1 hx2 hy1 hr (lv_sub hl [1, 2, 3, 0] rfl) h
end SX11_arriveAt
set_option maxRecDepth 100000 in
theorem okX11_arriveAt (l : Launch) (D : va_G) (cy : Nat → ClassId) (B : Nat → Nat → Nat) (ids : List (Nat × Nat)) (hst : zSt B ids) (N : Nat) (x0 : Nat) (hx0 : (11, x0) ∈ ids) (x1 : Nat) (hx1 : (8, x1) ∈ ids) (x2 : Nat) (hx2 : (7, x2) ∈ ids) {z : St} {r : Int32} {z' : St} (hW : zWf ids z) (h : fX11_arriveAt N x0 x1 x2 z = some (r, z')) : zM l yX11_arriveAt (zws yX11_arriveAt cX11_arriveAt 5 (some .boolean)) rmX11_arriveAt D cy B ids [.ref (B 11 x0), .ref (B 8 x1), .ref (B 7 x2)] (some (.int r)) (r = 0 ∨ r = 1) z z' :=
  zM_of hst hW (by decide +kernel) (Nat.le_of_ble_eq_true rfl) (fun p e s m args below meth c A ls F hA hret hlocks hr hl => bX11_arriveAt_0 hst F hA (zEnd_z F hret hlocks) x0 x1 x2 hx0 hx1 hx2 hr hl h)
abbrev rmX11_comeBack : Room := { frames := 2, cells := 0, slots := 0, locals := 49 }
theorem hdX11_comeBack : yX11_comeBack.cls ≠ "java/lang/invoke/MethodHandle" ∧ yX11_comeBack.cls ≠ "java/lang/invoke/VarHandle" ∧ (parseMethodDescriptor yX11_comeBack.desc).map (fun d => d.parameters.length) = some 3 := by decide +kernel
theorem hroX11_comeBack_X11_abortAsking : rmX11_abortAsking.frames + 1 ≤ rmX11_comeBack.frames ∧ 8 + (7 + 11) + rmX11_abortAsking.locals ≤ rmX11_comeBack.locals := by decide
theorem hroX11_comeBack_X1_hasAddress : rmX1_hasAddress.frames + 1 ≤ rmX11_comeBack.frames ∧ 8 + (3 + 11) + rmX1_hasAddress.locals ≤ rmX11_comeBack.locals := by decide
theorem hroX11_comeBack_X1_nextNumber : rmX1_nextNumber.frames + 1 ≤ rmX11_comeBack.frames ∧ 8 + (1 + 11) + rmX1_nextNumber.locals ≤ rmX11_comeBack.locals := by decide
theorem hroX11_comeBack_X7_begin : rmX7_begin.frames + 1 ≤ rmX11_comeBack.frames ∧ 8 + (3 + 11) + rmX7_begin.locals ≤ rmX11_comeBack.locals := by decide
theorem hroX11_comeBack_X7_get2 : rmX7_get2.frames + 1 ≤ rmX11_comeBack.frames ∧ 8 + (2 + 11) + rmX7_get2.locals ≤ rmX11_comeBack.locals := by decide
theorem hroX11_comeBack_X7_put2 : rmX7_put2.frames + 1 ≤ rmX11_comeBack.frames ∧ 8 + (3 + 11) + rmX7_put2.locals ≤ rmX11_comeBack.locals := by decide
theorem hroX11_comeBack_X7_put4 : rmX7_put4.frames + 1 ≤ rmX11_comeBack.frames ∧ 8 + (4 + 11) + rmX7_put4.locals ≤ rmX11_comeBack.locals := by decide
section SX11_comeBack
variable {p : Program} {l : Launch} {e : Env} {s : State} {m : MethodId} {args : Array Value} {below : List Frame} {meth : Method} {c : Code} {Q : State → Prop} {D : va_G} {cy : Nat → ClassId} {B : Nat → Nat → Nat} {ids : List (Nat × Nat)} {A : Nat → Prop}
def fX11_comeBack_82 (N : Nat)  (x0 : Nat) (x1 : Nat) (x2 : Nat) (x3 : Int32) (s0 : Option Nat) (z : St) : Option (Int32 × St) := zo s0 (some (0, z)) fun a2 => zl (zgR z 11 13 x0) fun y3 => zd y3 fun a4 => zc (fX7_begin N a4 (0 : Int32) (36 : Int32) z) fun _ z6 => zl (zgR z6 11 13 x0) fun y9 => zd y9 fun a10 => zl (zsI z6 7 0 a10 (zgI z6 8 4 a2)) fun z11 => zl (zgR z11 11 13 x0) fun y12 => zd y12 fun a13 => zl (zsI z11 7 1 a13 (zgI z11 7 0 x2)) fun z14 => zl (zgR z14 11 13 x0) fun y15 => zc (fX1_nextNumber N x1 z14) fun r16 z17 => zd y15 fun a20 => zl (zsI z17 7 3 a20 r16) fun z21 => zl (zgR z21 11 13 x0) fun y22 => zd y22 fun a23 => zc (fX7_put4 N a23 (0 : Int32) (zgI z21 7 0 x2) z21) fun _ z25 => zl (zgR z25 11 13 x0) fun y28 => zd y28 fun a29 => zc (fX7_put4 N a29 (4 : Int32) (zgI z25 7 1 x2) z25) fun _ z31 => zl (zgR z31 11 13 x0) fun y34 => zc (fX7_get2 N x2 (0 : Int32) z31) fun r35 z36 => zd y34 fun a39 => zc (fX7_put2 N a39 (8 : Int32) r35 z36) fun _ z41 => zl (zgR z41 11 13 x0) fun y44 => zc (fX7_get2 N x2 (2 : Int32) z41) fun r45 z46 => zd y44 fun a49 => zc (fX7_put2 N a49 (10 : Int32) r45 z46) fun _ z51 => zl (zgR z51 11 13 x0) fun y54 => zd y54 fun a55 => zc (fX7_put2 N a55 (12 : Int32) x3 z51) fun _ z57 => zl (zsI z57 11 15 x0 (1 : Int32)) fun z60 => some (0, z60)
set_option maxHeartbeats 4000000 in
set_option maxRecDepth 100000 in
theorem bX11_comeBack_82 (hst : zSt B ids) (F : zFx p m c cX11_comeBack 5 s args RX11 D cy B ids A) (hA : ∀ q : Nat, s.heap.size ≤ q → A q) {r : Int32} {z' : St} (E : zEnd p l e rmX11_comeBack s m args below meth c cX11_comeBack D cy B ids A Q none z' .return_ True) {N : Nat}  (x0 : Nat) (x1 : Nat) (x2 : Nat) (x3 : Int32) (s0 : Option Nat) (hx0 : (11, x0) ∈ ids) (hx1 : (1, x1) ∈ ids) (hx2 : (7, x2) ∈ ids) (hs0 : ∀ t, s0 = some t → (8, t) ∈ ids) {z : St} {H : Heap} {locs : List Loc} {ls : Array Slot} (hr : zRep D cy B ids A s.heap z H locs) (hl : lv_has ls 5 [(0, .ref (B 11 x0)), (1, .ref (B 1 x1)), (2, .ref (B 7 x2)), (3, .int x3)]) (h : fX11_comeBack_82 N x0 x1 x2 x3 s0 z = some (r, z')) : W p l e rmX11_comeBack s m args below meth c H locs 0 0 Q (F0 m 82 ls [va_rf (Option.map (B 8) s0)]) := by
  unfold fX11_comeBack_82 at h
  refine zr_astore (lv' := [(4, va_rf (Option.map (B 8) s0)), (0, .ref (B 11 x0)), (1, .ref (B 1 x1)), (2, .ref (B 7 x2)), (3, .int x3)]) F.1 F.2.1 dX11_comeBack_82 hl (by decide) rfl (fun ls hl => ?_)
  refine zr_aload F.1 F.2.1 dX11_comeBack_84 (lv_at hl 0 rfl) ?_
  refine zr_ifnonnull (tgt := 90) F.1 F.2.1 dX11_comeBack_86 (by decide) (fun e1 => ?_) (fun a2 e1 => ?_)
  · replace h := zo_n e1 h
    subst e1
    obtain ⟨rfl, rfl⟩ := zret h
    exact E _ _ _ _ dX11_comeBack_89 trivial hr
  · replace h := zo_s e1 h
    subst e1
    refine lv_aload_n F.1 F.2.1 dX11_comeBack_90 rfl (lv_at hl 1 rfl) ?_
    refine gf11_31 F hx0 hr dX11_comeBack_91 (fun y3 ey3 => ?_)
    replace h := zl_sub ey3 h
    have hy3 := zal_g hr hx0 (j := 13) rfl ey3
    clear ey3
    refine lv_iconst (v := (0 : Int32)) F.1 F.2.1 dX11_comeBack_94 (by decide) ?_
    refine lv_bipush (v := (36 : Int32)) F.1 F.2.1 dX11_comeBack_95 (by decide) ?_
    replace h := zd_some h
    obtain ⟨a4, rfl, h⟩ := h
    replace h := zc_some h
    obtain ⟨r5, z6, hc7, h⟩ := h
    refine zr_callv (zrun_VN (As := [.int (0 : Int32), .int (36 : Int32)]) (rest := []) zn_1086 zq_1088 zs_X7_begin zq_1089 zq_2 hdX7_begin (by decide) (T := TX7) (N := 20) rfl (okX7_begin l D cy B ids hst N a4 (hy3 _ rfl) (0 : Int32)  (36 : Int32)  hr.2.2 hc7) F hr (hy3 _ rfl) hl.1 rfl (by decide) dX11_comeBack_97 rfl rfl hroX11_comeBack_X7_begin ⟨Nat.zero_le _, Nat.zero_le _⟩) F hA hr (fun H locs hw8 hr => ?_)
    clear hc7
    refine lv_aload_n F.1 F.2.1 dX11_comeBack_100 rfl (lv_at hl 1 rfl) ?_
    refine gf11_31 F hx0 hr dX11_comeBack_101 (fun y9 ey9 => ?_)
    replace h := zl_sub ey9 h
    have hy9 := zal_g hr hx0 (j := 13) rfl ey9
    clear ey9
    refine lv_aload F.1 F.2.1 dX11_comeBack_104 (lv_at hl 0 rfl) ?_
    refine gf11_141 F (hs0 _ rfl) hr dX11_comeBack_106 ?_
    replace h := zd_some h
    obtain ⟨a10, rfl, h⟩ := h
    refine pf11_535 F (hy9 _ rfl) hr dX11_comeBack_109 (zgI z6 8 4 a2) (fun H locs z11 ez11 hr => ?_)
    replace h := zl_sub ez11 h
    clear ez11
    refine lv_aload_n F.1 F.2.1 dX11_comeBack_112 rfl (lv_at hl 1 rfl) ?_
    refine gf11_31 F hx0 hr dX11_comeBack_113 (fun y12 ey12 => ?_)
    replace h := zl_sub ey12 h
    have hy12 := zal_g hr hx0 (j := 13) rfl ey12
    clear ey12
    refine lv_aload_n F.1 F.2.1 dX11_comeBack_116 rfl (lv_at hl 3 rfl) ?_
    refine gf11_535 F hx2 hr dX11_comeBack_117 ?_
    replace h := zd_some h
    obtain ⟨a13, rfl, h⟩ := h
    refine pf11_538 F (hy12 _ rfl) hr dX11_comeBack_120 (zgI z11 7 0 x2) (fun H locs z14 ez14 hr => ?_)
    replace h := zl_sub ez14 h
    clear ez14
    refine lv_aload_n F.1 F.2.1 dX11_comeBack_123 rfl (lv_at hl 1 rfl) ?_
    refine gf11_31 F hx0 hr dX11_comeBack_124 (fun y15 ey15 => ?_)
    replace h := zl_sub ey15 h
    have hy15 := zal_g hr hx0 (j := 13) rfl ey15
    clear ey15
    refine lv_aload_n F.1 F.2.1 dX11_comeBack_127 rfl (lv_at hl 2 rfl) ?_
    replace h := zc_some h
    obtain ⟨r16, z17, hc18, h⟩ := h
    refine zr_calli (zrun_VN (As := []) (rest := [va_rf (Option.map (B 7) y15)]) zn_1309 zq_1311 zs_X1_nextNumber zq_1312 zq_9 hdX1_nextNumber (by decide) (T := TX1) (N := 13) rfl (okX1_nextNumber l D cy B ids hst N x1 hx1 hr.2.2 hc18) F hr hx1 hl.1 rfl (by simp only [List.map, zrf_cat]; exact Nat.le_of_ble_eq_true rfl) dX11_comeBack_128 rfl rfl hroX11_comeBack_X1_nextNumber ⟨Nat.zero_le _, Nat.zero_le _⟩) F hA hr (fun H locs hw19 hr => ?_)
    clear hc18
    replace h := zd_some h
    obtain ⟨a20, rfl, h⟩ := h
    refine pf11_691 F (hy15 _ rfl) hr dX11_comeBack_131 r16 (fun H locs z21 ez21 hr => ?_)
    replace h := zl_sub ez21 h
    clear ez21
    refine lv_aload_n F.1 F.2.1 dX11_comeBack_134 rfl (lv_at hl 1 rfl) ?_
    refine gf11_31 F hx0 hr dX11_comeBack_135 (fun y22 ey22 => ?_)
    replace h := zl_sub ey22 h
    have hy22 := zal_g hr hx0 (j := 13) rfl ey22
    clear ey22
    refine lv_iconst (v := (0 : Int32)) F.1 F.2.1 dX11_comeBack_138 (by decide) ?_
    refine lv_aload_n F.1 F.2.1 dX11_comeBack_139 rfl (lv_at hl 3 rfl) ?_
    refine gf11_535 F hx2 hr dX11_comeBack_140 ?_
    replace h := zd_some h
    obtain ⟨a23, rfl, h⟩ := h
    replace h := zc_some h
    obtain ⟨r24, z25, hc26, h⟩ := h
    refine zr_callv (zrun_VN (As := [.int (0 : Int32), .int (zgI z21 7 0 x2)]) (rest := []) zn_1426 zq_1302 zs_X7_put4 zq_1303 zq_2 hdX7_put4 (by decide) (T := TX7) (N := 20) rfl (okX7_put4 l D cy B ids hst N a23 (hy22 _ rfl) (0 : Int32)  (zgI z21 7 0 x2)  hr.2.2 hc26) F hr (hy22 _ rfl) hl.1 rfl (by decide) dX11_comeBack_143 rfl rfl hroX11_comeBack_X7_put4 ⟨Nat.zero_le _, Nat.zero_le _⟩) F hA hr (fun H locs hw27 hr => ?_)
    clear hc26
    refine lv_aload_n F.1 F.2.1 dX11_comeBack_146 rfl (lv_at hl 1 rfl) ?_
    refine gf11_31 F hx0 hr dX11_comeBack_147 (fun y28 ey28 => ?_)
    replace h := zl_sub ey28 h
    have hy28 := zal_g hr hx0 (j := 13) rfl ey28
    clear ey28
    refine lv_iconst (v := (4 : Int32)) F.1 F.2.1 dX11_comeBack_150 (by decide) ?_
    refine lv_aload_n F.1 F.2.1 dX11_comeBack_151 rfl (lv_at hl 3 rfl) ?_
    refine gf11_538 F hx2 hr dX11_comeBack_152 ?_
    replace h := zd_some h
    obtain ⟨a29, rfl, h⟩ := h
    replace h := zc_some h
    obtain ⟨r30, z31, hc32, h⟩ := h
    refine zr_callv (zrun_VN (As := [.int (4 : Int32), .int (zgI z25 7 1 x2)]) (rest := []) zn_1426 zq_1302 zs_X7_put4 zq_1303 zq_2 hdX7_put4 (by decide) (T := TX7) (N := 20) rfl (okX7_put4 l D cy B ids hst N a29 (hy28 _ rfl) (4 : Int32)  (zgI z25 7 1 x2)  hr.2.2 hc32) F hr (hy28 _ rfl) hl.1 rfl (by decide) dX11_comeBack_155 rfl rfl hroX11_comeBack_X7_put4 ⟨Nat.zero_le _, Nat.zero_le _⟩) F hA hr (fun H locs hw33 hr => ?_)
    clear hc32
    refine lv_aload_n F.1 F.2.1 dX11_comeBack_158 rfl (lv_at hl 1 rfl) ?_
    refine gf11_31 F hx0 hr dX11_comeBack_159 (fun y34 ey34 => ?_)
    replace h := zl_sub ey34 h
    have hy34 := zal_g hr hx0 (j := 13) rfl ey34
    clear ey34
    refine lv_bipush (v := (8 : Int32)) F.1 F.2.1 dX11_comeBack_162 (by decide) ?_
    refine lv_aload_n F.1 F.2.1 dX11_comeBack_164 rfl (lv_at hl 3 rfl) ?_
    refine lv_iconst (v := (0 : Int32)) F.1 F.2.1 dX11_comeBack_165 (by decide) ?_
    replace h := zc_some h
    obtain ⟨r35, z36, hc37, h⟩ := h
    refine zr_calli (zrun_VN (As := [.int (0 : Int32)]) (rest := [.int (8 : Int32), va_rf (Option.map (B 7) y34)]) zn_1140 zq_1138 zs_X7_get2 zq_1139 zq_2 hdX7_get2 (by decide) (T := TX7) (N := 20) rfl (okX7_get2 l D cy B ids hst N x2 hx2 (0 : Int32)  hr.2.2 hc37) F hr hx2 hl.1 rfl (by simp only [List.map, zrf_cat]; exact Nat.le_of_ble_eq_true rfl) dX11_comeBack_166 rfl rfl hroX11_comeBack_X7_get2 ⟨Nat.zero_le _, Nat.zero_le _⟩) F hA hr (fun H locs hw38 hr => ?_)
    clear hc37
    replace h := zd_some h
    obtain ⟨a39, rfl, h⟩ := h
    replace h := zc_some h
    obtain ⟨r40, z41, hc42, h⟩ := h
    refine zr_callv (zrun_VN (As := [.int (8 : Int32), .int r35]) (rest := []) zn_1308 zq_1306 zs_X7_put2 zq_1307 zq_2 hdX7_put2 (by decide) (T := TX7) (N := 20) rfl (okX7_put2 l D cy B ids hst N a39 (hy34 _ rfl) (8 : Int32)  r35  hr.2.2 hc42) F hr (hy34 _ rfl) hl.1 rfl (by decide) dX11_comeBack_169 rfl rfl hroX11_comeBack_X7_put2 ⟨Nat.zero_le _, Nat.zero_le _⟩) F hA hr (fun H locs hw43 hr => ?_)
    clear hc42
    refine lv_aload_n F.1 F.2.1 dX11_comeBack_172 rfl (lv_at hl 1 rfl) ?_
    refine gf11_31 F hx0 hr dX11_comeBack_173 (fun y44 ey44 => ?_)
    replace h := zl_sub ey44 h
    have hy44 := zal_g hr hx0 (j := 13) rfl ey44
    clear ey44
    refine lv_bipush (v := (10 : Int32)) F.1 F.2.1 dX11_comeBack_176 (by decide) ?_
    refine lv_aload_n F.1 F.2.1 dX11_comeBack_178 rfl (lv_at hl 3 rfl) ?_
    refine lv_iconst (v := (2 : Int32)) F.1 F.2.1 dX11_comeBack_179 (by decide) ?_
    replace h := zc_some h
    obtain ⟨r45, z46, hc47, h⟩ := h
    refine zr_calli (zrun_VN (As := [.int (2 : Int32)]) (rest := [.int (10 : Int32), va_rf (Option.map (B 7) y44)]) zn_1140 zq_1138 zs_X7_get2 zq_1139 zq_2 hdX7_get2 (by decide) (T := TX7) (N := 20) rfl (okX7_get2 l D cy B ids hst N x2 hx2 (2 : Int32)  hr.2.2 hc47) F hr hx2 hl.1 rfl (by simp only [List.map, zrf_cat]; exact Nat.le_of_ble_eq_true rfl) dX11_comeBack_180 rfl rfl hroX11_comeBack_X7_get2 ⟨Nat.zero_le _, Nat.zero_le _⟩) F hA hr (fun H locs hw48 hr => ?_)
    clear hc47
    replace h := zd_some h
    obtain ⟨a49, rfl, h⟩ := h
    replace h := zc_some h
    obtain ⟨r50, z51, hc52, h⟩ := h
    refine zr_callv (zrun_VN (As := [.int (10 : Int32), .int r45]) (rest := []) zn_1308 zq_1306 zs_X7_put2 zq_1307 zq_2 hdX7_put2 (by decide) (T := TX7) (N := 20) rfl (okX7_put2 l D cy B ids hst N a49 (hy44 _ rfl) (10 : Int32)  r45  hr.2.2 hc52) F hr (hy44 _ rfl) hl.1 rfl (by decide) dX11_comeBack_183 rfl rfl hroX11_comeBack_X7_put2 ⟨Nat.zero_le _, Nat.zero_le _⟩) F hA hr (fun H locs hw53 hr => ?_)
    clear hc52
    refine lv_aload_n F.1 F.2.1 dX11_comeBack_186 rfl (lv_at hl 1 rfl) ?_
    refine gf11_31 F hx0 hr dX11_comeBack_187 (fun y54 ey54 => ?_)
    replace h := zl_sub ey54 h
    have hy54 := zal_g hr hx0 (j := 13) rfl ey54
    clear ey54
    refine lv_bipush (v := (12 : Int32)) F.1 F.2.1 dX11_comeBack_190 (by decide) ?_
    refine lv_iload_n F.1 F.2.1 dX11_comeBack_192 rfl (lv_at hl 4 rfl) ?_
    replace h := zd_some h
    obtain ⟨a55, rfl, h⟩ := h
    replace h := zc_some h
    obtain ⟨r56, z57, hc58, h⟩ := h
    refine zr_callv (zrun_VN (As := [.int (12 : Int32), .int x3]) (rest := []) zn_1308 zq_1306 zs_X7_put2 zq_1307 zq_2 hdX7_put2 (by decide) (T := TX7) (N := 20) rfl (okX7_put2 l D cy B ids hst N a55 (hy54 _ rfl) (12 : Int32)  x3  hr.2.2 hc58) F hr (hy54 _ rfl) hl.1 rfl (by decide) dX11_comeBack_193 rfl rfl hroX11_comeBack_X7_put2 ⟨Nat.zero_le _, Nat.zero_le _⟩) F hA hr (fun H locs hw59 hr => ?_)
    clear hc58
    refine lv_aload_n F.1 F.2.1 dX11_comeBack_196 rfl (lv_at hl 1 rfl) ?_
    refine lv_iconst (v := (1 : Int32)) F.1 F.2.1 dX11_comeBack_197 (by decide) ?_
    refine pf11_586 F hx0 hr dX11_comeBack_198 (1 : Int32) (by decide) (fun H locs z60 ez60 hr => ?_)
    replace h := zl_sub ez60 h
    clear ez60
    obtain ⟨rfl, rfl⟩ := zret h
    exact E _ _ _ _ dX11_comeBack_201 trivial hr
def fX11_comeBack (N : Nat)  (x0 : Nat) (x1 : Nat) (x2 : Nat) (x3 : Int32) (z : St) : Option (Int32 × St) := if ¬ (zgI z 7 2 x2) = (1 : Int32) then (some (0, z)) else (if (zgI z 7 5 x2) = 0 then (zc (fX1_hasAddress N x1 (zgI z 7 0 x2) z) fun r3 z4 => if r3 = 0 then (if (zgI z4 1 3 x1) ≤ (zgI z4 7 10 x2) then (fX11_comeBack_82 N x0 x1 x2 x3 none z4) else (zk (zgI z4 7 10 x2) 6 <| zl (zgQ z4 112 x1 (Int32.toNatClampNeg (zgI z4 7 10 x2))) fun y10 => fX11_comeBack_82 N x0 x1 x2 x3 y10 z4)) else (zk (7 : Int32) 8 <| zk (7 : Int32) 8 <| zl (zsA z4 113 x1 (Int32.toNatClampNeg (7 : Int32)) ((zgA z4 113 x1 (Int32.toNatClampNeg (7 : Int32))) + (1 : Int32))) fun z13 => zc (fX7_get2 N x2 (0 : Int32) z13) fun r14 z15 => zc (fX7_get2 N x2 (2 : Int32) z15) fun r18 z19 => zc (fX11_abortAsking N x0 x1 (zgI z13 7 1 x2) r14 r18 z19) fun _ z23 => some (0, z23))) else (some (0, z)))
set_option maxHeartbeats 4000000 in
set_option maxRecDepth 100000 in
theorem bX11_comeBack_0 (hst : zSt B ids) (F : zFx p m c cX11_comeBack 5 s args RX11 D cy B ids A) (hA : ∀ q : Nat, s.heap.size ≤ q → A q) {r : Int32} {z' : St} (E : zEnd p l e rmX11_comeBack s m args below meth c cX11_comeBack D cy B ids A Q none z' .return_ True) {N : Nat}  (x0 : Nat) (x1 : Nat) (x2 : Nat) (x3 : Int32) (hx0 : (11, x0) ∈ ids) (hx1 : (1, x1) ∈ ids) (hx2 : (7, x2) ∈ ids) {z : St} {H : Heap} {locs : List Loc} {ls : Array Slot} (hr : zRep D cy B ids A s.heap z H locs) (hl : lv_has ls 5 [(0, .ref (B 11 x0)), (1, .ref (B 1 x1)), (2, .ref (B 7 x2)), (3, .int x3)]) (h : fX11_comeBack N x0 x1 x2 x3 z = some (r, z')) : W p l e rmX11_comeBack s m args below meth c H locs 0 0 Q (F0 m 0 ls []) := by
  unfold fX11_comeBack at h
  refine lv_aload_n F.1 F.2.1 dX11_comeBack_0 rfl (lv_at hl 2 rfl) ?_
  refine gf11_600 F hx2 hr dX11_comeBack_1 ?_
  refine lv_iconst (v := (1 : Int32)) F.1 F.2.1 dX11_comeBack_4 (by decide) ?_
  refine lv_icmp_ne (tgt := 15) F.1 F.2.1 dX11_comeBack_5 (by decide) (fun c1 => ?_) (fun c1 => ?_)
  · replace h := zi_t c1 h
    obtain ⟨rfl, rfl⟩ := zret h
    exact E _ _ _ _ dX11_comeBack_15 trivial hr
  · replace h := zi_f (fun q => q c1) h
    refine lv_aload_n F.1 F.2.1 dX11_comeBack_8 rfl (lv_at hl 2 rfl) ?_
    refine gf11_678 F hx2 hr dX11_comeBack_9 ?_
    refine lv_if_eq (tgt := 16) F.1 F.2.1 dX11_comeBack_12 (by decide) (fun c2 => ?_) (fun c2 => ?_)
    · replace h := zi_t c2 h
      refine lv_aload_n F.1 F.2.1 dX11_comeBack_16 rfl (lv_at hl 1 rfl) ?_
      refine lv_aload_n F.1 F.2.1 dX11_comeBack_17 rfl (lv_at hl 2 rfl) ?_
      refine gf11_535 F hx2 hr dX11_comeBack_18 ?_
      replace h := zc_some h
      obtain ⟨r3, z4, hc5, h⟩ := h
      refine zr_calli (zrun_VN (As := [.int (zgI z 7 0 x2)]) (rest := []) zn_1090 zq_1092 zs_X1_hasAddress zq_1093 zq_9 hdX1_hasAddress (by decide) (T := TX1) (N := 13) rfl (okX1_hasAddress l D cy B ids hst N x1 hx1 (zgI z 7 0 x2)  hr.2.2 hc5) F hr hx1 hl.1 rfl (by decide) dX11_comeBack_21 rfl rfl hroX11_comeBack_X1_hasAddress ⟨Nat.zero_le _, Nat.zero_le _⟩) F hA hr (fun H locs hw6 hr => ?_)
      clear hc5
      refine lv_if_eq (tgt := 58) F.1 F.2.1 dX11_comeBack_24 (by decide) (fun c7 => ?_) (fun c7 => ?_)
      · replace h := zi_t c7 h
        refine lv_aload_n F.1 F.2.1 dX11_comeBack_58 rfl (lv_at hl 2 rfl) ?_
        refine gf11_655 F hx2 hr dX11_comeBack_59 ?_
        refine lv_aload_n F.1 F.2.1 dX11_comeBack_62 rfl (lv_at hl 1 rfl) ?_
        refine gf11_113 F hx1 hr dX11_comeBack_63 ?_
        refine lv_icmp_ge (tgt := 81) F.1 F.2.1 dX11_comeBack_66 (by decide) (fun c8 => ?_) (fun c8 => ?_)
        · replace h := zi_t c8 h
          refine lv_null F.1 F.2.1 dX11_comeBack_81 ?_
          exact bX11_comeBack_82 hst F hA E  x0 x1 x2 x3 none hx0 hx1 hx2 zal_0 hr (lv_sub hl [0, 1, 2, 3] rfl) h
        · replace h := zi_f c8 h
          refine lv_aload_n F.1 F.2.1 dX11_comeBack_69 rfl (lv_at hl 1 rfl) ?_
          refine gf11_134 F hx1 hr dX11_comeBack_70 ?_
          refine lv_aload_n F.1 F.2.1 dX11_comeBack_73 rfl (lv_at hl 2 rfl) ?_
          refine gf11_655 F hx2 hr dX11_comeBack_74 ?_
          replace h := zk_some h
          obtain ⟨c9, h⟩ := h
          refine zr_aaldv (k := 112) (by decide) rfl rfl (zlen_d (by decide)) F (zal_a F hx1 (j := 2) rfl) hr dX11_comeBack_77 c9 (fun y10 ey10 => ?_)
          replace h := zl_sub ey10 h
          have hy10 := zal_q hr (zal_a F hx1 (j := 2) rfl) rfl ey10
          clear ey10
          refine lv_goto (tgt := 82) F.1 F.2.1 dX11_comeBack_78 (by decide) ?_
          exact bX11_comeBack_82 hst F hA E  x0 x1 x2 x3 y10 hx0 hx1 hx2 hy10 hr (lv_sub hl [0, 1, 2, 3] rfl) h
      · replace h := zi_f c7 h
        refine lv_aload_n F.1 F.2.1 dX11_comeBack_27 rfl (lv_at hl 1 rfl) ?_
        refine gf11_439 F hx1 hr dX11_comeBack_28 ?_
        refine lv_bipush (v := (7 : Int32)) F.1 F.2.1 dX11_comeBack_31 (by decide) ?_
        refine lv_dup2_11 F.1 F.2.1 dX11_comeBack_33 rfl rfl ?_
        replace h := zk_some h
        obtain ⟨c11, h⟩ := h
        refine zr_iald (k := 113) (by decide) rfl (by decide) F (zal_a F hx1 (j := 4) rfl) hr dX11_comeBack_34 c11 ?_
        refine lv_iconst (v := (1 : Int32)) F.1 F.2.1 dX11_comeBack_35 (by decide) ?_
        refine lv_iadd F.1 F.2.1 dX11_comeBack_36 ?_
        replace h := zk_some h
        obtain ⟨c12, h⟩ := h
        refine zr_iast (k := 113) (by decide) rfl (by decide) F (zal_a F hx1 (j := 4) rfl) hr dX11_comeBack_37 c12 (fun H locs z13 ez13 hr => ?_)
        replace h := zl_sub ez13 h
        clear ez13
        refine lv_aload_n F.1 F.2.1 dX11_comeBack_38 rfl (lv_at hl 0 rfl) ?_
        refine lv_aload_n F.1 F.2.1 dX11_comeBack_39 rfl (lv_at hl 1 rfl) ?_
        refine lv_aload_n F.1 F.2.1 dX11_comeBack_40 rfl (lv_at hl 2 rfl) ?_
        refine gf11_538 F hx2 hr dX11_comeBack_41 ?_
        refine lv_aload_n F.1 F.2.1 dX11_comeBack_44 rfl (lv_at hl 2 rfl) ?_
        refine lv_iconst (v := (0 : Int32)) F.1 F.2.1 dX11_comeBack_45 (by decide) ?_
        replace h := zc_some h
        obtain ⟨r14, z15, hc16, h⟩ := h
        refine zr_calli (zrun_VN (As := [.int (0 : Int32)]) (rest := [.int (zgI z13 7 1 x2), .ref (B 1 x1), .ref (B 11 x0)]) zn_1140 zq_1138 zs_X7_get2 zq_1139 zq_2 hdX7_get2 (by decide) (T := TX7) (N := 20) rfl (okX7_get2 l D cy B ids hst N x2 hx2 (0 : Int32)  hr.2.2 hc16) F hr hx2 hl.1 rfl (Nat.le_of_ble_eq_true rfl) dX11_comeBack_46 rfl rfl hroX11_comeBack_X7_get2 ⟨Nat.zero_le _, Nat.zero_le _⟩) F hA hr (fun H locs hw17 hr => ?_)
        clear hc16
        refine lv_aload_n F.1 F.2.1 dX11_comeBack_49 rfl (lv_at hl 2 rfl) ?_
        refine lv_iconst (v := (2 : Int32)) F.1 F.2.1 dX11_comeBack_50 (by decide) ?_
        replace h := zc_some h
        obtain ⟨r18, z19, hc20, h⟩ := h
        refine zr_calli (zrun_VN (As := [.int (2 : Int32)]) (rest := [.int r14, .int (zgI z13 7 1 x2), .ref (B 1 x1), .ref (B 11 x0)]) zn_1140 zq_1138 zs_X7_get2 zq_1139 zq_2 hdX7_get2 (by decide) (T := TX7) (N := 20) rfl (okX7_get2 l D cy B ids hst N x2 hx2 (2 : Int32)  hr.2.2 hc20) F hr hx2 hl.1 rfl (Nat.le_of_ble_eq_true rfl) dX11_comeBack_51 rfl rfl hroX11_comeBack_X7_get2 ⟨Nat.zero_le _, Nat.zero_le _⟩) F hA hr (fun H locs hw21 hr => ?_)
        clear hc20
        replace h := zc_some h
        obtain ⟨r22, z23, hc24, h⟩ := h
        refine zr_callv (zrun_V (As := [.ref (B 1 x1), .int (zgI z13 7 1 x2), .int r14, .int r18]) (rest := []) zq_1141 zq_1143 zs_X11_abortAsking zq_1144 zq_1 hdX11_abortAsking (by decide) (T := TX11) (N := 21) rfl (okX11_abortAsking l D cy B ids hst N x0 hx0 x1 hx1 (zgI z13 7 1 x2)  r14  r18  hr.2.2 hc24) F hr hx0 hl.1 rfl (by decide) dX11_comeBack_54 rfl rfl hroX11_comeBack_X11_abortAsking ⟨Nat.zero_le _, Nat.zero_le _⟩) F hA hr (fun H locs hw25 hr => ?_)
        clear hc24
        obtain ⟨rfl, rfl⟩ := zret h
        exact E _ _ _ _ dX11_comeBack_57 trivial hr
    · replace h := zi_f c2 h
      obtain ⟨rfl, rfl⟩ := zret h
      exact E _ _ _ _ dX11_comeBack_15 trivial hr
end SX11_comeBack
set_option maxRecDepth 100000 in
theorem okX11_comeBack (l : Launch) (D : va_G) (cy : Nat → ClassId) (B : Nat → Nat → Nat) (ids : List (Nat × Nat)) (hst : zSt B ids) (N : Nat) (x0 : Nat) (hx0 : (11, x0) ∈ ids) (x1 : Nat) (hx1 : (1, x1) ∈ ids) (x2 : Nat) (hx2 : (7, x2) ∈ ids) (x3 : Int32) {z : St} {r : Int32} {z' : St} (hW : zWf ids z) (h : fX11_comeBack N x0 x1 x2 x3 z = some (r, z')) : zM l yX11_comeBack (zws yX11_comeBack cX11_comeBack 5 none) rmX11_comeBack D cy B ids [.ref (B 11 x0), .ref (B 1 x1), .ref (B 7 x2), .int x3] none True z z' :=
  zM_of hst hW (by decide +kernel) (Nat.le_of_ble_eq_true rfl) (fun p e s m args below meth c A ls F hA hret hlocks hr hl => bX11_comeBack_0 hst F hA (zEnd_v F hret hlocks) x0 x1 x2 x3 hx0 hx1 hx2 hr hl h)
