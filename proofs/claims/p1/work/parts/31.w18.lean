abbrev rmX11_doHost : Room := { frames := 6, cells := 0, slots := 0, locals := 187 }
theorem hdX11_doHost : yX11_doHost.cls ≠ "java/lang/invoke/MethodHandle" ∧ yX11_doHost.cls ≠ "java/lang/invoke/VarHandle" ∧ (parseMethodDescriptor yX11_doHost.desc).map (fun d => d.parameters.length) = some 1 := by decide +kernel
theorem hroX11_doHost_X11_addressSegment : rmX11_addressSegment.frames + 1 ≤ rmX11_doHost.frames ∧ 8 + (4 + 11) + rmX11_addressSegment.locals ≤ rmX11_doHost.locals := by decide
theorem hroX11_doHost_X11_sendOff : rmX11_sendOff.frames + 1 ≤ rmX11_doHost.frames ∧ 8 + (4 + 11) + rmX11_sendOff.locals ≤ rmX11_doHost.locals := by decide
theorem hroX11_doHost_X11_settle : rmX11_settle.frames + 1 ≤ rmX11_doHost.frames ∧ 8 + (4 + 11) + rmX11_settle.locals ≤ rmX11_doHost.locals := by decide
theorem hroX11_doHost_X3_makeNext : rmX3_makeNext.frames + 1 ≤ rmX11_doHost.frames ∧ 8 + (3 + 11) + rmX3_makeNext.locals ≤ rmX11_doHost.locals := by decide
theorem hroX11_doHost_X3_ring : rmX3_ring.frames + 1 ≤ rmX11_doHost.frames ∧ 8 + (2 + 11) + rmX3_ring.locals ≤ rmX11_doHost.locals := by decide
section SX11_doHost
variable {p : Program} {l : Launch} {e : Env} {s : State} {m : MethodId} {args : Array Value} {below : List Frame} {meth : Method} {c : Code} {Q : State → Prop} {D : va_G} {cy : Nat → ClassId} {B : Nat → Nat → Nat} {ids : List (Nat × Nat)} {A : Nat → Prop}
def fX11_doHost_97 (N : Nat) (K2 : Nat → Nat → Int32 → St → Option (Int32 × St)) (x0 : Nat) (x1 : Nat) (x2 : Int32) (z : St) : Option (Int32 × St) := zl (x2 + 1) fun v1 => K2 x0 x1 v1 z
set_option maxHeartbeats 4000000 in
set_option maxRecDepth 100000 in
theorem bX11_doHost_97 (hst : zSt B ids) (F : zFx p m c cX11_doHost 6 s args RX11 D cy B ids A) (hA : ∀ q : Nat, s.heap.size ≤ q → A q) {r : Int32} {z' : St} (E : zEnd p l e rmX11_doHost s m args below meth c cX11_doHost D cy B ids A Q none z' .return_ True) {N : Nat} {K2 : Nat → Nat → Int32 → St → Option (Int32 × St)} (hK2 : ∀ (x0 : Nat) (x1 : Nat) (x2 : Int32) (hx0 : (11, x0) ∈ ids) (hx1 : (1, x1) ∈ ids) {z : St} {H : Heap} {locs : List Loc} {ls : Array Slot} (hr : zRep D cy B ids A s.heap z H locs) (hl : lv_has ls 6 [(0, .ref (B 11 x0)), (1, .ref (B 1 x1)), (2, .int x2)]), K2 x0 x1 x2 z = some (r, z') → W p l e rmX11_doHost s m args below meth c H locs 0 0 Q (F0 m 2 ls [])) (x0 : Nat) (x1 : Nat) (x2 : Int32) (hx0 : (11, x0) ∈ ids) (hx1 : (1, x1) ∈ ids) {z : St} {H : Heap} {locs : List Loc} {ls : Array Slot} (hr : zRep D cy B ids A s.heap z H locs) (hl : lv_has ls 6 [(0, .ref (B 11 x0)), (1, .ref (B 1 x1)), (2, .int x2)]) (h : fX11_doHost_97 N K2 x0 x1 x2 z = some (r, z')) : W p l e rmX11_doHost s m args below meth c H locs 0 0 Q (F0 m 97 ls []) := by
  unfold fX11_doHost_97 at h
  obtain ⟨v1, ev1⟩ : ∃ y : Int32, y = (x2 + 1) := ⟨_, rfl⟩
  replace h := zl_sub ev1 h
  refine lv_iinc (v := v1) (lv' := [(2, .int v1), (0, .ref (B 11 x0)), (1, .ref (B 1 x1))]) F.1 F.2.1 dX11_doHost_97 hl (k := 2) rfl (by rw [ev1]; rfl) (by decide) rfl (fun ls hl => ?_)
  refine lv_goto (tgt := 2) F.1 F.2.1 dX11_doHost_100 (by decide) ?_
  exact hK2 x0 x1 v1 hx0 hx1 hr (lv_sub hl [1, 2, 0] rfl) h
def fX11_doHost_92 (N : Nat) (K2 : Nat → Nat → Int32 → St → Option (Int32 × St)) (x0 : Nat) (x1 : Nat) (x2 : Int32) (x3 : Nat) (z : St) : Option (Int32 × St) := zc (fX11_settle N x0 x3 z) fun _ z2 => fX11_doHost_97 N K2 x0 x1 x2 z2
set_option maxHeartbeats 4000000 in
set_option maxRecDepth 100000 in
theorem bX11_doHost_92 (hst : zSt B ids) (F : zFx p m c cX11_doHost 6 s args RX11 D cy B ids A) (hA : ∀ q : Nat, s.heap.size ≤ q → A q) {r : Int32} {z' : St} (E : zEnd p l e rmX11_doHost s m args below meth c cX11_doHost D cy B ids A Q none z' .return_ True) {N : Nat} {K2 : Nat → Nat → Int32 → St → Option (Int32 × St)} (hK2 : ∀ (x0 : Nat) (x1 : Nat) (x2 : Int32) (hx0 : (11, x0) ∈ ids) (hx1 : (1, x1) ∈ ids) {z : St} {H : Heap} {locs : List Loc} {ls : Array Slot} (hr : zRep D cy B ids A s.heap z H locs) (hl : lv_has ls 6 [(0, .ref (B 11 x0)), (1, .ref (B 1 x1)), (2, .int x2)]), K2 x0 x1 x2 z = some (r, z') → W p l e rmX11_doHost s m args below meth c H locs 0 0 Q (F0 m 2 ls [])) (x0 : Nat) (x1 : Nat) (x2 : Int32) (x3 : Nat) (hx0 : (11, x0) ∈ ids) (hx1 : (1, x1) ∈ ids) (hx3 : (2, x3) ∈ ids) {z : St} {H : Heap} {locs : List Loc} {ls : Array Slot} (hr : zRep D cy B ids A s.heap z H locs) (hl : lv_has ls 6 [(0, .ref (B 11 x0)), (1, .ref (B 1 x1)), (2, .int x2), (3, .ref (B 2 x3))]) (h : fX11_doHost_92 N K2 x0 x1 x2 x3 z = some (r, z')) : W p l e rmX11_doHost s m args below meth c H locs 0 0 Q (F0 m 92 ls []) := by
  unfold fX11_doHost_92 at h
  refine lv_aload_n F.1 F.2.1 dX11_doHost_92 rfl (lv_at hl 0 rfl) ?_
  refine lv_aload_n F.1 F.2.1 dX11_doHost_93 rfl (lv_at hl 3 rfl) ?_
  replace h := zc_some h
  obtain ⟨r1, z2, hc3, h⟩ := h
  refine zr_callv (zrun_V (As := [.ref (B 2 x3)]) (rest := []) zq_1648 zq_1650 zs_X11_settle zq_1651 zq_1 hdX11_settle (by decide) (T := TX11) (N := 21) rfl (okX11_settle l D cy B ids hst N x0 hx0 x3 hx3 hr.2.2 hc3) F hr hx0 hl.1 rfl (by decide) dX11_doHost_94 rfl rfl hroX11_doHost_X11_settle ⟨Nat.zero_le _, Nat.zero_le _⟩) F hA hr (fun H locs hw4 hr => ?_)
  clear hc3
  exact bX11_doHost_97 hst F hA E hK2 x0 x1 x2 hx0 hx1 hr (lv_sub hl [0, 1, 2] rfl) h
def fX11_doHost_44b (N : Nat) (K2 : Nat → Nat → Int32 → St → Option (Int32 × St)) (K44 : Nat → Nat → Int32 → Nat → Nat → Int32 → St → Option (Int32 × St)) (x0 : Nat) (x1 : Nat) (x2 : Int32) (x3 : Nat) (x4 : Nat) (x5 : Int32) (z : St) : Option (Int32 × St) := if (8192 : Int32) ≤ x5 then (fX11_doHost_92 N K2 x0 x1 x2 x3 z) else (zl (zgR z 11 13 x0) fun y2 => zd y2 fun a3 => zc (fX3_makeNext N x4 a3 (zgI z 11 4 x0) z) fun r4 z5 => if ¬ r4 = 0 then (zc (fX11_addressSegment N x0 x1 x3 z5) fun _ z10 => zl (zgR z10 11 13 x0) fun y13 => zd y13 fun a14 => zc (fX11_sendOff N x0 x1 a14 z10) fun _ z16 => zl (x5 + 1) fun v19 => K44 x0 x1 x2 x3 x4 v19 z16) else (fX11_doHost_92 N K2 x0 x1 x2 x3 z5))
def fX11_doHost_44 (N : Nat) (K2 : Nat → Nat → Int32 → St → Option (Int32 × St)) : Nat → Nat → Nat → Int32 → Nat → Nat → Int32 → St → Option (Int32 × St)
  | 0 => fun _ _ _ _ _ _ _ => none
  | n + 1 => fX11_doHost_44b N K2 (fX11_doHost_44 N K2 n)
set_option maxHeartbeats 4000000 in
set_option maxRecDepth 100000 in
theorem bX11_doHost_44 (hst : zSt B ids) (F : zFx p m c cX11_doHost 6 s args RX11 D cy B ids A) (hA : ∀ q : Nat, s.heap.size ≤ q → A q) {r : Int32} {z' : St} (E : zEnd p l e rmX11_doHost s m args below meth c cX11_doHost D cy B ids A Q none z' .return_ True) {N : Nat} {K2 : Nat → Nat → Int32 → St → Option (Int32 × St)} {K44 : Nat → Nat → Int32 → Nat → Nat → Int32 → St → Option (Int32 × St)} (hK2 : ∀ (x0 : Nat) (x1 : Nat) (x2 : Int32) (hx0 : (11, x0) ∈ ids) (hx1 : (1, x1) ∈ ids) {z : St} {H : Heap} {locs : List Loc} {ls : Array Slot} (hr : zRep D cy B ids A s.heap z H locs) (hl : lv_has ls 6 [(0, .ref (B 11 x0)), (1, .ref (B 1 x1)), (2, .int x2)]), K2 x0 x1 x2 z = some (r, z') → W p l e rmX11_doHost s m args below meth c H locs 0 0 Q (F0 m 2 ls [])) (hK44 : ∀ (x0 : Nat) (x1 : Nat) (x2 : Int32) (x3 : Nat) (x4 : Nat) (x5 : Int32) (hx0 : (11, x0) ∈ ids) (hx1 : (1, x1) ∈ ids) (hx3 : (2, x3) ∈ ids) (hx4 : (3, x4) ∈ ids) {z : St} {H : Heap} {locs : List Loc} {ls : Array Slot} (hr : zRep D cy B ids A s.heap z H locs) (hl : lv_has ls 6 [(0, .ref (B 11 x0)), (1, .ref (B 1 x1)), (2, .int x2), (3, .ref (B 2 x3)), (4, .ref (B 3 x4)), (5, .int x5)]), K44 x0 x1 x2 x3 x4 x5 z = some (r, z') → W p l e rmX11_doHost s m args below meth c H locs 0 0 Q (F0 m 44 ls [])) (x0 : Nat) (x1 : Nat) (x2 : Int32) (x3 : Nat) (x4 : Nat) (x5 : Int32) (hx0 : (11, x0) ∈ ids) (hx1 : (1, x1) ∈ ids) (hx3 : (2, x3) ∈ ids) (hx4 : (3, x4) ∈ ids) {z : St} {H : Heap} {locs : List Loc} {ls : Array Slot} (hr : zRep D cy B ids A s.heap z H locs) (hl : lv_has ls 6 [(0, .ref (B 11 x0)), (1, .ref (B 1 x1)), (2, .int x2), (3, .ref (B 2 x3)), (4, .ref (B 3 x4)), (5, .int x5)]) (h : fX11_doHost_44b N K2 K44 x0 x1 x2 x3 x4 x5 z = some (r, z')) : W p l e rmX11_doHost s m args below meth c H locs 0 0 Q (F0 m 44 ls []) := by
  unfold fX11_doHost_44b at h
  refine lv_iload F.1 F.2.1 dX11_doHost_44 (lv_at hl 5 rfl) ?_
  refine lv_sipush (v := (8192 : Int32)) F.1 F.2.1 dX11_doHost_46 (by decide) ?_
  refine lv_icmp_ge (tgt := 92) F.1 F.2.1 dX11_doHost_49 (by decide) (fun c1 => ?_) (fun c1 => ?_)
  · replace h := zi_t c1 h
    exact bX11_doHost_92 hst F hA E hK2 x0 x1 x2 x3 hx0 hx1 hx3 hr (lv_sub hl [0, 1, 2, 3] rfl) h
  · replace h := zi_f c1 h
    refine lv_aload F.1 F.2.1 dX11_doHost_52 (lv_at hl 4 rfl) ?_
    refine lv_aload_n F.1 F.2.1 dX11_doHost_54 rfl (lv_at hl 0 rfl) ?_
    refine gf11_31 F hx0 hr dX11_doHost_55 (fun y2 ey2 => ?_)
    replace h := zl_sub ey2 h
    have hy2 := zal_g hr hx0 (j := 13) rfl ey2
    clear ey2
    refine lv_aload_n F.1 F.2.1 dX11_doHost_58 rfl (lv_at hl 0 rfl) ?_
    refine gf11_176 F hx0 hr dX11_doHost_59 ?_
    replace h := zd_some h
    obtain ⟨a3, rfl, h⟩ := h
    replace h := zc_some h
    obtain ⟨r4, z5, hc6, h⟩ := h
    refine zr_calli (zrun_VN (As := [.ref (B 7 a3), .int (zgI z 11 4 x0)]) (rest := []) zn_1595 zq_1597 zs_X3_makeNext zq_1598 zq_13 hdX3_makeNext (by decide) (T := TX3) (N := 19) rfl (okX3_makeNext l D cy B ids hst N x4 hx4 a3 (hy2 _ rfl) (zgI z 11 4 x0)  hr.2.2 hc6) F hr hx4 hl.1 rfl (by decide) dX11_doHost_62 rfl rfl hroX11_doHost_X3_makeNext ⟨Nat.zero_le _, Nat.zero_le _⟩) F hA hr (fun H locs hw7 hr => ?_)
    clear hc6
    refine lv_if_ne (tgt := 71) F.1 F.2.1 dX11_doHost_65 (by decide) (fun c8 => ?_) (fun c8 => ?_)
    · replace h := zi_t c8 h
      refine lv_aload_n F.1 F.2.1 dX11_doHost_71 rfl (lv_at hl 0 rfl) ?_
      refine lv_aload_n F.1 F.2.1 dX11_doHost_72 rfl (lv_at hl 1 rfl) ?_
      refine lv_aload_n F.1 F.2.1 dX11_doHost_73 rfl (lv_at hl 3 rfl) ?_
      replace h := zc_some h
      obtain ⟨r9, z10, hc11, h⟩ := h
      refine zr_callv (zrun_V (As := [.ref (B 1 x1), .ref (B 2 x3)]) (rest := []) zq_1644 zq_1646 zs_X11_addressSegment zq_1647 zq_1 hdX11_addressSegment (by decide) (T := TX11) (N := 21) rfl (okX11_addressSegment l D cy B ids hst N x0 hx0 x1 hx1 x3 hx3 hr.2.2 hc11) F hr hx0 hl.1 rfl (by decide) dX11_doHost_74 rfl rfl hroX11_doHost_X11_addressSegment ⟨Nat.zero_le _, Nat.zero_le _⟩) F hA hr (fun H locs hw12 hr => ?_)
      clear hc11
      refine lv_aload_n F.1 F.2.1 dX11_doHost_77 rfl (lv_at hl 0 rfl) ?_
      refine lv_aload_n F.1 F.2.1 dX11_doHost_78 rfl (lv_at hl 1 rfl) ?_
      refine lv_aload_n F.1 F.2.1 dX11_doHost_79 rfl (lv_at hl 0 rfl) ?_
      refine gf11_31 F hx0 hr dX11_doHost_80 (fun y13 ey13 => ?_)
      replace h := zl_sub ey13 h
      have hy13 := zal_g hr hx0 (j := 13) rfl ey13
      clear ey13
      replace h := zd_some h
      obtain ⟨a14, rfl, h⟩ := h
      replace h := zc_some h
      obtain ⟨r15, z16, hc17, h⟩ := h
      refine zr_callv (zrun_V (As := [.ref (B 1 x1), .ref (B 7 a14)]) (rest := []) zq_1453 zq_1455 zs_X11_sendOff zq_1456 zq_1 hdX11_sendOff (by decide) (T := TX11) (N := 21) rfl (okX11_sendOff l D cy B ids hst N x0 hx0 x1 hx1 a14 (hy13 _ rfl) hr.2.2 hc17) F hr hx0 hl.1 rfl (by decide) dX11_doHost_83 rfl rfl hroX11_doHost_X11_sendOff ⟨Nat.zero_le _, Nat.zero_le _⟩) F hA hr (fun H locs hw18 hr => ?_)
      clear hc17
      obtain ⟨v19, ev19⟩ : ∃ y : Int32, y = (x5 + 1) := ⟨_, rfl⟩
      replace h := zl_sub ev19 h
      refine lv_iinc (v := v19) (lv' := [(5, .int v19), (0, .ref (B 11 x0)), (1, .ref (B 1 x1)), (2, .int x2), (3, .ref (B 2 x3)), (4, .ref (B 3 x4))]) F.1 F.2.1 dX11_doHost_86 hl (k := 5) rfl (by rw [ev19]; rfl) (by decide) rfl (fun ls hl => ?_)
      refine lv_goto (tgt := 44) F.1 F.2.1 dX11_doHost_89 (by decide) ?_
      exact hK44 x0 x1 x2 x3 x4 v19 hx0 hx1 hx3 hx4 hr (lv_sub hl [1, 2, 3, 4, 5, 0] rfl) h
    · replace h := zi_f (fun q => q c8) h
      refine lv_goto (tgt := 92) F.1 F.2.1 dX11_doHost_68 (by decide) ?_
      exact bX11_doHost_92 hst F hA E hK2 x0 x1 x2 x3 hx0 hx1 hx3 hr (lv_sub hl [0, 1, 2, 3] rfl) h
theorem lX11_doHost_44 (hst : zSt B ids) (F : zFx p m c cX11_doHost 6 s args RX11 D cy B ids A) (hA : ∀ q : Nat, s.heap.size ≤ q → A q) {r : Int32} {z' : St} (E : zEnd p l e rmX11_doHost s m args below meth c cX11_doHost D cy B ids A Q none z' .return_ True) {N : Nat} {K2 : Nat → Nat → Int32 → St → Option (Int32 × St)} (hK2 : ∀ (x0 : Nat) (x1 : Nat) (x2 : Int32) (hx0 : (11, x0) ∈ ids) (hx1 : (1, x1) ∈ ids) {z : St} {H : Heap} {locs : List Loc} {ls : Array Slot} (hr : zRep D cy B ids A s.heap z H locs) (hl : lv_has ls 6 [(0, .ref (B 11 x0)), (1, .ref (B 1 x1)), (2, .int x2)]), K2 x0 x1 x2 z = some (r, z') → W p l e rmX11_doHost s m args below meth c H locs 0 0 Q (F0 m 2 ls [])) : ∀ (n : Nat) (x0 : Nat) (x1 : Nat) (x2 : Int32) (x3 : Nat) (x4 : Nat) (x5 : Int32) (hx0 : (11, x0) ∈ ids) (hx1 : (1, x1) ∈ ids) (hx3 : (2, x3) ∈ ids) (hx4 : (3, x4) ∈ ids) {z : St} {H : Heap} {locs : List Loc} {ls : Array Slot} (hr : zRep D cy B ids A s.heap z H locs) (hl : lv_has ls 6 [(0, .ref (B 11 x0)), (1, .ref (B 1 x1)), (2, .int x2), (3, .ref (B 2 x3)), (4, .ref (B 3 x4)), (5, .int x5)]), fX11_doHost_44 N K2 n x0 x1 x2 x3 x4 x5 z = some (r, z') → W p l e rmX11_doHost s m args below meth c H locs 0 0 Q (F0 m 44 ls []) := by
  intro n
  induction n with
  | zero => intro x0 x1 x2 x3 x4 x5 hx0 hx1 hx3 hx4 z H locs ls hr hl h; cases h
  | succ n ih => intro x0 x1 x2 x3 x4 x5 hx0 hx1 hx3 hx4 z H locs ls hr hl h; exact bX11_doHost_44 hst F hA E hK2 ih x0 x1 x2 x3 x4 x5 hx0 hx1 hx3 hx4 hr hl h
def fX11_doHost_2b (N : Nat) (K2 : Nat → Nat → Int32 → St → Option (Int32 × St)) (x0 : Nat) (x1 : Nat) (x2 : Int32) (z : St) : Option (Int32 × St) := if (6 : Int32) ≤ x2 then (some (0, z)) else (zk x2 (zlen z 119 x1) <| zl (zgQ z 119 x1 (Int32.toNatClampNeg x2)) fun y3 => zd y3 fun a4 => if (zgI z 2 0 a4) = (2 : Int32) then (zl (zgR z 2 12 a4) fun y6 => zd y6 fun a7 => zc (fX3_ring N a7 (zgI z 11 4 x0) z) fun _ z9 => fX11_doHost_44 N K2 N x0 x1 x2 a4 a7 (0 : Int32) z9) else (fX11_doHost_97 N K2 x0 x1 x2 z))
def fX11_doHost_2 (N : Nat)  : Nat → Nat → Nat → Int32 → St → Option (Int32 × St)
  | 0 => fun _ _ _ _ => none
  | n + 1 => fX11_doHost_2b N (fX11_doHost_2 N  n)
set_option maxHeartbeats 4000000 in
set_option maxRecDepth 100000 in
theorem bX11_doHost_2 (hst : zSt B ids) (F : zFx p m c cX11_doHost 6 s args RX11 D cy B ids A) (hA : ∀ q : Nat, s.heap.size ≤ q → A q) {r : Int32} {z' : St} (E : zEnd p l e rmX11_doHost s m args below meth c cX11_doHost D cy B ids A Q none z' .return_ True) {N : Nat} {K2 : Nat → Nat → Int32 → St → Option (Int32 × St)} (hK2 : ∀ (x0 : Nat) (x1 : Nat) (x2 : Int32) (hx0 : (11, x0) ∈ ids) (hx1 : (1, x1) ∈ ids) {z : St} {H : Heap} {locs : List Loc} {ls : Array Slot} (hr : zRep D cy B ids A s.heap z H locs) (hl : lv_has ls 6 [(0, .ref (B 11 x0)), (1, .ref (B 1 x1)), (2, .int x2)]), K2 x0 x1 x2 z = some (r, z') → W p l e rmX11_doHost s m args below meth c H locs 0 0 Q (F0 m 2 ls [])) (x0 : Nat) (x1 : Nat) (x2 : Int32) (hx0 : (11, x0) ∈ ids) (hx1 : (1, x1) ∈ ids) {z : St} {H : Heap} {locs : List Loc} {ls : Array Slot} (hr : zRep D cy B ids A s.heap z H locs) (hl : lv_has ls 6 [(0, .ref (B 11 x0)), (1, .ref (B 1 x1)), (2, .int x2)]) (h : fX11_doHost_2b N K2 x0 x1 x2 z = some (r, z')) : W p l e rmX11_doHost s m args below meth c H locs 0 0 Q (F0 m 2 ls []) := by
  unfold fX11_doHost_2b at h
  refine lv_iload_n F.1 F.2.1 dX11_doHost_2 rfl (lv_at hl 2 rfl) ?_
  refine lv_bipush (v := (6 : Int32)) F.1 F.2.1 dX11_doHost_3 (by decide) ?_
  refine lv_icmp_ge (tgt := 103) F.1 F.2.1 dX11_doHost_5 (by decide) (fun c1 => ?_) (fun c1 => ?_)
  · replace h := zi_t c1 h
    obtain ⟨rfl, rfl⟩ := zret h
    exact E _ _ _ _ dX11_doHost_103 trivial hr
  · replace h := zi_f c1 h
    refine lv_aload_n F.1 F.2.1 dX11_doHost_8 rfl (lv_at hl 1 rfl) ?_
    refine gf11_220 F hx1 hr dX11_doHost_9 ?_
    refine lv_iload_n F.1 F.2.1 dX11_doHost_12 rfl (lv_at hl 2 rfl) ?_
    replace h := zk_some h
    obtain ⟨c2, h⟩ := h
    refine zr_aaldv (k := 119) (by decide) rfl rfl rfl F (zal_a F hx1 (j := 11) rfl) hr dX11_doHost_13 c2 (fun y3 ey3 => ?_)
    replace h := zl_sub ey3 h
    have hy3 := zal_q hr (zal_a F hx1 (j := 11) rfl) rfl ey3
    clear ey3
    refine zr_astore_n (lv' := [(3, va_rf (Option.map (B 2) y3)), (0, .ref (B 11 x0)), (1, .ref (B 1 x1)), (2, .int x2)]) F.1 F.2.1 dX11_doHost_14 rfl hl (by decide) rfl (fun ls hl => ?_)
    refine zr_aload_n F.1 F.2.1 dX11_doHost_15 rfl (lv_at hl 0 rfl) ?_
    replace h := zd_some h
    obtain ⟨a4, rfl, h⟩ := h
    refine gf11_279 F (hy3 _ rfl) hr dX11_doHost_16 ?_
    refine lv_iconst (v := (2 : Int32)) F.1 F.2.1 dX11_doHost_19 (by decide) ?_
    refine lv_icmp_eq (tgt := 26) F.1 F.2.1 dX11_doHost_20 (by decide) (fun c5 => ?_) (fun c5 => ?_)
    · replace h := zi_t c5 h
      refine lv_aload_n F.1 F.2.1 dX11_doHost_26 rfl (lv_at hl 0 rfl) ?_
      refine gf11_253 F (hy3 _ rfl) hr dX11_doHost_27 (fun y6 ey6 => ?_)
      replace h := zl_sub ey6 h
      have hy6 := zal_g hr (hy3 _ rfl) (j := 12) rfl ey6
      clear ey6
      refine zr_astore (lv' := [(4, va_rf (Option.map (B 3) y6)), (3, .ref (B 2 a4)), (0, .ref (B 11 x0)), (1, .ref (B 1 x1)), (2, .int x2)]) F.1 F.2.1 dX11_doHost_30 hl (by decide) rfl (fun ls hl => ?_)
      refine zr_aload F.1 F.2.1 dX11_doHost_32 (lv_at hl 0 rfl) ?_
      refine lv_aload_n F.1 F.2.1 dX11_doHost_34 rfl (lv_at hl 2 rfl) ?_
      refine gf11_176 F hx0 hr dX11_doHost_35 ?_
      replace h := zd_some h
      obtain ⟨a7, rfl, h⟩ := h
      replace h := zc_some h
      obtain ⟨r8, z9, hc10, h⟩ := h
      refine zr_callv (zrun_VN (As := [.int (zgI z 11 4 x0)]) (rest := []) zn_1591 zq_1593 zs_X3_ring zq_1594 zq_13 hdX3_ring (by decide) (T := TX3) (N := 19) rfl (okX3_ring l D cy B ids hst N a7 (hy6 _ rfl) (zgI z 11 4 x0)  hr.2.2 hc10) F hr (hy6 _ rfl) hl.1 rfl (by decide) dX11_doHost_38 rfl rfl hroX11_doHost_X3_ring ⟨Nat.zero_le _, Nat.zero_le _⟩) F hA hr (fun H locs hw11 hr => ?_)
      clear hc10
      refine lv_iconst (v := (0 : Int32)) F.1 F.2.1 dX11_doHost_41 (by decide) ?_
      refine lv_istore (lv' := [(5, .int (0 : Int32)), (4, .ref (B 3 a7)), (3, .ref (B 2 a4)), (0, .ref (B 11 x0)), (1, .ref (B 1 x1)), (2, .int x2)]) F.1 F.2.1 dX11_doHost_42 hl (by decide) rfl (fun ls hl => ?_)
      exact lX11_doHost_44 hst F hA E hK2 _ x0 x1 x2 a4 a7 (0 : Int32) hx0 hx1 (hy3 _ rfl) (hy6 _ rfl) hr (lv_sub hl [3, 4, 5, 2, 1, 0] rfl) h
    · replace h := zi_f c5 h
      refine lv_goto (tgt := 97) F.1 F.2.1 dX11_doHost_23 (by decide) ?_
      exact bX11_doHost_97 hst F hA E hK2 x0 x1 x2 hx0 hx1 hr (lv_sub hl [1, 2, 3] rfl) h
theorem lX11_doHost_2 (hst : zSt B ids) (F : zFx p m c cX11_doHost 6 s args RX11 D cy B ids A) (hA : ∀ q : Nat, s.heap.size ≤ q → A q) {r : Int32} {z' : St} (E : zEnd p l e rmX11_doHost s m args below meth c cX11_doHost D cy B ids A Q none z' .return_ True) {N : Nat}  : ∀ (n : Nat) (x0 : Nat) (x1 : Nat) (x2 : Int32) (hx0 : (11, x0) ∈ ids) (hx1 : (1, x1) ∈ ids) {z : St} {H : Heap} {locs : List Loc} {ls : Array Slot} (hr : zRep D cy B ids A s.heap z H locs) (hl : lv_has ls 6 [(0, .ref (B 11 x0)), (1, .ref (B 1 x1)), (2, .int x2)]), fX11_doHost_2 N  n x0 x1 x2 z = some (r, z') → W p l e rmX11_doHost s m args below meth c H locs 0 0 Q (F0 m 2 ls []) := by
  intro n
  induction n with
  | zero => intro x0 x1 x2 hx0 hx1 z H locs ls hr hl h; cases h
  | succ n ih => intro x0 x1 x2 hx0 hx1 z H locs ls hr hl h; exact bX11_doHost_2 hst F hA E ih x0 x1 x2 hx0 hx1 hr hl h
def fX11_doHost (N : Nat)  (x0 : Nat) (x1 : Nat) (z : St) : Option (Int32 × St) := fX11_doHost_2 N N x0 x1 (0 : Int32) z
set_option maxHeartbeats 4000000 in
set_option maxRecDepth 100000 in
theorem bX11_doHost_0 (hst : zSt B ids) (F : zFx p m c cX11_doHost 6 s args RX11 D cy B ids A) (hA : ∀ q : Nat, s.heap.size ≤ q → A q) {r : Int32} {z' : St} (E : zEnd p l e rmX11_doHost s m args below meth c cX11_doHost D cy B ids A Q none z' .return_ True) {N : Nat}  (x0 : Nat) (x1 : Nat) (hx0 : (11, x0) ∈ ids) (hx1 : (1, x1) ∈ ids) {z : St} {H : Heap} {locs : List Loc} {ls : Array Slot} (hr : zRep D cy B ids A s.heap z H locs) (hl : lv_has ls 6 [(0, .ref (B 11 x0)), (1, .ref (B 1 x1))]) (h : fX11_doHost N x0 x1 z = some (r, z')) : W p l e rmX11_doHost s m args below meth c H locs 0 0 Q (F0 m 0 ls []) := by
  unfold fX11_doHost at h
  refine lv_iconst (v := (0 : Int32)) F.1 F.2.1 dX11_doHost_0 (by decide) ?_
  refine lv_istore_n (lv' := [(2, .int (0 : Int32)), (0, .ref (B 11 x0)), (1, .ref (B 1 x1))]) F.1 F.2.1 dX11_doHost_1 rfl hl (by decide) rfl (fun ls hl => ?_)
  exact lX11_doHost_2 hst F hA E  _ x0 x1 (0 : Int32) hx0 hx1 hr (lv_sub hl [1, 2, 0] rfl) h
end SX11_doHost
set_option maxRecDepth 100000 in
theorem okX11_doHost (l : Launch) (D : va_G) (cy : Nat → ClassId) (B : Nat → Nat → Nat) (ids : List (Nat × Nat)) (hst : zSt B ids) (N : Nat) (x0 : Nat) (hx0 : (11, x0) ∈ ids) (x1 : Nat) (hx1 : (1, x1) ∈ ids) {z : St} {r : Int32} {z' : St} (hW : zWf ids z) (h : fX11_doHost N x0 x1 z = some (r, z')) : zM l yX11_doHost (zws yX11_doHost cX11_doHost 6 none) rmX11_doHost D cy B ids [.ref (B 11 x0), .ref (B 1 x1)] none True z z' :=
  zM_of hst hW (by decide +kernel) (Nat.le_of_ble_eq_true rfl) (fun p e s m args below meth c A ls F hA hret hlocks hr hl => bX11_doHost_0 hst F hA (zEnd_v F hret hlocks) x0 x1 hx0 hx1 hr hl h)
abbrev rmX11_abandonThrough : Room := { frames := 2, cells := 0, slots := 0, locals := 41 }
theorem hdX11_abandonThrough : yX11_abandonThrough.cls ≠ "java/lang/invoke/MethodHandle" ∧ yX11_abandonThrough.cls ≠ "java/lang/invoke/VarHandle" ∧ (parseMethodDescriptor yX11_abandonThrough.desc).map (fun d => d.parameters.length) = some 2 := by decide +kernel
theorem hroX11_abandonThrough_X3_abortByOwner : rmX3_abortByOwner.frames + 1 ≤ rmX11_abandonThrough.frames ∧ 8 + (1 + 11) + rmX3_abortByOwner.locals ≤ rmX11_abandonThrough.locals := by decide
theorem hroX11_abandonThrough_X3_isDead : rmX3_isDead.frames + 1 ≤ rmX11_abandonThrough.frames ∧ 8 + (1 + 11) + rmX3_isDead.locals ≤ rmX11_abandonThrough.locals := by decide
section SX11_abandonThrough
variable {p : Program} {l : Launch} {e : Env} {s : State} {m : MethodId} {args : Array Value} {below : List Frame} {meth : Method} {c : Code} {Q : State → Prop} {D : va_G} {cy : Nat → ClassId} {B : Nat → Nat → Nat} {ids : List (Nat × Nat)} {A : Nat → Prop}
def fX11_abandonThrough_70 (N : Nat) (K2 : Nat → Int32 → Int32 → St → Option (Int32 × St)) (x1 : Nat) (x2 : Int32) (x3 : Int32) (z : St) : Option (Int32 × St) := zl (x3 + 1) fun v1 => K2 x1 x2 v1 z
set_option maxHeartbeats 4000000 in
set_option maxRecDepth 100000 in
theorem bX11_abandonThrough_70 (hst : zSt B ids) (F : zFx p m c cX11_abandonThrough 5 s args RX11 D cy B ids A) (hA : ∀ q : Nat, s.heap.size ≤ q → A q) {r : Int32} {z' : St} (E : zEnd p l e rmX11_abandonThrough s m args below meth c cX11_abandonThrough D cy B ids A Q none z' .return_ True) {N : Nat} {K2 : Nat → Int32 → Int32 → St → Option (Int32 × St)} (hK2 : ∀ (x1 : Nat) (x2 : Int32) (x3 : Int32) (hx1 : (1, x1) ∈ ids) {z : St} {H : Heap} {locs : List Loc} {ls : Array Slot} (hr : zRep D cy B ids A s.heap z H locs) (hl : lv_has ls 5 [(1, .ref (B 1 x1)), (2, .int x2), (3, .int x3)]), K2 x1 x2 x3 z = some (r, z') → W p l e rmX11_abandonThrough s m args below meth c H locs 0 0 Q (F0 m 2 ls [])) (x1 : Nat) (x2 : Int32) (x3 : Int32) (hx1 : (1, x1) ∈ ids) {z : St} {H : Heap} {locs : List Loc} {ls : Array Slot} (hr : zRep D cy B ids A s.heap z H locs) (hl : lv_has ls 5 [(1, .ref (B 1 x1)), (2, .int x2), (3, .int x3)]) (h : fX11_abandonThrough_70 N K2 x1 x2 x3 z = some (r, z')) : W p l e rmX11_abandonThrough s m args below meth c H locs 0 0 Q (F0 m 70 ls []) := by
  unfold fX11_abandonThrough_70 at h
  obtain ⟨v1, ev1⟩ : ∃ y : Int32, y = (x3 + 1) := ⟨_, rfl⟩
  replace h := zl_sub ev1 h
  refine lv_iinc (v := v1) (lv' := [(3, .int v1), (1, .ref (B 1 x1)), (2, .int x2)]) F.1 F.2.1 dX11_abandonThrough_70 hl (k := 2) rfl (by rw [ev1]; rfl) (by decide) rfl (fun ls hl => ?_)
  refine lv_goto (tgt := 2) F.1 F.2.1 dX11_abandonThrough_73 (by decide) ?_
  exact hK2 x1 x2 v1 hx1 hr (lv_sub hl [1, 2, 0] rfl) h
def fX11_abandonThrough_2b (N : Nat) (K2 : Nat → Int32 → Int32 → St → Option (Int32 × St)) (x1 : Nat) (x2 : Int32) (x3 : Int32) (z : St) : Option (Int32 × St) := if (6 : Int32) ≤ x3 then (some (0, z)) else (zk x3 (zlen z 119 x1) <| zl (zgQ z 119 x1 (Int32.toNatClampNeg x3)) fun y3 => zd y3 fun a4 => if ¬ (zgI z 2 0 a4) = (2 : Int32) then (fX11_abandonThrough_70 N K2 x1 x2 x3 z) else (if (zgI z 2 5 a4) = x2 then (zl (zsI z 2 5 a4 (-1 : Int32)) fun z7 => if ¬ (zgI z7 2 7 a4) = 0 then (fX11_abandonThrough_70 N K2 x1 x2 x3 z7) else (zl (zgR z7 2 12 a4) fun y9 => zd y9 fun a10 => zc (fX3_isDead N a10 z7) fun r11 z12 => if ¬ r11 = 0 then (fX11_abandonThrough_70 N K2 x1 x2 x3 z12) else (zl (zgR z12 2 12 a4) fun y16 => zd y16 fun a17 => zc (fX3_abortByOwner N a17 z12) fun _ z19 => fX11_abandonThrough_70 N K2 x1 x2 x3 z19))) else (fX11_abandonThrough_70 N K2 x1 x2 x3 z)))
def fX11_abandonThrough_2 (N : Nat)  : Nat → Nat → Int32 → Int32 → St → Option (Int32 × St)
  | 0 => fun _ _ _ _ => none
  | n + 1 => fX11_abandonThrough_2b N (fX11_abandonThrough_2 N  n)
set_option maxHeartbeats 4000000 in
set_option maxRecDepth 100000 in
theorem bX11_abandonThrough_2 (hst : zSt B ids) (F : zFx p m c cX11_abandonThrough 5 s args RX11 D cy B ids A) (hA : ∀ q : Nat, s.heap.size ≤ q → A q) {r : Int32} {z' : St} (E : zEnd p l e rmX11_abandonThrough s m args below meth c cX11_abandonThrough D cy B ids A Q none z' .return_ True) {N : Nat} {K2 : Nat → Int32 → Int32 → St → Option (Int32 × St)} (hK2 : ∀ (x1 : Nat) (x2 : Int32) (x3 : Int32) (hx1 : (1, x1) ∈ ids) {z : St} {H : Heap} {locs : List Loc} {ls : Array Slot} (hr : zRep D cy B ids A s.heap z H locs) (hl : lv_has ls 5 [(1, .ref (B 1 x1)), (2, .int x2), (3, .int x3)]), K2 x1 x2 x3 z = some (r, z') → W p l e rmX11_abandonThrough s m args below meth c H locs 0 0 Q (F0 m 2 ls [])) (x1 : Nat) (x2 : Int32) (x3 : Int32) (hx1 : (1, x1) ∈ ids) {z : St} {H : Heap} {locs : List Loc} {ls : Array Slot} (hr : zRep D cy B ids A s.heap z H locs) (hl : lv_has ls 5 [(1, .ref (B 1 x1)), (2, .int x2), (3, .int x3)]) (h : fX11_abandonThrough_2b N K2 x1 x2 x3 z = some (r, z')) : W p l e rmX11_abandonThrough s m args below meth c H locs 0 0 Q (F0 m 2 ls []) := by
  unfold fX11_abandonThrough_2b at h
  refine lv_iload_n F.1 F.2.1 dX11_abandonThrough_2 rfl (lv_at hl 2 rfl) ?_
  refine lv_bipush (v := (6 : Int32)) F.1 F.2.1 dX11_abandonThrough_3 (by decide) ?_
  refine lv_icmp_ge (tgt := 76) F.1 F.2.1 dX11_abandonThrough_5 (by decide) (fun c1 => ?_) (fun c1 => ?_)
  · replace h := zi_t c1 h
    obtain ⟨rfl, rfl⟩ := zret h
    exact E _ _ _ _ dX11_abandonThrough_76 trivial hr
  · replace h := zi_f c1 h
    refine lv_aload_n F.1 F.2.1 dX11_abandonThrough_8 rfl (lv_at hl 0 rfl) ?_
    refine gf11_220 F hx1 hr dX11_abandonThrough_9 ?_
    refine lv_iload_n F.1 F.2.1 dX11_abandonThrough_12 rfl (lv_at hl 2 rfl) ?_
    replace h := zk_some h
    obtain ⟨c2, h⟩ := h
    refine zr_aaldv (k := 119) (by decide) rfl rfl rfl F (zal_a F hx1 (j := 11) rfl) hr dX11_abandonThrough_13 c2 (fun y3 ey3 => ?_)
    replace h := zl_sub ey3 h
    have hy3 := zal_q hr (zal_a F hx1 (j := 11) rfl) rfl ey3
    clear ey3
    refine zr_astore (lv' := [(4, va_rf (Option.map (B 2) y3)), (1, .ref (B 1 x1)), (2, .int x2), (3, .int x3)]) F.1 F.2.1 dX11_abandonThrough_14 hl (by decide) rfl (fun ls hl => ?_)
    refine zr_aload F.1 F.2.1 dX11_abandonThrough_16 (lv_at hl 0 rfl) ?_
    replace h := zd_some h
    obtain ⟨a4, rfl, h⟩ := h
    refine gf11_279 F (hy3 _ rfl) hr dX11_abandonThrough_18 ?_
    refine lv_iconst (v := (2 : Int32)) F.1 F.2.1 dX11_abandonThrough_21 (by decide) ?_
    refine lv_icmp_ne (tgt := 70) F.1 F.2.1 dX11_abandonThrough_22 (by decide) (fun c5 => ?_) (fun c5 => ?_)
    · replace h := zi_t c5 h
      exact bX11_abandonThrough_70 hst F hA E hK2 x1 x2 x3 hx1 hr (lv_sub hl [1, 2, 3] rfl) h
    · replace h := zi_f (fun q => q c5) h
      refine lv_aload F.1 F.2.1 dX11_abandonThrough_25 (lv_at hl 0 rfl) ?_
      refine gf11_284 F (hy3 _ rfl) hr dX11_abandonThrough_27 ?_
      refine lv_iload_n F.1 F.2.1 dX11_abandonThrough_30 rfl (lv_at hl 2 rfl) ?_
      refine lv_icmp_eq (tgt := 37) F.1 F.2.1 dX11_abandonThrough_31 (by decide) (fun c6 => ?_) (fun c6 => ?_)
      · replace h := zi_t c6 h
        refine lv_aload F.1 F.2.1 dX11_abandonThrough_37 (lv_at hl 0 rfl) ?_
        refine lv_iconst (v := (-1 : Int32)) F.1 F.2.1 dX11_abandonThrough_39 (by decide) ?_
        refine pf11_284 F (hy3 _ rfl) hr dX11_abandonThrough_40 (-1 : Int32) (fun H locs z7 ez7 hr => ?_)
        replace h := zl_sub ez7 h
        clear ez7
        refine lv_aload F.1 F.2.1 dX11_abandonThrough_43 (lv_at hl 0 rfl) ?_
        refine gf11_287 F (hy3 _ rfl) hr dX11_abandonThrough_45 ?_
        refine lv_if_ne (tgt := 70) F.1 F.2.1 dX11_abandonThrough_48 (by decide) (fun c8 => ?_) (fun c8 => ?_)
        · replace h := zi_t c8 h
          exact bX11_abandonThrough_70 hst F hA E hK2 x1 x2 x3 hx1 hr (lv_sub hl [1, 2, 3] rfl) h
        · replace h := zi_f (fun q => q c8) h
          refine lv_aload F.1 F.2.1 dX11_abandonThrough_51 (lv_at hl 0 rfl) ?_
          refine gf11_253 F (hy3 _ rfl) hr dX11_abandonThrough_53 (fun y9 ey9 => ?_)
          replace h := zl_sub ey9 h
          have hy9 := zal_g hr (hy3 _ rfl) (j := 12) rfl ey9
          clear ey9
          replace h := zd_some h
          obtain ⟨a10, rfl, h⟩ := h
          replace h := zc_some h
          obtain ⟨r11, z12, hc13, h⟩ := h
          refine zr_calli (zrun_VN (As := []) (rest := []) zn_1672 zq_1227 zs_X3_isDead zq_1228 zq_13 hdX3_isDead (by decide) (T := TX3) (N := 19) rfl (okX3_isDead l D cy B ids hst N a10 (hy9 _ rfl) hr.2.2 hc13) F hr (hy9 _ rfl) hl.1 rfl (by decide) dX11_abandonThrough_56 rfl rfl hroX11_abandonThrough_X3_isDead ⟨Nat.zero_le _, Nat.zero_le _⟩) F hA hr (fun H locs hw14 hr => ?_)
          clear hc13
          refine lv_if_ne (tgt := 70) F.1 F.2.1 dX11_abandonThrough_59 (by decide) (fun c15 => ?_) (fun c15 => ?_)
          · replace h := zi_t c15 h
            exact bX11_abandonThrough_70 hst F hA E hK2 x1 x2 x3 hx1 hr (lv_sub hl [1, 2, 3] rfl) h
          · replace h := zi_f (fun q => q c15) h
            refine lv_aload F.1 F.2.1 dX11_abandonThrough_62 (lv_at hl 0 rfl) ?_
            refine gf11_253 F (hy3 _ rfl) hr dX11_abandonThrough_64 (fun y16 ey16 => ?_)
            replace h := zl_sub ey16 h
            have hy16 := zal_g hr (hy3 _ rfl) (j := 12) rfl ey16
            clear ey16
            replace h := zd_some h
            obtain ⟨a17, rfl, h⟩ := h
            replace h := zc_some h
            obtain ⟨r18, z19, hc20, h⟩ := h
            refine zr_callv (zrun_VN (As := []) (rest := []) zn_1793 zq_1795 zs_X3_abortByOwner zq_1796 zq_13 hdX3_abortByOwner (by decide) (T := TX3) (N := 19) rfl (okX3_abortByOwner l D cy B ids hst N a17 (hy16 _ rfl) hr.2.2 hc20) F hr (hy16 _ rfl) hl.1 rfl (by decide) dX11_abandonThrough_67 rfl rfl hroX11_abandonThrough_X3_abortByOwner ⟨Nat.zero_le _, Nat.zero_le _⟩) F hA hr (fun H locs hw21 hr => ?_)
            clear hc20
            exact bX11_abandonThrough_70 hst F hA E hK2 x1 x2 x3 hx1 hr (lv_sub hl [1, 2, 3] rfl) h
      · replace h := zi_f c6 h
        refine lv_goto (tgt := 70) F.1 F.2.1 dX11_abandonThrough_34 (by decide) ?_
        exact bX11_abandonThrough_70 hst F hA E hK2 x1 x2 x3 hx1 hr (lv_sub hl [1, 2, 3] rfl) h
theorem lX11_abandonThrough_2 (hst : zSt B ids) (F : zFx p m c cX11_abandonThrough 5 s args RX11 D cy B ids A) (hA : ∀ q : Nat, s.heap.size ≤ q → A q) {r : Int32} {z' : St} (E : zEnd p l e rmX11_abandonThrough s m args below meth c cX11_abandonThrough D cy B ids A Q none z' .return_ True) {N : Nat}  : ∀ (n : Nat) (x1 : Nat) (x2 : Int32) (x3 : Int32) (hx1 : (1, x1) ∈ ids) {z : St} {H : Heap} {locs : List Loc} {ls : Array Slot} (hr : zRep D cy B ids A s.heap z H locs) (hl : lv_has ls 5 [(1, .ref (B 1 x1)), (2, .int x2), (3, .int x3)]), fX11_abandonThrough_2 N  n x1 x2 x3 z = some (r, z') → W p l e rmX11_abandonThrough s m args below meth c H locs 0 0 Q (F0 m 2 ls []) := by
  intro n
  induction n with
  | zero => intro x1 x2 x3 hx1 z H locs ls hr hl h; cases h
  | succ n ih => intro x1 x2 x3 hx1 z H locs ls hr hl h; exact bX11_abandonThrough_2 hst F hA E ih x1 x2 x3 hx1 hr hl h
def fX11_abandonThrough (N : Nat)  (x0 : Nat) (x1 : Nat) (x2 : Int32) (z : St) : Option (Int32 × St) := fX11_abandonThrough_2 N N x1 x2 (0 : Int32) z
set_option maxHeartbeats 4000000 in
set_option maxRecDepth 100000 in
theorem bX11_abandonThrough_0 (hst : zSt B ids) (F : zFx p m c cX11_abandonThrough 5 s args RX11 D cy B ids A) (hA : ∀ q : Nat, s.heap.size ≤ q → A q) {r : Int32} {z' : St} (E : zEnd p l e rmX11_abandonThrough s m args below meth c cX11_abandonThrough D cy B ids A Q none z' .return_ True) {N : Nat}  (x0 : Nat) (x1 : Nat) (x2 : Int32) (hx0 : (11, x0) ∈ ids) (hx1 : (1, x1) ∈ ids) {z : St} {H : Heap} {locs : List Loc} {ls : Array Slot} (hr : zRep D cy B ids A s.heap z H locs) (hl : lv_has ls 5 [(0, .ref (B 11 x0)), (1, .ref (B 1 x1)), (2, .int x2)]) (h : fX11_abandonThrough N x0 x1 x2 z = some (r, z')) : W p l e rmX11_abandonThrough s m args below meth c H locs 0 0 Q (F0 m 0 ls []) := by
  unfold fX11_abandonThrough at h
  refine lv_iconst (v := (0 : Int32)) F.1 F.2.1 dX11_abandonThrough_0 (by decide) ?_
  refine lv_istore_n (lv' := [(3, .int (0 : Int32)), (0, .ref (B 11 x0)), (1, .ref (B 1 x1)), (2, .int x2)]) F.1 F.2.1 dX11_abandonThrough_1 rfl hl (by decide) rfl (fun ls hl => ?_)
  exact lX11_abandonThrough_2 hst F hA E  _ x1 x2 (0 : Int32) hx1 hr (lv_sub hl [2, 3, 0] rfl) h
end SX11_abandonThrough
set_option maxRecDepth 100000 in
theorem okX11_abandonThrough (l : Launch) (D : va_G) (cy : Nat → ClassId) (B : Nat → Nat → Nat) (ids : List (Nat × Nat)) (hst : zSt B ids) (N : Nat) (x0 : Nat) (hx0 : (11, x0) ∈ ids) (x1 : Nat) (hx1 : (1, x1) ∈ ids) (x2 : Int32) {z : St} {r : Int32} {z' : St} (hW : zWf ids z) (h : fX11_abandonThrough N x0 x1 x2 z = some (r, z')) : zM l yX11_abandonThrough (zws yX11_abandonThrough cX11_abandonThrough 5 none) rmX11_abandonThrough D cy B ids [.ref (B 11 x0), .ref (B 1 x1), .int x2] none True z z' :=
  zM_of hst hW (by decide +kernel) (Nat.le_of_ble_eq_true rfl) (fun p e s m args below meth c A ls F hA hret hlocks hr hl => bX11_abandonThrough_0 hst F hA (zEnd_v F hret hlocks) x0 x1 x2 hx0 hx1 hr hl h)
abbrev rmX11_wroteTo : Room := { frames := 2, cells := 0, slots := 0, locals := 41 }
theorem hdX11_wroteTo : yX11_wroteTo.cls ≠ "java/lang/invoke/MethodHandle" ∧ yX11_wroteTo.cls ≠ "java/lang/invoke/VarHandle" ∧ (parseMethodDescriptor yX11_wroteTo.desc).map (fun d => d.parameters.length) = some 1 := by decide +kernel
theorem hroX11_wroteTo_X11_stir : rmX11_stir.frames + 1 ≤ rmX11_wroteTo.frames ∧ 8 + (1 + 11) + rmX11_stir.locals ≤ rmX11_wroteTo.locals := by decide
theorem hroX11_wroteTo_X3_armProbe : rmX3_armProbe.frames + 1 ≤ rmX11_wroteTo.frames ∧ 8 + (2 + 11) + rmX3_armProbe.locals ≤ rmX11_wroteTo.locals := by decide
section SX11_wroteTo
variable {p : Program} {l : Launch} {e : Env} {s : State} {m : MethodId} {args : Array Value} {below : List Frame} {meth : Method} {c : Code} {Q : State → Prop} {D : va_G} {cy : Nat → ClassId} {B : Nat → Nat → Nat} {ids : List (Nat × Nat)} {A : Nat → Prop}
def fX11_wroteTo (N : Nat)  (x0 : Nat) (x1 : Nat) (z : St) : Option (Int32 × St) := zl (zgR z 2 12 x1) fun y1 => zd y1 fun a2 => zc (fX3_armProbe N a2 (zgI z 11 4 x0) z) fun _ z4 => zc (fX11_stir N x0 z4) fun _ z8 => some (0, z8)
set_option maxHeartbeats 4000000 in
set_option maxRecDepth 100000 in
theorem bX11_wroteTo_0 (hst : zSt B ids) (F : zFx p m c cX11_wroteTo 2 s args RX11 D cy B ids A) (hA : ∀ q : Nat, s.heap.size ≤ q → A q) {r : Int32} {z' : St} (E : zEnd p l e rmX11_wroteTo s m args below meth c cX11_wroteTo D cy B ids A Q none z' .return_ True) {N : Nat}  (x0 : Nat) (x1 : Nat) (hx0 : (11, x0) ∈ ids) (hx1 : (2, x1) ∈ ids) {z : St} {H : Heap} {locs : List Loc} {ls : Array Slot} (hr : zRep D cy B ids A s.heap z H locs) (hl : lv_has ls 2 [(0, .ref (B 11 x0)), (1, .ref (B 2 x1))]) (h : fX11_wroteTo N x0 x1 z = some (r, z')) : W p l e rmX11_wroteTo s m args below meth c H locs 0 0 Q (F0 m 0 ls []) := by
  unfold fX11_wroteTo at h
  refine lv_aload_n F.1 F.2.1 dX11_wroteTo_0 rfl (lv_at hl 1 rfl) ?_
  refine gf11_253 F hx1 hr dX11_wroteTo_1 (fun y1 ey1 => ?_)
  replace h := zl_sub ey1 h
  have hy1 := zal_g hr hx1 (j := 12) rfl ey1
  clear ey1
  refine lv_aload_n F.1 F.2.1 dX11_wroteTo_4 rfl (lv_at hl 0 rfl) ?_
  refine gf11_176 F hx0 hr dX11_wroteTo_5 ?_
  replace h := zd_some h
  obtain ⟨a2, rfl, h⟩ := h
  replace h := zc_some h
  obtain ⟨r3, z4, hc5, h⟩ := h
  refine zr_callv (zrun_VN (As := [.int (zgI z 11 4 x0)]) (rest := []) zn_1668 zq_1670 zs_X3_armProbe zq_1671 zq_13 hdX3_armProbe (by decide) (T := TX3) (N := 19) rfl (okX3_armProbe l D cy B ids hst N a2 (hy1 _ rfl) (zgI z 11 4 x0)  hr.2.2 hc5) F hr (hy1 _ rfl) hl.1 rfl (by decide) dX11_wroteTo_8 rfl rfl hroX11_wroteTo_X3_armProbe ⟨Nat.zero_le _, Nat.zero_le _⟩) F hA hr (fun H locs hw6 hr => ?_)
  clear hc5
  refine lv_aload_n F.1 F.2.1 dX11_wroteTo_11 rfl (lv_at hl 0 rfl) ?_
  replace h := zc_some h
  obtain ⟨r7, z8, hc9, h⟩ := h
  refine zr_callv (zrun_V (As := []) (rest := []) zq_858 zq_860 zs_X11_stir zq_861 zq_1 hdX11_stir (by decide) (T := TX11) (N := 21) rfl (okX11_stir l D cy B ids hst N x0 hx0 hr.2.2 hc9) F hr hx0 hl.1 rfl (by decide) dX11_wroteTo_12 rfl rfl hroX11_wroteTo_X11_stir ⟨Nat.zero_le _, Nat.zero_le _⟩) F hA hr (fun H locs hw10 hr => ?_)
  clear hc9
  obtain ⟨rfl, rfl⟩ := zret h
  exact E _ _ _ _ dX11_wroteTo_15 trivial hr
end SX11_wroteTo
set_option maxRecDepth 100000 in
theorem okX11_wroteTo (l : Launch) (D : va_G) (cy : Nat → ClassId) (B : Nat → Nat → Nat) (ids : List (Nat × Nat)) (hst : zSt B ids) (N : Nat) (x0 : Nat) (hx0 : (11, x0) ∈ ids) (x1 : Nat) (hx1 : (2, x1) ∈ ids) {z : St} {r : Int32} {z' : St} (hW : zWf ids z) (h : fX11_wroteTo N x0 x1 z = some (r, z')) : zM l yX11_wroteTo (zws yX11_wroteTo cX11_wroteTo 2 none) rmX11_wroteTo D cy B ids [.ref (B 11 x0), .ref (B 2 x1)] none True z z' :=
  zM_of hst hW (by decide +kernel) (Nat.le_of_ble_eq_true rfl) (fun p e s m args below meth c A ls F hA hret hlocks hr hl => bX11_wroteTo_0 hst F hA (zEnd_v F hret hlocks) x0 x1 hx0 hx1 hr hl h)
abbrev rmX11_noteWriting : Room := { frames := 0, cells := 0, slots := 0, locals := 0 }
theorem hdX11_noteWriting : yX11_noteWriting.cls ≠ "java/lang/invoke/MethodHandle" ∧ yX11_noteWriting.cls ≠ "java/lang/invoke/VarHandle" ∧ (parseMethodDescriptor yX11_noteWriting.desc).map (fun d => d.parameters.length) = some 3 := by decide +kernel
section SX11_noteWriting
variable {p : Program} {l : Launch} {e : Env} {s : State} {m : MethodId} {args : Array Value} {below : List Frame} {meth : Method} {c : Code} {Q : State → Prop} {D : va_G} {cy : Nat → ClassId} {B : Nat → Nat → Nat} {ids : List (Nat × Nat)} {A : Nat → Prop}
def fX11_noteWriting (N : Nat)  (x0 : Nat) (x1 : Nat) (x2 : Int32) (x3 : Int64) (z : St) : Option (Int32 × St) := if (zgI z 11 19 x0) < (512 : Int32) then (zk (zgI z 11 19 x0) 512 <| zl (zsA z 143 x0 (Int32.toNatClampNeg (zgI z 11 19 x0)) (zgI z 3 14 x1)) fun z3 => zk (zgI z3 11 19 x0) 512 <| zl (zsA z3 144 x0 (Int32.toNatClampNeg (zgI z3 11 19 x0)) x2) fun z5 => zk (zgI z5 11 19 x0) 512 <| zl (zsL z5 145 x0 (Int32.toNatClampNeg (zgI z5 11 19 x0)) x3) fun z7 => zl (zsI z7 11 19 x0 ((zgI z7 11 19 x0) + (1 : Int32))) fun z8 => some (0, z8)) else (some (0, z))
set_option maxHeartbeats 4000000 in
set_option maxRecDepth 100000 in
theorem bX11_noteWriting_0 (hst : zSt B ids) (F : zFx p m c cX11_noteWriting 5 s args RX11 D cy B ids A) (hA : ∀ q : Nat, s.heap.size ≤ q → A q) {r : Int32} {z' : St} (E : zEnd p l e rmX11_noteWriting s m args below meth c cX11_noteWriting D cy B ids A Q none z' .return_ True) {N : Nat}  (x0 : Nat) (x1 : Nat) (x2 : Int32) (x3 : Int64) (hx0 : (11, x0) ∈ ids) (hx1 : (3, x1) ∈ ids) {z : St} {H : Heap} {locs : List Loc} {ls : Array Slot} (hr : zRep D cy B ids A s.heap z H locs) (hl : lv_has ls 5 [(0, .ref (B 11 x0)), (1, .ref (B 3 x1)), (2, .int x2), (3, .long x3)]) (h : fX11_noteWriting N x0 x1 x2 x3 z = some (r, z')) : W p l e rmX11_noteWriting s m args below meth c H locs 0 0 Q (F0 m 0 ls []) := by
  unfold fX11_noteWriting at h
  refine lv_aload_n F.1 F.2.1 dX11_noteWriting_0 rfl (lv_at hl 0 rfl) ?_
  refine gf11_899 F hx0 hr dX11_noteWriting_1 ?_
  refine lv_sipush (v := (512 : Int32)) F.1 F.2.1 dX11_noteWriting_4 (by decide) ?_
  refine lv_icmp_lt (tgt := 11) F.1 F.2.1 dX11_noteWriting_7 (by decide) (fun c1 => ?_) (fun c1 => ?_)
  · replace h := zi_t c1 h
    refine lv_aload_n F.1 F.2.1 dX11_noteWriting_11 rfl (lv_at hl 0 rfl) ?_
    refine gf11_38 F hx0 hr dX11_noteWriting_12 ?_
    refine lv_aload_n F.1 F.2.1 dX11_noteWriting_15 rfl (lv_at hl 0 rfl) ?_
    refine gf11_899 F hx0 hr dX11_noteWriting_16 ?_
    refine lv_aload_n F.1 F.2.1 dX11_noteWriting_19 rfl (lv_at hl 1 rfl) ?_
    refine gf11_847 F hx1 hr dX11_noteWriting_20 ?_
    replace h := zk_some h
    obtain ⟨c2, h⟩ := h
    refine zr_iast (k := 143) (by decide) rfl (by decide) F (zal_a F hx0 (j := 16) rfl) hr dX11_noteWriting_23 c2 (fun H locs z3 ez3 hr => ?_)
    replace h := zl_sub ez3 h
    clear ez3
    refine lv_aload_n F.1 F.2.1 dX11_noteWriting_24 rfl (lv_at hl 0 rfl) ?_
    refine gf11_42 F hx0 hr dX11_noteWriting_25 ?_
    refine lv_aload_n F.1 F.2.1 dX11_noteWriting_28 rfl (lv_at hl 0 rfl) ?_
    refine gf11_899 F hx0 hr dX11_noteWriting_29 ?_
    refine lv_iload_n F.1 F.2.1 dX11_noteWriting_32 rfl (lv_at hl 2 rfl) ?_
    replace h := zk_some h
    obtain ⟨c4, h⟩ := h
    refine zr_iast (k := 144) (by decide) rfl (by decide) F (zal_a F hx0 (j := 17) rfl) hr dX11_noteWriting_33 c4 (fun H locs z5 ez5 hr => ?_)
    replace h := zl_sub ez5 h
    clear ez5
    refine lv_aload_n F.1 F.2.1 dX11_noteWriting_34 rfl (lv_at hl 0 rfl) ?_
    refine gf11_45 F hx0 hr dX11_noteWriting_35 ?_
    refine lv_aload_n F.1 F.2.1 dX11_noteWriting_38 rfl (lv_at hl 0 rfl) ?_
    refine gf11_899 F hx0 hr dX11_noteWriting_39 ?_
    refine lv_lload_n F.1 F.2.1 dX11_noteWriting_42 rfl (lv_at hl 3 rfl) ?_
    replace h := zk_some h
    obtain ⟨c6, h⟩ := h
    refine zr_last (k := 145) (by decide) rfl (by decide) F (zal_a F hx0 (j := 18) rfl) hr dX11_noteWriting_43 c6 (fun H locs z7 ez7 hr => ?_)
    replace h := zl_sub ez7 h
    clear ez7
    refine lv_aload_n F.1 F.2.1 dX11_noteWriting_44 rfl (lv_at hl 0 rfl) ?_
    refine lv_dup F.1 F.2.1 dX11_noteWriting_45 rfl ?_
    refine gf11_899 F hx0 hr dX11_noteWriting_46 ?_
    refine lv_iconst (v := (1 : Int32)) F.1 F.2.1 dX11_noteWriting_49 (by decide) ?_
    refine lv_iadd F.1 F.2.1 dX11_noteWriting_50 ?_
    refine pf11_899 F hx0 hr dX11_noteWriting_51 ((zgI z7 11 19 x0) + (1 : Int32)) (fun H locs z8 ez8 hr => ?_)
    replace h := zl_sub ez8 h
    clear ez8
    obtain ⟨rfl, rfl⟩ := zret h
    exact E _ _ _ _ dX11_noteWriting_54 trivial hr
  · replace h := zi_f c1 h
    obtain ⟨rfl, rfl⟩ := zret h
    exact E _ _ _ _ dX11_noteWriting_10 trivial hr
end SX11_noteWriting
set_option maxRecDepth 100000 in
theorem okX11_noteWriting (l : Launch) (D : va_G) (cy : Nat → ClassId) (B : Nat → Nat → Nat) (ids : List (Nat × Nat)) (hst : zSt B ids) (N : Nat) (x0 : Nat) (hx0 : (11, x0) ∈ ids) (x1 : Nat) (hx1 : (3, x1) ∈ ids) (x2 : Int32) (x3 : Int64) {z : St} {r : Int32} {z' : St} (hW : zWf ids z) (h : fX11_noteWriting N x0 x1 x2 x3 z = some (r, z')) : zM l yX11_noteWriting (zws yX11_noteWriting cX11_noteWriting 5 none) rmX11_noteWriting D cy B ids [.ref (B 11 x0), .ref (B 3 x1), .int x2, .long x3] none True z z' :=
  zM_of hst hW (by decide +kernel) (Nat.le_of_ble_eq_true rfl) (fun p e s m args below meth c A ls F hA hret hlocks hr hl => bX11_noteWriting_0 hst F hA (zEnd_v F hret hlocks) x0 x1 x2 x3 hx0 hx1 hr hl h)
abbrev rmX14_begin : Room := { frames := 0, cells := 0, slots := 0, locals := 0 }
theorem hdX14_begin : yX14_begin.cls ≠ "java/lang/invoke/MethodHandle" ∧ yX14_begin.cls ≠ "java/lang/invoke/VarHandle" ∧ (parseMethodDescriptor yX14_begin.desc).map (fun d => d.parameters.length) = some 2 := by decide +kernel
section SX14_begin
variable {p : Program} {l : Launch} {e : Env} {s : State} {m : MethodId} {args : Array Value} {below : List Frame} {meth : Method} {c : Code} {Q : State → Prop} {D : va_G} {cy : Nat → ClassId} {B : Nat → Nat → Nat} {ids : List (Nat × Nat)} {A : Nat → Prop}
def fX14_begin_79b (N : Nat) (K79 : Nat → Int32 → St → Option (Int32 × St)) (x0 : Nat) (x3 : Int32) (z : St) : Option (Int32 × St) := if (2048 : Int32) ≤ x3 then (zl (zsI z 14 21 x0 (0 : Int32)) fun z2 => zl (zsI z2 14 22 x0 (0 : Int32)) fun z3 => zl (zsI z3 14 23 x0 (0 : Int32)) fun z4 => zl (zsI z4 14 28 x0 (0 : Int32)) fun z5 => zl (zsI z5 14 29 x0 (0 : Int32)) fun z6 => zl (zsI z6 14 30 x0 (0 : Int32)) fun z7 => zl (zsI z7 14 31 x0 (0 : Int32)) fun z8 => zl (zsI z8 14 32 x0 (0 : Int32)) fun z9 => zl (zsI z9 14 33 x0 (0 : Int32)) fun z10 => zl (zsI z10 14 35 x0 (60 : Int32)) fun z11 => zl (zsI z11 14 36 x0 (0 : Int32)) fun z12 => zl (zsI z12 14 37 x0 (0 : Int32)) fun z13 => zl (zsI z13 14 40 x0 (0 : Int32)) fun z14 => zl (zsI z14 14 41 x0 (0 : Int32)) fun z15 => zl (zsI z15 14 42 x0 (0 : Int32)) fun z16 => zl (zsI z16 14 46 x0 (0 : Int32)) fun z17 => some (0, z17)) else (zk x3 2048 <| zl (zsA z 161 x0 (Int32.toNatClampNeg x3) (vp_nar .boolean (0 : Int32))) fun z19 => zl (x3 + 1) fun v20 => K79 x0 v20 z19)
def fX14_begin_79 (N : Nat)  : Nat → Nat → Int32 → St → Option (Int32 × St)
  | 0 => fun _ _ _ => none
  | n + 1 => fX14_begin_79b N (fX14_begin_79 N  n)
set_option maxHeartbeats 4000000 in
set_option maxRecDepth 100000 in
theorem bX14_begin_79 (hst : zSt B ids) (F : zFx p m c cX14_begin 4 s args RX14 D cy B ids A) (hA : ∀ q : Nat, s.heap.size ≤ q → A q) {r : Int32} {z' : St} (E : zEnd p l e rmX14_begin s m args below meth c cX14_begin D cy B ids A Q none z' .return_ True) {N : Nat} {K79 : Nat → Int32 → St → Option (Int32 × St)} (hK79 : ∀ (x0 : Nat) (x3 : Int32) (hx0 : (14, x0) ∈ ids) {z : St} {H : Heap} {locs : List Loc} {ls : Array Slot} (hr : zRep D cy B ids A s.heap z H locs) (hl : lv_has ls 4 [(0, .ref (B 14 x0)), (3, .int x3)]), K79 x0 x3 z = some (r, z') → W p l e rmX14_begin s m args below meth c H locs 0 0 Q (F0 m 79 ls [])) (x0 : Nat) (x3 : Int32) (hx0 : (14, x0) ∈ ids) {z : St} {H : Heap} {locs : List Loc} {ls : Array Slot} (hr : zRep D cy B ids A s.heap z H locs) (hl : lv_has ls 4 [(0, .ref (B 14 x0)), (3, .int x3)]) (h : fX14_begin_79b N K79 x0 x3 z = some (r, z')) : W p l e rmX14_begin s m args below meth c H locs 0 0 Q (F0 m 79 ls []) := by
  unfold fX14_begin_79b at h
  refine lv_iload_n F.1 F.2.1 dX14_begin_79 rfl (lv_at hl 1 rfl) ?_
  refine lv_sipush (v := (2048 : Int32)) F.1 F.2.1 dX14_begin_80 (by decide) ?_
  refine lv_icmp_ge (tgt := 99) F.1 F.2.1 dX14_begin_83 (by decide) (fun c1 => ?_) (fun c1 => ?_)
  · replace h := zi_t c1 h
    refine lv_aload_n F.1 F.2.1 dX14_begin_99 rfl (lv_at hl 0 rfl) ?_
    refine lv_iconst (v := (0 : Int32)) F.1 F.2.1 dX14_begin_100 (by decide) ?_
    refine pf14_75 F hx0 hr dX14_begin_101 (0 : Int32) (by decide) (fun H locs z2 ez2 hr => ?_)
    replace h := zl_sub ez2 h
    clear ez2
    refine lv_aload_n F.1 F.2.1 dX14_begin_104 rfl (lv_at hl 0 rfl) ?_
    refine lv_iconst (v := (0 : Int32)) F.1 F.2.1 dX14_begin_105 (by decide) ?_
    refine pf14_78 F hx0 hr dX14_begin_106 (0 : Int32) (fun H locs z3 ez3 hr => ?_)
    replace h := zl_sub ez3 h
    clear ez3
    refine lv_aload_n F.1 F.2.1 dX14_begin_109 rfl (lv_at hl 0 rfl) ?_
    refine lv_iconst (v := (0 : Int32)) F.1 F.2.1 dX14_begin_110 (by decide) ?_
    refine pf14_81 F hx0 hr dX14_begin_111 (0 : Int32) (by decide) (fun H locs z4 ez4 hr => ?_)
    replace h := zl_sub ez4 h
    clear ez4
    refine lv_aload_n F.1 F.2.1 dX14_begin_114 rfl (lv_at hl 0 rfl) ?_
    refine lv_iconst (v := (0 : Int32)) F.1 F.2.1 dX14_begin_115 (by decide) ?_
    refine pf14_84 F hx0 hr dX14_begin_116 (0 : Int32) (by decide) (fun H locs z5 ez5 hr => ?_)
    replace h := zl_sub ez5 h
    clear ez5
    refine lv_aload_n F.1 F.2.1 dX14_begin_119 rfl (lv_at hl 0 rfl) ?_
    refine lv_iconst (v := (0 : Int32)) F.1 F.2.1 dX14_begin_120 (by decide) ?_
    refine pf14_87 F hx0 hr dX14_begin_121 (0 : Int32) (by decide) (fun H locs z6 ez6 hr => ?_)
    replace h := zl_sub ez6 h
    clear ez6
    refine lv_aload_n F.1 F.2.1 dX14_begin_124 rfl (lv_at hl 0 rfl) ?_
    refine lv_iconst (v := (0 : Int32)) F.1 F.2.1 dX14_begin_125 (by decide) ?_
    refine pf14_90 F hx0 hr dX14_begin_126 (0 : Int32) (by decide) (fun H locs z7 ez7 hr => ?_)
    replace h := zl_sub ez7 h
    clear ez7
    refine lv_aload_n F.1 F.2.1 dX14_begin_129 rfl (lv_at hl 0 rfl) ?_
    refine lv_iconst (v := (0 : Int32)) F.1 F.2.1 dX14_begin_130 (by decide) ?_
    refine pf14_93 F hx0 hr dX14_begin_131 (0 : Int32) (by decide) (fun H locs z8 ez8 hr => ?_)
    replace h := zl_sub ez8 h
    clear ez8
    refine lv_aload_n F.1 F.2.1 dX14_begin_134 rfl (lv_at hl 0 rfl) ?_
    refine lv_iconst (v := (0 : Int32)) F.1 F.2.1 dX14_begin_135 (by decide) ?_
    refine pf14_96 F hx0 hr dX14_begin_136 (0 : Int32) (by decide) (fun H locs z9 ez9 hr => ?_)
    replace h := zl_sub ez9 h
    clear ez9
    refine lv_aload_n F.1 F.2.1 dX14_begin_139 rfl (lv_at hl 0 rfl) ?_
    refine lv_iconst (v := (0 : Int32)) F.1 F.2.1 dX14_begin_140 (by decide) ?_
    refine pf14_99 F hx0 hr dX14_begin_141 (0 : Int32) (by decide) (fun H locs z10 ez10 hr => ?_)
    replace h := zl_sub ez10 h
    clear ez10
    refine lv_aload_n F.1 F.2.1 dX14_begin_144 rfl (lv_at hl 0 rfl) ?_
    refine lv_bipush (v := (60 : Int32)) F.1 F.2.1 dX14_begin_145 (by decide) ?_
    refine pf14_102 F hx0 hr dX14_begin_147 (60 : Int32) (fun H locs z11 ez11 hr => ?_)
    replace h := zl_sub ez11 h
    clear ez11
    refine lv_aload_n F.1 F.2.1 dX14_begin_150 rfl (lv_at hl 0 rfl) ?_
    refine lv_iconst (v := (0 : Int32)) F.1 F.2.1 dX14_begin_151 (by decide) ?_
    refine pf14_105 F hx0 hr dX14_begin_152 (0 : Int32) (fun H locs z12 ez12 hr => ?_)
    replace h := zl_sub ez12 h
    clear ez12
    refine lv_aload_n F.1 F.2.1 dX14_begin_155 rfl (lv_at hl 0 rfl) ?_
    refine lv_iconst (v := (0 : Int32)) F.1 F.2.1 dX14_begin_156 (by decide) ?_
    refine pf14_108 F hx0 hr dX14_begin_157 (0 : Int32) (by decide) (fun H locs z13 ez13 hr => ?_)
    replace h := zl_sub ez13 h
    clear ez13
    refine lv_aload_n F.1 F.2.1 dX14_begin_160 rfl (lv_at hl 0 rfl) ?_
    refine lv_iconst (v := (0 : Int32)) F.1 F.2.1 dX14_begin_161 (by decide) ?_
    refine pf14_111 F hx0 hr dX14_begin_162 (0 : Int32) (by decide) (fun H locs z14 ez14 hr => ?_)
    replace h := zl_sub ez14 h
    clear ez14
    refine lv_aload_n F.1 F.2.1 dX14_begin_165 rfl (lv_at hl 0 rfl) ?_
    refine lv_iconst (v := (0 : Int32)) F.1 F.2.1 dX14_begin_166 (by decide) ?_
    refine pf14_114 F hx0 hr dX14_begin_167 (0 : Int32) (fun H locs z15 ez15 hr => ?_)
    replace h := zl_sub ez15 h
    clear ez15
    refine lv_aload_n F.1 F.2.1 dX14_begin_170 rfl (lv_at hl 0 rfl) ?_
    refine lv_iconst (v := (0 : Int32)) F.1 F.2.1 dX14_begin_171 (by decide) ?_
    refine pf14_117 F hx0 hr dX14_begin_172 (0 : Int32) (fun H locs z16 ez16 hr => ?_)
    replace h := zl_sub ez16 h
    clear ez16
    refine lv_aload_n F.1 F.2.1 dX14_begin_175 rfl (lv_at hl 0 rfl) ?_
    refine lv_iconst (v := (0 : Int32)) F.1 F.2.1 dX14_begin_176 (by decide) ?_
    refine pf14_120 F hx0 hr dX14_begin_177 (0 : Int32) (fun H locs z17 ez17 hr => ?_)
    replace h := zl_sub ez17 h
    clear ez17
    obtain ⟨rfl, rfl⟩ := zret h
    exact E _ _ _ _ dX14_begin_180 trivial hr
  · replace h := zi_f c1 h
    refine lv_aload_n F.1 F.2.1 dX14_begin_86 rfl (lv_at hl 0 rfl) ?_
    refine gf14_18 F hx0 hr dX14_begin_87 ?_
    refine lv_iload_n F.1 F.2.1 dX14_begin_90 rfl (lv_at hl 1 rfl) ?_
    refine lv_iconst (v := (0 : Int32)) F.1 F.2.1 dX14_begin_91 (by decide) ?_
    replace h := zk_some h
    obtain ⟨c18, h⟩ := h
    refine zr_zast (k := 161) (by decide) rfl (by decide) F (zal_a F hx0 (j := 20) rfl) hr dX14_begin_92 c18 (fun H locs z19 ez19 hr => ?_)
    replace h := zl_sub ez19 h
    clear ez19
    obtain ⟨v20, ev20⟩ : ∃ y : Int32, y = (x3 + 1) := ⟨_, rfl⟩
    replace h := zl_sub ev20 h
    refine lv_iinc (v := v20) (lv' := [(3, .int v20), (0, .ref (B 14 x0))]) F.1 F.2.1 dX14_begin_93 hl (k := 1) rfl (by rw [ev20]; rfl) (by decide) rfl (fun ls hl => ?_)
    refine lv_goto (tgt := 79) F.1 F.2.1 dX14_begin_96 (by decide) ?_
    exact hK79 x0 v20 hx0 hr (lv_sub hl [1, 0] rfl) h
theorem lX14_begin_79 (hst : zSt B ids) (F : zFx p m c cX14_begin 4 s args RX14 D cy B ids A) (hA : ∀ q : Nat, s.heap.size ≤ q → A q) {r : Int32} {z' : St} (E : zEnd p l e rmX14_begin s m args below meth c cX14_begin D cy B ids A Q none z' .return_ True) {N : Nat}  : ∀ (n : Nat) (x0 : Nat) (x3 : Int32) (hx0 : (14, x0) ∈ ids) {z : St} {H : Heap} {locs : List Loc} {ls : Array Slot} (hr : zRep D cy B ids A s.heap z H locs) (hl : lv_has ls 4 [(0, .ref (B 14 x0)), (3, .int x3)]), fX14_begin_79 N  n x0 x3 z = some (r, z') → W p l e rmX14_begin s m args below meth c H locs 0 0 Q (F0 m 79 ls []) := by
  intro n
  induction n with
  | zero => intro x0 x3 hx0 z H locs ls hr hl h; cases h
  | succ n ih => intro x0 x3 hx0 z H locs ls hr hl h; exact bX14_begin_79 hst F hA E ih x0 x3 hx0 hr hl h
def fX14_begin (N : Nat)  (x0 : Nat) (x1 : Int32) (x2 : Int32) (z : St) : Option (Int32 × St) := zl (zsI z 14 0 x0 (0 : Int32)) fun z1 => zl (zsI z1 14 1 x0 (0 : Int32)) fun z2 => zl (zsI z2 14 5 x0 x1) fun z3 => zl (zsI z3 14 14 x0 x2) fun z4 => zl (zsI z4 14 15 x0 x2) fun z5 => zl (zsI z5 14 6 x0 x1) fun z6 => zl (zsI z6 14 7 x0 x1) fun z7 => zl (zsI z7 14 8 x0 (x1 + (1 : Int32))) fun z8 => zl (zsI z8 14 9 x0 (0 : Int32)) fun z9 => zl (zsI z9 14 11 x0 (0 : Int32)) fun z10 => zl (zsI z10 14 12 x0 (0 : Int32)) fun z11 => zl (zsI z11 14 13 x0 (0 : Int32)) fun z12 => zl (zsI z12 14 16 x0 (0 : Int32)) fun z13 => zl (zsI z13 14 17 x0 (0 : Int32)) fun z14 => zl (zsI z14 14 18 x0 (0 : Int32)) fun z15 => fX14_begin_79 N N x0 (0 : Int32) z15
set_option maxHeartbeats 4000000 in
set_option maxRecDepth 100000 in
theorem bX14_begin_0 (hst : zSt B ids) (F : zFx p m c cX14_begin 4 s args RX14 D cy B ids A) (hA : ∀ q : Nat, s.heap.size ≤ q → A q) {r : Int32} {z' : St} (E : zEnd p l e rmX14_begin s m args below meth c cX14_begin D cy B ids A Q none z' .return_ True) {N : Nat}  (x0 : Nat) (x1 : Int32) (x2 : Int32) (hx0 : (14, x0) ∈ ids) {z : St} {H : Heap} {locs : List Loc} {ls : Array Slot} (hr : zRep D cy B ids A s.heap z H locs) (hl : lv_has ls 4 [(0, .ref (B 14 x0)), (1, .int x1), (2, .int x2)]) (h : fX14_begin N x0 x1 x2 z = some (r, z')) : W p l e rmX14_begin s m args below meth c H locs 0 0 Q (F0 m 0 ls []) := by
  unfold fX14_begin at h
  refine lv_aload_n F.1 F.2.1 dX14_begin_0 rfl (lv_at hl 0 rfl) ?_
  refine lv_iconst (v := (0 : Int32)) F.1 F.2.1 dX14_begin_1 (by decide) ?_
  refine pf14_29 F hx0 hr dX14_begin_2 (0 : Int32) (fun H locs z1 ez1 hr => ?_)
  replace h := zl_sub ez1 h
  clear ez1
  refine lv_aload_n F.1 F.2.1 dX14_begin_5 rfl (lv_at hl 0 rfl) ?_
  refine lv_iconst (v := (0 : Int32)) F.1 F.2.1 dX14_begin_6 (by decide) ?_
  refine pf14_32 F hx0 hr dX14_begin_7 (0 : Int32) (by decide) (fun H locs z2 ez2 hr => ?_)
  replace h := zl_sub ez2 h
  clear ez2
  refine lv_aload_n F.1 F.2.1 dX14_begin_10 rfl (lv_at hl 0 rfl) ?_
  refine lv_iload_n F.1 F.2.1 dX14_begin_11 rfl (lv_at hl 1 rfl) ?_
  refine pf14_36 F hx0 hr dX14_begin_12 x1 (fun H locs z3 ez3 hr => ?_)
  replace h := zl_sub ez3 h
  clear ez3
  refine lv_aload_n F.1 F.2.1 dX14_begin_15 rfl (lv_at hl 0 rfl) ?_
  refine lv_iload_n F.1 F.2.1 dX14_begin_16 rfl (lv_at hl 2 rfl) ?_
  refine pf14_39 F hx0 hr dX14_begin_17 x2 (fun H locs z4 ez4 hr => ?_)
  replace h := zl_sub ez4 h
  clear ez4
  refine lv_aload_n F.1 F.2.1 dX14_begin_20 rfl (lv_at hl 0 rfl) ?_
  refine lv_iload_n F.1 F.2.1 dX14_begin_21 rfl (lv_at hl 2 rfl) ?_
  refine pf14_42 F hx0 hr dX14_begin_22 x2 (fun H locs z5 ez5 hr => ?_)
  replace h := zl_sub ez5 h
  clear ez5
  refine lv_aload_n F.1 F.2.1 dX14_begin_25 rfl (lv_at hl 0 rfl) ?_
  refine lv_iload_n F.1 F.2.1 dX14_begin_26 rfl (lv_at hl 1 rfl) ?_
  refine pf14_45 F hx0 hr dX14_begin_27 x1 (fun H locs z6 ez6 hr => ?_)
  replace h := zl_sub ez6 h
  clear ez6
  refine lv_aload_n F.1 F.2.1 dX14_begin_30 rfl (lv_at hl 0 rfl) ?_
  refine lv_iload_n F.1 F.2.1 dX14_begin_31 rfl (lv_at hl 1 rfl) ?_
  refine pf14_48 F hx0 hr dX14_begin_32 x1 (fun H locs z7 ez7 hr => ?_)
  replace h := zl_sub ez7 h
  clear ez7
  refine lv_aload_n F.1 F.2.1 dX14_begin_35 rfl (lv_at hl 0 rfl) ?_
  refine lv_iload_n F.1 F.2.1 dX14_begin_36 rfl (lv_at hl 1 rfl) ?_
  refine lv_iconst (v := (1 : Int32)) F.1 F.2.1 dX14_begin_37 (by decide) ?_
  refine lv_iadd F.1 F.2.1 dX14_begin_38 ?_
  refine pf14_51 F hx0 hr dX14_begin_39 (x1 + (1 : Int32)) (fun H locs z8 ez8 hr => ?_)
  replace h := zl_sub ez8 h
  clear ez8
  refine lv_aload_n F.1 F.2.1 dX14_begin_42 rfl (lv_at hl 0 rfl) ?_
  refine lv_iconst (v := (0 : Int32)) F.1 F.2.1 dX14_begin_43 (by decide) ?_
  refine pf14_54 F hx0 hr dX14_begin_44 (0 : Int32) (by decide) (fun H locs z9 ez9 hr => ?_)
  replace h := zl_sub ez9 h
  clear ez9
  refine lv_aload_n F.1 F.2.1 dX14_begin_47 rfl (lv_at hl 0 rfl) ?_
  refine lv_iconst (v := (0 : Int32)) F.1 F.2.1 dX14_begin_48 (by decide) ?_
  refine pf14_57 F hx0 hr dX14_begin_49 (0 : Int32) (fun H locs z10 ez10 hr => ?_)
  replace h := zl_sub ez10 h
  clear ez10
  refine lv_aload_n F.1 F.2.1 dX14_begin_52 rfl (lv_at hl 0 rfl) ?_
  refine lv_iconst (v := (0 : Int32)) F.1 F.2.1 dX14_begin_53 (by decide) ?_
  refine pf14_60 F hx0 hr dX14_begin_54 (0 : Int32) (fun H locs z11 ez11 hr => ?_)
  replace h := zl_sub ez11 h
  clear ez11
  refine lv_aload_n F.1 F.2.1 dX14_begin_57 rfl (lv_at hl 0 rfl) ?_
  refine lv_iconst (v := (0 : Int32)) F.1 F.2.1 dX14_begin_58 (by decide) ?_
  refine pf14_63 F hx0 hr dX14_begin_59 (0 : Int32) (fun H locs z12 ez12 hr => ?_)
  replace h := zl_sub ez12 h
  clear ez12
  refine lv_aload_n F.1 F.2.1 dX14_begin_62 rfl (lv_at hl 0 rfl) ?_
  refine lv_iconst (v := (0 : Int32)) F.1 F.2.1 dX14_begin_63 (by decide) ?_
  refine pf14_66 F hx0 hr dX14_begin_64 (0 : Int32) (fun H locs z13 ez13 hr => ?_)
  replace h := zl_sub ez13 h
  clear ez13
  refine lv_aload_n F.1 F.2.1 dX14_begin_67 rfl (lv_at hl 0 rfl) ?_
  refine lv_iconst (v := (0 : Int32)) F.1 F.2.1 dX14_begin_68 (by decide) ?_
  refine pf14_69 F hx0 hr dX14_begin_69 (0 : Int32) (by decide) (fun H locs z14 ez14 hr => ?_)
  replace h := zl_sub ez14 h
  clear ez14
  refine lv_aload_n F.1 F.2.1 dX14_begin_72 rfl (lv_at hl 0 rfl) ?_
  refine lv_iconst (v := (0 : Int32)) F.1 F.2.1 dX14_begin_73 (by decide) ?_
  refine pf14_72 F hx0 hr dX14_begin_74 (0 : Int32) (fun H locs z15 ez15 hr => ?_)
  replace h := zl_sub ez15 h
  clear ez15
  refine lv_iconst (v := (0 : Int32)) F.1 F.2.1 dX14_begin_77 (by decide) ?_
  refine lv_istore_n (lv' := [(3, .int (0 : Int32)), (0, .ref (B 14 x0)), (1, .int x1), (2, .int x2)]) F.1 F.2.1 dX14_begin_78 rfl hl (by decide) rfl (fun ls hl => ?_)
  exact lX14_begin_79 hst F hA E  _ x0 (0 : Int32) hx0 hr (lv_sub hl [1, 0] rfl) h
end SX14_begin
set_option maxRecDepth 100000 in
theorem okX14_begin (l : Launch) (D : va_G) (cy : Nat → ClassId) (B : Nat → Nat → Nat) (ids : List (Nat × Nat)) (hst : zSt B ids) (N : Nat) (x0 : Nat) (hx0 : (14, x0) ∈ ids) (x1 : Int32) (x2 : Int32) {z : St} {r : Int32} {z' : St} (hW : zWf ids z) (h : fX14_begin N x0 x1 x2 z = some (r, z')) : zM l yX14_begin (zws yX14_begin cX14_begin 4 none) rmX14_begin D cy B ids [.ref (B 14 x0), .int x1, .int x2] none True z z' :=
  zM_of hst hW (by decide +kernel) (Nat.le_of_ble_eq_true rfl) (fun p e s m args below meth c A ls F hA hret hlocks hr hl => bX14_begin_0 hst F hA (zEnd_v F hret hlocks) x0 x1 x2 hx0 hr hl h)
abbrev rmX14_readable : Room := { frames := 0, cells := 0, slots := 0, locals := 0 }
theorem hdX14_readable : yX14_readable.cls ≠ "java/lang/invoke/MethodHandle" ∧ yX14_readable.cls ≠ "java/lang/invoke/VarHandle" ∧ (parseMethodDescriptor yX14_readable.desc).map (fun d => d.parameters.length) = some 0 := by decide +kernel
section SX14_readable
variable {p : Program} {l : Launch} {e : Env} {s : State} {m : MethodId} {args : Array Value} {below : List Frame} {meth : Method} {c : Code} {Q : State → Prop} {D : va_G} {cy : Nat → ClassId} {B : Nat → Nat → Nat} {ids : List (Nat × Nat)} {A : Nat → Prop}
def fX14_readable_27 (N : Nat)  (x0 : Nat) (s0 : Int32) (z : St) : Option (Int32 × St) := some ((s0 - (zgI z 14 18 x0)), z)
set_option maxHeartbeats 4000000 in
set_option maxRecDepth 100000 in
theorem bX14_readable_27 (hst : zSt B ids) (F : zFx p m c cX14_readable 1 s args RX14 D cy B ids A) (hA : ∀ q : Nat, s.heap.size ≤ q → A q) {r : Int32} {z' : St} (E : zEnd p l e rmX14_readable s m args below meth c cX14_readable D cy B ids A Q (some (.int r)) z' .ireturn True) {N : Nat}  (x0 : Nat) (s0 : Int32) (hx0 : (14, x0) ∈ ids) {z : St} {H : Heap} {locs : List Loc} {ls : Array Slot} (hr : zRep D cy B ids A s.heap z H locs) (hl : lv_has ls 1 [(0, .ref (B 14 x0))]) (h : fX14_readable_27 N x0 s0 z = some (r, z')) : W p l e rmX14_readable s m args below meth c H locs 0 0 Q (F0 m 27 ls [.int s0]) := by
  unfold fX14_readable_27 at h
  refine lv_aload_n F.1 F.2.1 dX14_readable_27 rfl (lv_at hl 0 rfl) ?_
  refine gf14_72 F hx0 hr dX14_readable_28 ?_
  refine lv_isub F.1 F.2.1 dX14_readable_31 ?_
  refine lv_goto (tgt := 36) F.1 F.2.1 dX14_readable_32 (by decide) ?_
  obtain ⟨rfl, rfl⟩ := zret h
  exact E _ _ _ _ dX14_readable_36 trivial hr
def fX14_readable (N : Nat)  (x0 : Nat) (z : St) : Option (Int32 × St) := if (zgI z 14 17 x0) = 0 then (some ((0 : Int32), z)) else (if (zgI z 14 23 x0) = 0 then (fX14_readable_27 N x0 (zgI z 14 16 x0) z) else (fX14_readable_27 N x0 ((zgI z 14 16 x0) - (1 : Int32)) z))
set_option maxHeartbeats 4000000 in
set_option maxRecDepth 100000 in
theorem bX14_readable_0 (hst : zSt B ids) (F : zFx p m c cX14_readable 1 s args RX14 D cy B ids A) (hA : ∀ q : Nat, s.heap.size ≤ q → A q) {r : Int32} {z' : St} (E : zEnd p l e rmX14_readable s m args below meth c cX14_readable D cy B ids A Q (some (.int r)) z' .ireturn True) {N : Nat}  (x0 : Nat) (hx0 : (14, x0) ∈ ids) {z : St} {H : Heap} {locs : List Loc} {ls : Array Slot} (hr : zRep D cy B ids A s.heap z H locs) (hl : lv_has ls 1 [(0, .ref (B 14 x0))]) (h : fX14_readable N x0 z = some (r, z')) : W p l e rmX14_readable s m args below meth c H locs 0 0 Q (F0 m 0 ls []) := by
  unfold fX14_readable at h
  refine lv_aload_n F.1 F.2.1 dX14_readable_0 rfl (lv_at hl 0 rfl) ?_
  refine gf14_69 F hx0 hr dX14_readable_1 ?_
  refine lv_if_eq (tgt := 35) F.1 F.2.1 dX14_readable_4 (by decide) (fun c1 => ?_) (fun c1 => ?_)
  · replace h := zi_t c1 h
    refine lv_iconst (v := (0 : Int32)) F.1 F.2.1 dX14_readable_35 (by decide) ?_
    obtain ⟨rfl, rfl⟩ := zret h
    exact E _ _ _ _ dX14_readable_36 trivial hr
  · replace h := zi_f c1 h
    refine lv_aload_n F.1 F.2.1 dX14_readable_7 rfl (lv_at hl 0 rfl) ?_
    refine gf14_81 F hx0 hr dX14_readable_8 ?_
    refine lv_if_eq (tgt := 23) F.1 F.2.1 dX14_readable_11 (by decide) (fun c2 => ?_) (fun c2 => ?_)
    · replace h := zi_t c2 h
      refine lv_aload_n F.1 F.2.1 dX14_readable_23 rfl (lv_at hl 0 rfl) ?_
      refine gf14_66 F hx0 hr dX14_readable_24 ?_
      exact bX14_readable_27 hst F hA E  x0 (zgI z 14 16 x0) hx0 hr (lv_sub hl [0] rfl) h
    · replace h := zi_f c2 h
      refine lv_aload_n F.1 F.2.1 dX14_readable_14 rfl (lv_at hl 0 rfl) ?_
      refine gf14_66 F hx0 hr dX14_readable_15 ?_
      refine lv_iconst (v := (1 : Int32)) F.1 F.2.1 dX14_readable_18 (by decide) ?_
      refine lv_isub F.1 F.2.1 dX14_readable_19 ?_
      refine lv_goto (tgt := 27) F.1 F.2.1 dX14_readable_20 (by decide) ?_
      exact bX14_readable_27 hst F hA E  x0 ((zgI z 14 16 x0) - (1 : Int32)) hx0 hr (lv_sub hl [0] rfl) h
end SX14_readable
set_option maxRecDepth 100000 in
theorem okX14_readable (l : Launch) (D : va_G) (cy : Nat → ClassId) (B : Nat → Nat → Nat) (ids : List (Nat × Nat)) (hst : zSt B ids) (N : Nat) (x0 : Nat) (hx0 : (14, x0) ∈ ids) {z : St} {r : Int32} {z' : St} (hW : zWf ids z) (h : fX14_readable N x0 z = some (r, z')) : zM l yX14_readable (zws yX14_readable cX14_readable 1 (some .int)) rmX14_readable D cy B ids [.ref (B 14 x0)] (some (.int r)) True z z' :=
  zM_of hst hW (by decide +kernel) (Nat.le_of_ble_eq_true rfl) (fun p e s m args below meth c A ls F hA hret hlocks hr hl => bX14_readable_0 hst F hA (zEnd_i F hret hlocks) x0 hx0 hr hl h)
abbrev rmX14_room : Room := { frames := 1, cells := 0, slots := 0, locals := 20 }
theorem hdX14_room : yX14_room.cls ≠ "java/lang/invoke/MethodHandle" ∧ yX14_room.cls ≠ "java/lang/invoke/VarHandle" ∧ (parseMethodDescriptor yX14_room.desc).map (fun d => d.parameters.length) = some 0 := by decide +kernel
theorem hroX14_room_X14_readable : rmX14_readable.frames + 1 ≤ rmX14_room.frames ∧ 8 + (1 + 11) + rmX14_readable.locals ≤ rmX14_room.locals := by decide
section SX14_room
variable {p : Program} {l : Launch} {e : Env} {s : State} {m : MethodId} {args : Array Value} {below : List Frame} {meth : Method} {c : Code} {Q : State → Prop} {D : va_G} {cy : Nat → ClassId} {B : Nat → Nat → Nat} {ids : List (Nat × Nat)} {A : Nat → Prop}
def fX14_room (N : Nat)  (x0 : Nat) (z : St) : Option (Int32 × St) := zc (fX14_readable N x0 z) fun r1 z2 => some (((2048 : Int32) - r1), z2)
set_option maxHeartbeats 4000000 in
set_option maxRecDepth 100000 in
theorem bX14_room_0 (hst : zSt B ids) (F : zFx p m c cX14_room 1 s args RX14 D cy B ids A) (hA : ∀ q : Nat, s.heap.size ≤ q → A q) {r : Int32} {z' : St} (E : zEnd p l e rmX14_room s m args below meth c cX14_room D cy B ids A Q (some (.int r)) z' .ireturn True) {N : Nat}  (x0 : Nat) (hx0 : (14, x0) ∈ ids) {z : St} {H : Heap} {locs : List Loc} {ls : Array Slot} (hr : zRep D cy B ids A s.heap z H locs) (hl : lv_has ls 1 [(0, .ref (B 14 x0))]) (h : fX14_room N x0 z = some (r, z')) : W p l e rmX14_room s m args below meth c H locs 0 0 Q (F0 m 0 ls []) := by
  unfold fX14_room at h
  refine lv_sipush (v := (2048 : Int32)) F.1 F.2.1 dX14_room_0 (by decide) ?_
  refine lv_aload_n F.1 F.2.1 dX14_room_3 rfl (lv_at hl 0 rfl) ?_
  replace h := zc_some h
  obtain ⟨r1, z2, hc3, h⟩ := h
  refine zr_calli (zrun_V (As := []) (rest := [.int (2048 : Int32)]) zq_2710 zq_2712 zs_X14_readable zq_2713 zq_21 hdX14_readable (by decide) (T := TX14) (N := 47) rfl (okX14_readable l D cy B ids hst N x0 hx0 hr.2.2 hc3) F hr hx0 hl.1 rfl (Nat.le_of_ble_eq_true rfl) dX14_room_4 rfl rfl hroX14_room_X14_readable ⟨Nat.zero_le _, Nat.zero_le _⟩) F hA hr (fun H locs hw4 hr => ?_)
  clear hc3
  refine lv_isub F.1 F.2.1 dX14_room_7 ?_
  obtain ⟨rfl, rfl⟩ := zret h
  exact E _ _ _ _ dX14_room_8 trivial hr
end SX14_room
set_option maxRecDepth 100000 in
theorem okX14_room (l : Launch) (D : va_G) (cy : Nat → ClassId) (B : Nat → Nat → Nat) (ids : List (Nat × Nat)) (hst : zSt B ids) (N : Nat) (x0 : Nat) (hx0 : (14, x0) ∈ ids) {z : St} {r : Int32} {z' : St} (hW : zWf ids z) (h : fX14_room N x0 z = some (r, z')) : zM l yX14_room (zws yX14_room cX14_room 1 (some .int)) rmX14_room D cy B ids [.ref (B 14 x0)] (some (.int r)) True z z' :=
  zM_of hst hW (by decide +kernel) (Nat.le_of_ble_eq_true rfl) (fun p e s m args below meth c A ls F hA hret hlocks hr hl => bX14_room_0 hst F hA (zEnd_i F hret hlocks) x0 hx0 hr hl h)
abbrev rmX19_isBefore : Room := { frames := 0, cells := 0, slots := 0, locals := 0 }
theorem hdX19_isBefore : yX19_isBefore.cls ≠ "java/lang/invoke/MethodHandle" ∧ yX19_isBefore.cls ≠ "java/lang/invoke/VarHandle" ∧ (parseMethodDescriptor yX19_isBefore.desc).map (fun d => d.parameters.length) = some 2 := by decide +kernel
section SX19_isBefore
variable {p : Program} {l : Launch} {e : Env} {s : State} {m : MethodId} {args : Array Value} {below : List Frame} {meth : Method} {c : Code} {Q : State → Prop} {D : va_G} {cy : Nat → ClassId} {B : Nat → Nat → Nat} {ids : List (Nat × Nat)} {A : Nat → Prop}
def fX19_isBefore (N : Nat)  (x0 : Int32) (x1 : Int32) (z : St) : Option (Int32 × St) := if (x1 - x0) ≤ 0 then (some ((0 : Int32), z)) else (some ((1 : Int32), z))
set_option maxHeartbeats 4000000 in
set_option maxRecDepth 100000 in
theorem bX19_isBefore_0 (hst : zSt B ids) (F : zFx p m c cX19_isBefore 2 s args RX19 D cy B ids A) (hA : ∀ q : Nat, s.heap.size ≤ q → A q) {r : Int32} {z' : St} (E : zEnd p l e rmX19_isBefore s m args below meth c cX19_isBefore D cy B ids A Q (some (.int r)) z' .ireturn (r = 0 ∨ r = 1)) {N : Nat}  (x0 : Int32) (x1 : Int32)  {z : St} {H : Heap} {locs : List Loc} {ls : Array Slot} (hr : zRep D cy B ids A s.heap z H locs) (hl : lv_has ls 2 [(0, .int x0), (1, .int x1)]) (h : fX19_isBefore N x0 x1 z = some (r, z')) : W p l e rmX19_isBefore s m args below meth c H locs 0 0 Q (F0 m 0 ls []) := by
  unfold fX19_isBefore at h
  refine lv_iload_n F.1 F.2.1 dX19_isBefore_0 rfl (lv_at hl 1 rfl) ?_
  refine lv_iload_n F.1 F.2.1 dX19_isBefore_1 rfl (lv_at hl 0 rfl) ?_
  refine lv_isub F.1 F.2.1 dX19_isBefore_2 ?_
  refine lv_if_le (tgt := 10) F.1 F.2.1 dX19_isBefore_3 (by decide) (fun c1 => ?_) (fun c1 => ?_)
  · replace h := zi_t c1 h
    refine lv_iconst (v := (0 : Int32)) F.1 F.2.1 dX19_isBefore_10 (by decide) ?_
    obtain ⟨rfl, rfl⟩ := zret h
    exact E _ _ _ _ dX19_isBefore_11 (by decide) hr
  · replace h := zi_f c1 h
    refine lv_iconst (v := (1 : Int32)) F.1 F.2.1 dX19_isBefore_6 (by decide) ?_
    refine lv_goto (tgt := 11) F.1 F.2.1 dX19_isBefore_7 (by decide) ?_
    obtain ⟨rfl, rfl⟩ := zret h
    exact E _ _ _ _ dX19_isBefore_11 (by decide) hr
end SX19_isBefore
set_option maxRecDepth 100000 in
theorem okX19_isBefore (l : Launch) (D : va_G) (cy : Nat → ClassId) (B : Nat → Nat → Nat) (ids : List (Nat × Nat)) (hst : zSt B ids) (N : Nat) (x0 : Int32) (x1 : Int32) {z : St} {r : Int32} {z' : St} (hW : zWf ids z) (h : fX19_isBefore N x0 x1 z = some (r, z')) : zM l yX19_isBefore (zws yX19_isBefore cX19_isBefore 2 (some .boolean)) rmX19_isBefore D cy B ids [.int x0, .int x1] (some (.int r)) (r = 0 ∨ r = 1) z z' :=
  zM_of hst hW (by decide +kernel) (Nat.le_of_ble_eq_true rfl) (fun p e s m args below meth c A ls F hA hret hlocks hr hl => bX19_isBefore_0 hst F hA (zEnd_z F hret hlocks) x0 x1 hr hl h)
abbrev rmX14_unthanked : Room := { frames := 1, cells := 0, slots := 0, locals := 21 }
theorem hdX14_unthanked : yX14_unthanked.cls ≠ "java/lang/invoke/MethodHandle" ∧ yX14_unthanked.cls ≠ "java/lang/invoke/VarHandle" ∧ (parseMethodDescriptor yX14_unthanked.desc).map (fun d => d.parameters.length) = some 0 := by decide +kernel
theorem hroX14_unthanked_X19_isBefore : rmX19_isBefore.frames + 1 ≤ rmX14_unthanked.frames ∧ 8 + (2 + 11) + rmX19_isBefore.locals ≤ rmX14_unthanked.locals := by decide
section SX14_unthanked
variable {p : Program} {l : Launch} {e : Env} {s : State} {m : MethodId} {args : Array Value} {below : List Frame} {meth : Method} {c : Code} {Q : State → Prop} {D : va_G} {cy : Nat → ClassId} {B : Nat → Nat → Nat} {ids : List (Nat × Nat)} {A : Nat → Prop}
def fX14_unthanked_29 (N : Nat)  (x0 : Nat) (s0 : Int32) (z : St) : Option (Int32 × St) := zc (fX19_isBefore N (zgI z 14 8 x0) s0 z) fun r1 z2 => if r1 = 0 then (some (((zgI z2 14 8 x0) - s0), z2)) else (some ((0 : Int32), z2))
set_option maxHeartbeats 4000000 in
set_option maxRecDepth 100000 in
theorem bX14_unthanked_29 (hst : zSt B ids) (F : zFx p m c cX14_unthanked 2 s args RX14 D cy B ids A) (hA : ∀ q : Nat, s.heap.size ≤ q → A q) {r : Int32} {z' : St} (E : zEnd p l e rmX14_unthanked s m args below meth c cX14_unthanked D cy B ids A Q (some (.int r)) z' .ireturn True) {N : Nat}  (x0 : Nat) (s0 : Int32) (hx0 : (14, x0) ∈ ids) {z : St} {H : Heap} {locs : List Loc} {ls : Array Slot} (hr : zRep D cy B ids A s.heap z H locs) (hl : lv_has ls 2 [(0, .ref (B 14 x0))]) (h : fX14_unthanked_29 N x0 s0 z = some (r, z')) : W p l e rmX14_unthanked s m args below meth c H locs 0 0 Q (F0 m 29 ls [.int s0]) := by
  unfold fX14_unthanked_29 at h
  refine lv_istore_n (lv' := [(1, .int s0), (0, .ref (B 14 x0))]) F.1 F.2.1 dX14_unthanked_29 rfl hl (by decide) rfl (fun ls hl => ?_)
  refine lv_aload_n F.1 F.2.1 dX14_unthanked_30 rfl (lv_at hl 1 rfl) ?_
  refine gf14_51 F hx0 hr dX14_unthanked_31 ?_
  refine lv_iload_n F.1 F.2.1 dX14_unthanked_34 rfl (lv_at hl 0 rfl) ?_
  replace h := zc_some h
  obtain ⟨r1, z2, hc3, h⟩ := h
  refine zr_calli (zrun_SN (As := [.int (zgI z 14 8 x0), .int s0]) (rest := []) zn_2691 zq_2692 zq_2693 zq_4 hdX19_isBefore (okX19_isBefore l D cy B ids hst N (zgI z 14 8 x0)  s0  hr.2.2 hc3) F hr hl.1 rfl (by decide) dX14_unthanked_35 rfl rfl hroX14_unthanked_X19_isBefore ⟨Nat.zero_le _, Nat.zero_le _⟩) F hA hr (fun H locs hw4 hr => ?_)
  clear hc3
  refine lv_if_eq (tgt := 45) F.1 F.2.1 dX14_unthanked_38 (by decide) (fun c5 => ?_) (fun c5 => ?_)
  · replace h := zi_t c5 h
    refine lv_aload_n F.1 F.2.1 dX14_unthanked_45 rfl (lv_at hl 1 rfl) ?_
    refine gf14_51 F hx0 hr dX14_unthanked_46 ?_
    refine lv_iload_n F.1 F.2.1 dX14_unthanked_49 rfl (lv_at hl 0 rfl) ?_
    refine lv_isub F.1 F.2.1 dX14_unthanked_50 ?_
    obtain ⟨rfl, rfl⟩ := zret h
    exact E _ _ _ _ dX14_unthanked_51 trivial hr
  · replace h := zi_f c5 h
    refine lv_iconst (v := (0 : Int32)) F.1 F.2.1 dX14_unthanked_41 (by decide) ?_
    refine lv_goto (tgt := 51) F.1 F.2.1 dX14_unthanked_42 (by decide) ?_
    obtain ⟨rfl, rfl⟩ := zret h
    exact E _ _ _ _ dX14_unthanked_51 trivial hr
def fX14_unthanked (N : Nat)  (x0 : Nat) (z : St) : Option (Int32 × St) := zc (fX19_isBefore N (zgI z 14 6 x0) ((zgI z 14 5 x0) + (1 : Int32)) z) fun r1 z2 => if r1 = 0 then (fX14_unthanked_29 N x0 (zgI z2 14 6 x0) z2) else (fX14_unthanked_29 N x0 ((zgI z2 14 5 x0) + (1 : Int32)) z2)
set_option maxHeartbeats 4000000 in
set_option maxRecDepth 100000 in
theorem bX14_unthanked_0 (hst : zSt B ids) (F : zFx p m c cX14_unthanked 2 s args RX14 D cy B ids A) (hA : ∀ q : Nat, s.heap.size ≤ q → A q) {r : Int32} {z' : St} (E : zEnd p l e rmX14_unthanked s m args below meth c cX14_unthanked D cy B ids A Q (some (.int r)) z' .ireturn True) {N : Nat}  (x0 : Nat) (hx0 : (14, x0) ∈ ids) {z : St} {H : Heap} {locs : List Loc} {ls : Array Slot} (hr : zRep D cy B ids A s.heap z H locs) (hl : lv_has ls 2 [(0, .ref (B 14 x0))]) (h : fX14_unthanked N x0 z = some (r, z')) : W p l e rmX14_unthanked s m args below meth c H locs 0 0 Q (F0 m 0 ls []) := by
  unfold fX14_unthanked at h
  refine lv_aload_n F.1 F.2.1 dX14_unthanked_0 rfl (lv_at hl 0 rfl) ?_
  refine gf14_45 F hx0 hr dX14_unthanked_1 ?_
  refine lv_aload_n F.1 F.2.1 dX14_unthanked_4 rfl (lv_at hl 0 rfl) ?_
  refine gf14_36 F hx0 hr dX14_unthanked_5 ?_
  refine lv_iconst (v := (1 : Int32)) F.1 F.2.1 dX14_unthanked_8 (by decide) ?_
  refine lv_iadd F.1 F.2.1 dX14_unthanked_9 ?_
  replace h := zc_some h
  obtain ⟨r1, z2, hc3, h⟩ := h
  refine zr_calli (zrun_SN (As := [.int (zgI z 14 6 x0), .int ((zgI z 14 5 x0) + (1 : Int32))]) (rest := []) zn_2691 zq_2692 zq_2693 zq_4 hdX19_isBefore (okX19_isBefore l D cy B ids hst N (zgI z 14 6 x0)  ((zgI z 14 5 x0) + (1 : Int32))  hr.2.2 hc3) F hr hl.1 rfl (by decide) dX14_unthanked_10 rfl rfl hroX14_unthanked_X19_isBefore ⟨Nat.zero_le _, Nat.zero_le _⟩) F hA hr (fun H locs hw4 hr => ?_)
  clear hc3
  refine lv_if_eq (tgt := 25) F.1 F.2.1 dX14_unthanked_13 (by decide) (fun c5 => ?_) (fun c5 => ?_)
  · replace h := zi_t c5 h
    refine lv_aload_n F.1 F.2.1 dX14_unthanked_25 rfl (lv_at hl 0 rfl) ?_
    refine gf14_45 F hx0 hr dX14_unthanked_26 ?_
    exact bX14_unthanked_29 hst F hA E  x0 (zgI z2 14 6 x0) hx0 hr (lv_sub hl [0] rfl) h
  · replace h := zi_f c5 h
    refine lv_aload_n F.1 F.2.1 dX14_unthanked_16 rfl (lv_at hl 0 rfl) ?_
    refine gf14_36 F hx0 hr dX14_unthanked_17 ?_
    refine lv_iconst (v := (1 : Int32)) F.1 F.2.1 dX14_unthanked_20 (by decide) ?_
    refine lv_iadd F.1 F.2.1 dX14_unthanked_21 ?_
    refine lv_goto (tgt := 29) F.1 F.2.1 dX14_unthanked_22 (by decide) ?_
    exact bX14_unthanked_29 hst F hA E  x0 ((zgI z2 14 5 x0) + (1 : Int32)) hx0 hr (lv_sub hl [0] rfl) h
end SX14_unthanked
set_option maxRecDepth 100000 in
theorem okX14_unthanked (l : Launch) (D : va_G) (cy : Nat → ClassId) (B : Nat → Nat → Nat) (ids : List (Nat × Nat)) (hst : zSt B ids) (N : Nat) (x0 : Nat) (hx0 : (14, x0) ∈ ids) {z : St} {r : Int32} {z' : St} (hW : zWf ids z) (h : fX14_unthanked N x0 z = some (r, z')) : zM l yX14_unthanked (zws yX14_unthanked cX14_unthanked 2 (some .int)) rmX14_unthanked D cy B ids [.ref (B 14 x0)] (some (.int r)) True z z' :=
  zM_of hst hW (by decide +kernel) (Nat.le_of_ble_eq_true rfl) (fun p e s m args below meth c A ls F hA hret hlocks hr hl => bX14_unthanked_0 hst F hA (zEnd_i F hret hlocks) x0 hx0 hr hl h)
abbrev rmX14_isDead : Room := { frames := 0, cells := 0, slots := 0, locals := 0 }
theorem hdX14_isDead : yX14_isDead.cls ≠ "java/lang/invoke/MethodHandle" ∧ yX14_isDead.cls ≠ "java/lang/invoke/VarHandle" ∧ (parseMethodDescriptor yX14_isDead.desc).map (fun d => d.parameters.length) = some 0 := by decide +kernel
section SX14_isDead
variable {p : Program} {l : Launch} {e : Env} {s : State} {m : MethodId} {args : Array Value} {below : List Frame} {meth : Method} {c : Code} {Q : State → Prop} {D : va_G} {cy : Nat → ClassId} {B : Nat → Nat → Nat} {ids : List (Nat × Nat)} {A : Nat → Prop}
def fX14_isDead_16 (N : Nat)   (z : St) : Option (Int32 × St) := some ((1 : Int32), z)
set_option maxHeartbeats 4000000 in
set_option maxRecDepth 100000 in
theorem bX14_isDead_16 (hst : zSt B ids) (F : zFx p m c cX14_isDead 1 s args RX14 D cy B ids A) (hA : ∀ q : Nat, s.heap.size ≤ q → A q) {r : Int32} {z' : St} (E : zEnd p l e rmX14_isDead s m args below meth c cX14_isDead D cy B ids A Q (some (.int r)) z' .ireturn (r = 0 ∨ r = 1)) {N : Nat}    {z : St} {H : Heap} {locs : List Loc} {ls : Array Slot} (hr : zRep D cy B ids A s.heap z H locs) (hl : lv_has ls 1 []) (h : fX14_isDead_16 N z = some (r, z')) : W p l e rmX14_isDead s m args below meth c H locs 0 0 Q (F0 m 16 ls []) := by
  unfold fX14_isDead_16 at h
  refine lv_iconst (v := (1 : Int32)) F.1 F.2.1 dX14_isDead_16 (by decide) ?_
  refine lv_goto (tgt := 21) F.1 F.2.1 dX14_isDead_17 (by decide) ?_
  obtain ⟨rfl, rfl⟩ := zret h
  exact E _ _ _ _ dX14_isDead_21 (by decide) hr
def fX14_isDead (N : Nat)  (x0 : Nat) (z : St) : Option (Int32 × St) := if (zgI z 14 0 x0) = 0 then (fX14_isDead_16 N z) else (if ¬ (zgI z 14 0 x0) = (11 : Int32) then (some ((0 : Int32), z)) else (fX14_isDead_16 N z))
set_option maxHeartbeats 4000000 in
set_option maxRecDepth 100000 in
theorem bX14_isDead_0 (hst : zSt B ids) (F : zFx p m c cX14_isDead 1 s args RX14 D cy B ids A) (hA : ∀ q : Nat, s.heap.size ≤ q → A q) {r : Int32} {z' : St} (E : zEnd p l e rmX14_isDead s m args below meth c cX14_isDead D cy B ids A Q (some (.int r)) z' .ireturn (r = 0 ∨ r = 1)) {N : Nat}  (x0 : Nat) (hx0 : (14, x0) ∈ ids) {z : St} {H : Heap} {locs : List Loc} {ls : Array Slot} (hr : zRep D cy B ids A s.heap z H locs) (hl : lv_has ls 1 [(0, .ref (B 14 x0))]) (h : fX14_isDead N x0 z = some (r, z')) : W p l e rmX14_isDead s m args below meth c H locs 0 0 Q (F0 m 0 ls []) := by
  unfold fX14_isDead at h
  refine lv_aload_n F.1 F.2.1 dX14_isDead_0 rfl (lv_at hl 0 rfl) ?_
  refine gf14_29 F hx0 hr dX14_isDead_1 ?_
  refine lv_if_eq (tgt := 16) F.1 F.2.1 dX14_isDead_4 (by decide) (fun c1 => ?_) (fun c1 => ?_)
  · replace h := zi_t c1 h
    exact bX14_isDead_16 hst F hA E   hr (lv_sub hl [] rfl) h
  · replace h := zi_f c1 h
    refine lv_aload_n F.1 F.2.1 dX14_isDead_7 rfl (lv_at hl 0 rfl) ?_
    refine gf14_29 F hx0 hr dX14_isDead_8 ?_
    refine lv_bipush (v := (11 : Int32)) F.1 F.2.1 dX14_isDead_11 (by decide) ?_
    refine lv_icmp_ne (tgt := 20) F.1 F.2.1 dX14_isDead_13 (by decide) (fun c2 => ?_) (fun c2 => ?_)
    · replace h := zi_t c2 h
      refine lv_iconst (v := (0 : Int32)) F.1 F.2.1 dX14_isDead_20 (by decide) ?_
      obtain ⟨rfl, rfl⟩ := zret h
      exact E _ _ _ _ dX14_isDead_21 (by decide) hr
    · replace h := zi_f (fun q => q c2) h
      exact bX14_isDead_16 hst F hA E   hr (lv_sub hl [] rfl) h
end SX14_isDead
set_option maxRecDepth 100000 in
theorem okX14_isDead (l : Launch) (D : va_G) (cy : Nat → ClassId) (B : Nat → Nat → Nat) (ids : List (Nat × Nat)) (hst : zSt B ids) (N : Nat) (x0 : Nat) (hx0 : (14, x0) ∈ ids) {z : St} {r : Int32} {z' : St} (hW : zWf ids z) (h : fX14_isDead N x0 z = some (r, z')) : zM l yX14_isDead (zws yX14_isDead cX14_isDead 1 (some .boolean)) rmX14_isDead D cy B ids [.ref (B 14 x0)] (some (.int r)) (r = 0 ∨ r = 1) z z' :=
  zM_of hst hW (by decide +kernel) (Nat.le_of_ble_eq_true rfl) (fun p e s m args below meth c A ls F hA hret hlocks hr hl => bX14_isDead_0 hst F hA (zEnd_z F hret hlocks) x0 hx0 hr hl h)
abbrev rmX14_sendsNew : Room := { frames := 0, cells := 0, slots := 0, locals := 0 }
theorem hdX14_sendsNew : yX14_sendsNew.cls ≠ "java/lang/invoke/MethodHandle" ∧ yX14_sendsNew.cls ≠ "java/lang/invoke/VarHandle" ∧ (parseMethodDescriptor yX14_sendsNew.desc).map (fun d => d.parameters.length) = some 0 := by decide +kernel
section SX14_sendsNew
variable {p : Program} {l : Launch} {e : Env} {s : State} {m : MethodId} {args : Array Value} {below : List Frame} {meth : Method} {c : Code} {Q : State → Prop} {D : va_G} {cy : Nat → ClassId} {B : Nat → Nat → Nat} {ids : List (Nat × Nat)} {A : Nat → Prop}
def fX14_sendsNew_43 (N : Nat)   (z : St) : Option (Int32 × St) := some ((1 : Int32), z)
set_option maxHeartbeats 4000000 in
set_option maxRecDepth 100000 in
theorem bX14_sendsNew_43 (hst : zSt B ids) (F : zFx p m c cX14_sendsNew 1 s args RX14 D cy B ids A) (hA : ∀ q : Nat, s.heap.size ≤ q → A q) {r : Int32} {z' : St} (E : zEnd p l e rmX14_sendsNew s m args below meth c cX14_sendsNew D cy B ids A Q (some (.int r)) z' .ireturn (r = 0 ∨ r = 1)) {N : Nat}    {z : St} {H : Heap} {locs : List Loc} {ls : Array Slot} (hr : zRep D cy B ids A s.heap z H locs) (hl : lv_has ls 1 []) (h : fX14_sendsNew_43 N z = some (r, z')) : W p l e rmX14_sendsNew s m args below meth c H locs 0 0 Q (F0 m 43 ls []) := by
  unfold fX14_sendsNew_43 at h
  refine lv_iconst (v := (1 : Int32)) F.1 F.2.1 dX14_sendsNew_43 (by decide) ?_
  refine lv_goto (tgt := 48) F.1 F.2.1 dX14_sendsNew_44 (by decide) ?_
  obtain ⟨rfl, rfl⟩ := zret h
  exact E _ _ _ _ dX14_sendsNew_48 (by decide) hr
def fX14_sendsNew (N : Nat)  (x0 : Nat) (z : St) : Option (Int32 × St) := if (zgI z 14 0 x0) = (4 : Int32) then (fX14_sendsNew_43 N z) else (if (zgI z 14 0 x0) = (5 : Int32) then (fX14_sendsNew_43 N z) else (if (zgI z 14 0 x0) = (7 : Int32) then (fX14_sendsNew_43 N z) else (if (zgI z 14 0 x0) = (8 : Int32) then (fX14_sendsNew_43 N z) else (if ¬ (zgI z 14 0 x0) = (9 : Int32) then (some ((0 : Int32), z)) else (fX14_sendsNew_43 N z)))))
set_option maxHeartbeats 4000000 in
set_option maxRecDepth 100000 in
theorem bX14_sendsNew_0 (hst : zSt B ids) (F : zFx p m c cX14_sendsNew 1 s args RX14 D cy B ids A) (hA : ∀ q : Nat, s.heap.size ≤ q → A q) {r : Int32} {z' : St} (E : zEnd p l e rmX14_sendsNew s m args below meth c cX14_sendsNew D cy B ids A Q (some (.int r)) z' .ireturn (r = 0 ∨ r = 1)) {N : Nat}  (x0 : Nat) (hx0 : (14, x0) ∈ ids) {z : St} {H : Heap} {locs : List Loc} {ls : Array Slot} (hr : zRep D cy B ids A s.heap z H locs) (hl : lv_has ls 1 [(0, .ref (B 14 x0))]) (h : fX14_sendsNew N x0 z = some (r, z')) : W p l e rmX14_sendsNew s m args below meth c H locs 0 0 Q (F0 m 0 ls []) := by
  unfold fX14_sendsNew at h
  refine lv_aload_n F.1 F.2.1 dX14_sendsNew_0 rfl (lv_at hl 0 rfl) ?_
  refine gf14_29 F hx0 hr dX14_sendsNew_1 ?_
  refine lv_iconst (v := (4 : Int32)) F.1 F.2.1 dX14_sendsNew_4 (by decide) ?_
  refine lv_icmp_eq (tgt := 43) F.1 F.2.1 dX14_sendsNew_5 (by decide) (fun c1 => ?_) (fun c1 => ?_)
  · replace h := zi_t c1 h
    exact bX14_sendsNew_43 hst F hA E   hr (lv_sub hl [] rfl) h
  · replace h := zi_f c1 h
    refine lv_aload_n F.1 F.2.1 dX14_sendsNew_8 rfl (lv_at hl 0 rfl) ?_
    refine gf14_29 F hx0 hr dX14_sendsNew_9 ?_
    refine lv_iconst (v := (5 : Int32)) F.1 F.2.1 dX14_sendsNew_12 (by decide) ?_
    refine lv_icmp_eq (tgt := 43) F.1 F.2.1 dX14_sendsNew_13 (by decide) (fun c2 => ?_) (fun c2 => ?_)
    · replace h := zi_t c2 h
      exact bX14_sendsNew_43 hst F hA E   hr (lv_sub hl [] rfl) h
    · replace h := zi_f c2 h
      refine lv_aload_n F.1 F.2.1 dX14_sendsNew_16 rfl (lv_at hl 0 rfl) ?_
      refine gf14_29 F hx0 hr dX14_sendsNew_17 ?_
      refine lv_bipush (v := (7 : Int32)) F.1 F.2.1 dX14_sendsNew_20 (by decide) ?_
      refine lv_icmp_eq (tgt := 43) F.1 F.2.1 dX14_sendsNew_22 (by decide) (fun c3 => ?_) (fun c3 => ?_)
      · replace h := zi_t c3 h
        exact bX14_sendsNew_43 hst F hA E   hr (lv_sub hl [] rfl) h
      · replace h := zi_f c3 h
        refine lv_aload_n F.1 F.2.1 dX14_sendsNew_25 rfl (lv_at hl 0 rfl) ?_
        refine gf14_29 F hx0 hr dX14_sendsNew_26 ?_
        refine lv_bipush (v := (8 : Int32)) F.1 F.2.1 dX14_sendsNew_29 (by decide) ?_
        refine lv_icmp_eq (tgt := 43) F.1 F.2.1 dX14_sendsNew_31 (by decide) (fun c4 => ?_) (fun c4 => ?_)
        · replace h := zi_t c4 h
          exact bX14_sendsNew_43 hst F hA E   hr (lv_sub hl [] rfl) h
        · replace h := zi_f c4 h
          refine lv_aload_n F.1 F.2.1 dX14_sendsNew_34 rfl (lv_at hl 0 rfl) ?_
          refine gf14_29 F hx0 hr dX14_sendsNew_35 ?_
          refine lv_bipush (v := (9 : Int32)) F.1 F.2.1 dX14_sendsNew_38 (by decide) ?_
          refine lv_icmp_ne (tgt := 47) F.1 F.2.1 dX14_sendsNew_40 (by decide) (fun c5 => ?_) (fun c5 => ?_)
          · replace h := zi_t c5 h
            refine lv_iconst (v := (0 : Int32)) F.1 F.2.1 dX14_sendsNew_47 (by decide) ?_
            obtain ⟨rfl, rfl⟩ := zret h
            exact E _ _ _ _ dX14_sendsNew_48 (by decide) hr
          · replace h := zi_f (fun q => q c5) h
            exact bX14_sendsNew_43 hst F hA E   hr (lv_sub hl [] rfl) h
end SX14_sendsNew
set_option maxRecDepth 100000 in
theorem okX14_sendsNew (l : Launch) (D : va_G) (cy : Nat → ClassId) (B : Nat → Nat → Nat) (ids : List (Nat × Nat)) (hst : zSt B ids) (N : Nat) (x0 : Nat) (hx0 : (14, x0) ∈ ids) {z : St} {r : Int32} {z' : St} (hW : zWf ids z) (h : fX14_sendsNew N x0 z = some (r, z')) : zM l yX14_sendsNew (zws yX14_sendsNew cX14_sendsNew 1 (some .boolean)) rmX14_sendsNew D cy B ids [.ref (B 14 x0)] (some (.int r)) (r = 0 ∨ r = 1) z z' :=
  zM_of hst hW (by decide +kernel) (Nat.le_of_ble_eq_true rfl) (fun p e s m args below meth c A ls F hA hret hlocks hr hl => bX14_sendsNew_0 hst F hA (zEnd_z F hret hlocks) x0 hx0 hr hl h)
abbrev rmX14_lastSent : Room := { frames := 1, cells := 0, slots := 0, locals := 21 }
theorem hdX14_lastSent : yX14_lastSent.cls ≠ "java/lang/invoke/MethodHandle" ∧ yX14_lastSent.cls ≠ "java/lang/invoke/VarHandle" ∧ (parseMethodDescriptor yX14_lastSent.desc).map (fun d => d.parameters.length) = some 0 := by decide +kernel
theorem hroX14_lastSent_X19_isBefore : rmX19_isBefore.frames + 1 ≤ rmX14_lastSent.frames ∧ 8 + (2 + 11) + rmX19_isBefore.locals ≤ rmX14_lastSent.locals := by decide
section SX14_lastSent
variable {p : Program} {l : Launch} {e : Env} {s : State} {m : MethodId} {args : Array Value} {below : List Frame} {meth : Method} {c : Code} {Q : State → Prop} {D : va_G} {cy : Nat → ClassId} {B : Nat → Nat → Nat} {ids : List (Nat × Nat)} {A : Nat → Prop}
def fX14_lastSent (N : Nat)  (x0 : Nat) (z : St) : Option (Int32 × St) := if (zgI z 14 9 x0) = 0 then (some ((0 : Int32), z)) else (zc (fX19_isBefore N (zgI z 14 8 x0) (zgI z 14 7 x0) z) fun r2 z3 => if r2 = 0 then (some ((0 : Int32), z3)) else (some ((1 : Int32), z3)))
set_option maxHeartbeats 4000000 in
set_option maxRecDepth 100000 in
theorem bX14_lastSent_0 (hst : zSt B ids) (F : zFx p m c cX14_lastSent 1 s args RX14 D cy B ids A) (hA : ∀ q : Nat, s.heap.size ≤ q → A q) {r : Int32} {z' : St} (E : zEnd p l e rmX14_lastSent s m args below meth c cX14_lastSent D cy B ids A Q (some (.int r)) z' .ireturn (r = 0 ∨ r = 1)) {N : Nat}  (x0 : Nat) (hx0 : (14, x0) ∈ ids) {z : St} {H : Heap} {locs : List Loc} {ls : Array Slot} (hr : zRep D cy B ids A s.heap z H locs) (hl : lv_has ls 1 [(0, .ref (B 14 x0))]) (h : fX14_lastSent N x0 z = some (r, z')) : W p l e rmX14_lastSent s m args below meth c H locs 0 0 Q (F0 m 0 ls []) := by
  unfold fX14_lastSent at h
  refine lv_aload_n F.1 F.2.1 dX14_lastSent_0 rfl (lv_at hl 0 rfl) ?_
  refine gf14_54 F hx0 hr dX14_lastSent_1 ?_
  refine lv_if_eq (tgt := 25) F.1 F.2.1 dX14_lastSent_4 (by decide) (fun c1 => ?_) (fun c1 => ?_)
  · replace h := zi_t c1 h
    refine lv_iconst (v := (0 : Int32)) F.1 F.2.1 dX14_lastSent_25 (by decide) ?_
    obtain ⟨rfl, rfl⟩ := zret h
    exact E _ _ _ _ dX14_lastSent_26 (by decide) hr
  · replace h := zi_f c1 h
    refine lv_aload_n F.1 F.2.1 dX14_lastSent_7 rfl (lv_at hl 0 rfl) ?_
    refine gf14_51 F hx0 hr dX14_lastSent_8 ?_
    refine lv_aload_n F.1 F.2.1 dX14_lastSent_11 rfl (lv_at hl 0 rfl) ?_
    refine gf14_48 F hx0 hr dX14_lastSent_12 ?_
    replace h := zc_some h
    obtain ⟨r2, z3, hc4, h⟩ := h
    refine zr_calli (zrun_SN (As := [.int (zgI z 14 8 x0), .int (zgI z 14 7 x0)]) (rest := []) zn_2691 zq_2692 zq_2693 zq_4 hdX19_isBefore (okX19_isBefore l D cy B ids hst N (zgI z 14 8 x0)  (zgI z 14 7 x0)  hr.2.2 hc4) F hr hl.1 rfl (by decide) dX14_lastSent_15 rfl rfl hroX14_lastSent_X19_isBefore ⟨Nat.zero_le _, Nat.zero_le _⟩) F hA hr (fun H locs hw5 hr => ?_)
    clear hc4
    refine lv_if_eq (tgt := 25) F.1 F.2.1 dX14_lastSent_18 (by decide) (fun c6 => ?_) (fun c6 => ?_)
    · replace h := zi_t c6 h
      refine lv_iconst (v := (0 : Int32)) F.1 F.2.1 dX14_lastSent_25 (by decide) ?_
      obtain ⟨rfl, rfl⟩ := zret h
      exact E _ _ _ _ dX14_lastSent_26 (by decide) hr
    · replace h := zi_f c6 h
      refine lv_iconst (v := (1 : Int32)) F.1 F.2.1 dX14_lastSent_21 (by decide) ?_
      refine lv_goto (tgt := 26) F.1 F.2.1 dX14_lastSent_22 (by decide) ?_
      obtain ⟨rfl, rfl⟩ := zret h
      exact E _ _ _ _ dX14_lastSent_26 (by decide) hr
end SX14_lastSent
set_option maxRecDepth 100000 in
theorem okX14_lastSent (l : Launch) (D : va_G) (cy : Nat → ClassId) (B : Nat → Nat → Nat) (ids : List (Nat × Nat)) (hst : zSt B ids) (N : Nat) (x0 : Nat) (hx0 : (14, x0) ∈ ids) {z : St} {r : Int32} {z' : St} (hW : zWf ids z) (h : fX14_lastSent N x0 z = some (r, z')) : zM l yX14_lastSent (zws yX14_lastSent cX14_lastSent 1 (some .boolean)) rmX14_lastSent D cy B ids [.ref (B 14 x0)] (some (.int r)) (r = 0 ∨ r = 1) z z' :=
  zM_of hst hW (by decide +kernel) (Nat.le_of_ble_eq_true rfl) (fun p e s m args below meth c A ls F hA hret hlocks hr hl => bX14_lastSent_0 hst F hA (zEnd_z F hret hlocks) x0 hx0 hr hl h)
abbrev rmX14_hasNew : Room := { frames := 2, cells := 0, slots := 0, locals := 41 }
theorem hdX14_hasNew : yX14_hasNew.cls ≠ "java/lang/invoke/MethodHandle" ∧ yX14_hasNew.cls ≠ "java/lang/invoke/VarHandle" ∧ (parseMethodDescriptor yX14_hasNew.desc).map (fun d => d.parameters.length) = some 0 := by decide +kernel
theorem hroX14_hasNew_X14_lastSent : rmX14_lastSent.frames + 1 ≤ rmX14_hasNew.frames ∧ 8 + (1 + 11) + rmX14_lastSent.locals ≤ rmX14_hasNew.locals := by decide
theorem hroX14_hasNew_X14_sendsNew : rmX14_sendsNew.frames + 1 ≤ rmX14_hasNew.frames ∧ 8 + (1 + 11) + rmX14_sendsNew.locals ≤ rmX14_hasNew.locals := by decide
theorem hroX14_hasNew_X19_isBefore : rmX19_isBefore.frames + 1 ≤ rmX14_hasNew.frames ∧ 8 + (2 + 11) + rmX19_isBefore.locals ≤ rmX14_hasNew.locals := by decide
section SX14_hasNew
variable {p : Program} {l : Launch} {e : Env} {s : State} {m : MethodId} {args : Array Value} {below : List Frame} {meth : Method} {c : Code} {Q : State → Prop} {D : va_G} {cy : Nat → ClassId} {B : Nat → Nat → Nat} {ids : List (Nat × Nat)} {A : Nat → Prop}
def fX14_hasNew_35 (N : Nat)   (z : St) : Option (Int32 × St) := some ((1 : Int32), z)
set_option maxHeartbeats 4000000 in
set_option maxRecDepth 100000 in
theorem bX14_hasNew_35 (hst : zSt B ids) (F : zFx p m c cX14_hasNew 1 s args RX14 D cy B ids A) (hA : ∀ q : Nat, s.heap.size ≤ q → A q) {r : Int32} {z' : St} (E : zEnd p l e rmX14_hasNew s m args below meth c cX14_hasNew D cy B ids A Q (some (.int r)) z' .ireturn (r = 0 ∨ r = 1)) {N : Nat}    {z : St} {H : Heap} {locs : List Loc} {ls : Array Slot} (hr : zRep D cy B ids A s.heap z H locs) (hl : lv_has ls 1 []) (h : fX14_hasNew_35 N z = some (r, z')) : W p l e rmX14_hasNew s m args below meth c H locs 0 0 Q (F0 m 35 ls []) := by
  unfold fX14_hasNew_35 at h
  refine lv_iconst (v := (1 : Int32)) F.1 F.2.1 dX14_hasNew_35 (by decide) ?_
  refine lv_goto (tgt := 40) F.1 F.2.1 dX14_hasNew_36 (by decide) ?_
  obtain ⟨rfl, rfl⟩ := zret h
  exact E _ _ _ _ dX14_hasNew_40 (by decide) hr
def fX14_hasNew (N : Nat)  (x0 : Nat) (z : St) : Option (Int32 × St) := zc (fX14_sendsNew N x0 z) fun r1 z2 => if r1 = 0 then (some ((0 : Int32), z2)) else (zc (fX19_isBefore N (zgI z2 14 7 x0) (zgI z2 14 8 x0) z2) fun r6 z7 => if ¬ r6 = 0 then (fX14_hasNew_35 N z7) else (if (zgI z7 14 9 x0) = 0 then (some ((0 : Int32), z7)) else (zc (fX14_lastSent N x0 z7) fun r12 z13 => if ¬ r12 = 0 then (some ((0 : Int32), z13)) else (fX14_hasNew_35 N z13))))
set_option maxHeartbeats 4000000 in
set_option maxRecDepth 100000 in
theorem bX14_hasNew_0 (hst : zSt B ids) (F : zFx p m c cX14_hasNew 1 s args RX14 D cy B ids A) (hA : ∀ q : Nat, s.heap.size ≤ q → A q) {r : Int32} {z' : St} (E : zEnd p l e rmX14_hasNew s m args below meth c cX14_hasNew D cy B ids A Q (some (.int r)) z' .ireturn (r = 0 ∨ r = 1)) {N : Nat}  (x0 : Nat) (hx0 : (14, x0) ∈ ids) {z : St} {H : Heap} {locs : List Loc} {ls : Array Slot} (hr : zRep D cy B ids A s.heap z H locs) (hl : lv_has ls 1 [(0, .ref (B 14 x0))]) (h : fX14_hasNew N x0 z = some (r, z')) : W p l e rmX14_hasNew s m args below meth c H locs 0 0 Q (F0 m 0 ls []) := by
  unfold fX14_hasNew at h
  refine lv_aload_n F.1 F.2.1 dX14_hasNew_0 rfl (lv_at hl 0 rfl) ?_
  replace h := zc_some h
  obtain ⟨r1, z2, hc3, h⟩ := h
  refine zr_calli (zrun_V (As := []) (rest := []) zq_2964 zq_2966 zs_X14_sendsNew zq_2967 zq_21 hdX14_sendsNew (by decide) (T := TX14) (N := 47) rfl (okX14_sendsNew l D cy B ids hst N x0 hx0 hr.2.2 hc3) F hr hx0 hl.1 rfl (by decide) dX14_hasNew_1 rfl rfl hroX14_hasNew_X14_sendsNew ⟨Nat.zero_le _, Nat.zero_le _⟩) F hA hr (fun H locs hw4 hr => ?_)
  clear hc3
  refine lv_if_eq (tgt := 39) F.1 F.2.1 dX14_hasNew_4 (by decide) (fun c5 => ?_) (fun c5 => ?_)
  · replace h := zi_t c5 h
    refine lv_iconst (v := (0 : Int32)) F.1 F.2.1 dX14_hasNew_39 (by decide) ?_
    obtain ⟨rfl, rfl⟩ := zret h
    exact E _ _ _ _ dX14_hasNew_40 (by decide) hr
  · replace h := zi_f c5 h
    refine lv_aload_n F.1 F.2.1 dX14_hasNew_7 rfl (lv_at hl 0 rfl) ?_
    refine gf14_48 F hx0 hr dX14_hasNew_8 ?_
    refine lv_aload_n F.1 F.2.1 dX14_hasNew_11 rfl (lv_at hl 0 rfl) ?_
    refine gf14_51 F hx0 hr dX14_hasNew_12 ?_
    replace h := zc_some h
    obtain ⟨r6, z7, hc8, h⟩ := h
    refine zr_calli (zrun_SN (As := [.int (zgI z2 14 7 x0), .int (zgI z2 14 8 x0)]) (rest := []) zn_2691 zq_2692 zq_2693 zq_4 hdX19_isBefore (okX19_isBefore l D cy B ids hst N (zgI z2 14 7 x0)  (zgI z2 14 8 x0)  hr.2.2 hc8) F hr hl.1 rfl (by decide) dX14_hasNew_15 rfl rfl hroX14_hasNew_X19_isBefore ⟨Nat.zero_le _, Nat.zero_le _⟩) F hA hr (fun H locs hw9 hr => ?_)
    clear hc8
    refine lv_if_ne (tgt := 35) F.1 F.2.1 dX14_hasNew_18 (by decide) (fun c10 => ?_) (fun c10 => ?_)
    · replace h := zi_t c10 h
      exact bX14_hasNew_35 hst F hA E   hr (lv_sub hl [] rfl) h
    · replace h := zi_f (fun q => q c10) h
      refine lv_aload_n F.1 F.2.1 dX14_hasNew_21 rfl (lv_at hl 0 rfl) ?_
      refine gf14_54 F hx0 hr dX14_hasNew_22 ?_
      refine lv_if_eq (tgt := 39) F.1 F.2.1 dX14_hasNew_25 (by decide) (fun c11 => ?_) (fun c11 => ?_)
      · replace h := zi_t c11 h
        refine lv_iconst (v := (0 : Int32)) F.1 F.2.1 dX14_hasNew_39 (by decide) ?_
        obtain ⟨rfl, rfl⟩ := zret h
        exact E _ _ _ _ dX14_hasNew_40 (by decide) hr
      · replace h := zi_f c11 h
        refine lv_aload_n F.1 F.2.1 dX14_hasNew_28 rfl (lv_at hl 0 rfl) ?_
        replace h := zc_some h
        obtain ⟨r12, z13, hc14, h⟩ := h
        refine zr_calli (zrun_V (As := []) (rest := []) zq_2968 zq_2954 zs_X14_lastSent zq_2955 zq_21 hdX14_lastSent (by decide) (T := TX14) (N := 47) rfl (okX14_lastSent l D cy B ids hst N x0 hx0 hr.2.2 hc14) F hr hx0 hl.1 rfl (by decide) dX14_hasNew_29 rfl rfl hroX14_hasNew_X14_lastSent ⟨Nat.zero_le _, Nat.zero_le _⟩) F hA hr (fun H locs hw15 hr => ?_)
        clear hc14
        refine lv_if_ne (tgt := 39) F.1 F.2.1 dX14_hasNew_32 (by decide) (fun c16 => ?_) (fun c16 => ?_)
        · replace h := zi_t c16 h
          refine lv_iconst (v := (0 : Int32)) F.1 F.2.1 dX14_hasNew_39 (by decide) ?_
          obtain ⟨rfl, rfl⟩ := zret h
          exact E _ _ _ _ dX14_hasNew_40 (by decide) hr
        · replace h := zi_f (fun q => q c16) h
          exact bX14_hasNew_35 hst F hA E   hr (lv_sub hl [] rfl) h
end SX14_hasNew
set_option maxRecDepth 100000 in
theorem okX14_hasNew (l : Launch) (D : va_G) (cy : Nat → ClassId) (B : Nat → Nat → Nat) (ids : List (Nat × Nat)) (hst : zSt B ids) (N : Nat) (x0 : Nat) (hx0 : (14, x0) ∈ ids) {z : St} {r : Int32} {z' : St} (hW : zWf ids z) (h : fX14_hasNew N x0 z = some (r, z')) : zM l yX14_hasNew (zws yX14_hasNew cX14_hasNew 1 (some .boolean)) rmX14_hasNew D cy B ids [.ref (B 14 x0)] (some (.int r)) (r = 0 ∨ r = 1) z z' :=
  zM_of hst hW (by decide +kernel) (Nat.le_of_ble_eq_true rfl) (fun p e s m args below meth c A ls F hA hret hlocks hr hl => bX14_hasNew_0 hst F hA (zEnd_z F hret hlocks) x0 hx0 hr hl h)
