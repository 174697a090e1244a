abbrev rmX11_release : Room := { frames := 4, cells := 0, slots := 0, locals := 140 }
theorem hdX11_release : yX11_release.cls ≠ "java/lang/invoke/MethodHandle" ∧ yX11_release.cls ≠ "java/lang/invoke/VarHandle" ∧ (parseMethodDescriptor yX11_release.desc).map (fun d => d.parameters.length) = some 2 := by decide +kernel
theorem hroX11_release_X11_putOn : rmX11_putOn.frames + 1 ≤ rmX11_release.frames ∧ 8 + (7 + 11) + rmX11_putOn.locals ≤ rmX11_release.locals := by decide
theorem hroX11_release_X8_endAsking : rmX8_endAsking.frames + 1 ≤ rmX11_release.frames ∧ 8 + (4 + 11) + rmX8_endAsking.locals ≤ rmX11_release.locals := by decide
theorem hroX11_release_X8_firstWaitingFor : rmX8_firstWaitingFor.frames + 1 ≤ rmX11_release.frames ∧ 8 + (3 + 11) + rmX8_firstWaitingFor.locals ≤ rmX11_release.locals := by decide
theorem hroX11_release_X8_takeWaiting : rmX8_takeWaiting.frames + 1 ≤ rmX11_release.frames ∧ 8 + (4 + 11) + rmX8_takeWaiting.locals ≤ rmX11_release.locals := by decide
section SX11_release
variable {p : Program} {l : Launch} {e : Env} {s : State} {m : MethodId} {args : Array Value} {below : List Frame} {meth : Method} {c : Code} {Q : State → Prop} {D : va_G} {cy : Nat → ClassId} {B : Nat → Nat → Nat} {ids : List (Nat × Nat)} {A : Nat → Prop}
def fX11_release_41 (N : Nat)  (x1 : Nat) (x2 : Int32) (z : St) : Option (Int32 × St) := zc (fX8_endAsking N x1 x2 z) fun _ z2 => some (0, z2)
set_option maxHeartbeats 4000000 in
set_option maxRecDepth 100000 in
theorem bX11_release_41 (hst : zSt B ids) (F : zFx p m c cX11_release 5 s args RX11 D cy B ids A) (hA : ∀ q : Nat, s.heap.size ≤ q → A q) {r : Int32} {z' : St} (E : zEnd p l e rmX11_release s m args below meth c cX11_release D cy B ids A Q none z' .return_ True) {N : Nat}  (x1 : Nat) (x2 : Int32) (hx1 : (8, x1) ∈ ids) {z : St} {H : Heap} {locs : List Loc} {ls : Array Slot} (hr : zRep D cy B ids A s.heap z H locs) (hl : lv_has ls 5 [(1, .ref (B 8 x1)), (2, .int x2)]) (h : fX11_release_41 N x1 x2 z = some (r, z')) : W p l e rmX11_release s m args below meth c H locs 0 0 Q (F0 m 41 ls []) := by
  unfold fX11_release_41 at h
  refine lv_aload_n F.1 F.2.1 dX11_release_41 rfl (lv_at hl 0 rfl) ?_
  refine lv_iload_n F.1 F.2.1 dX11_release_42 rfl (lv_at hl 1 rfl) ?_
  replace h := zc_some h
  obtain ⟨r1, z2, hc3, h⟩ := h
  refine zr_callv (zrun_VN (As := [.int x2]) (rest := []) zn_1078 zq_1080 zs_X8_endAsking zq_1081 zq_24 hdX8_endAsking (by decide) (T := TX8) (N := 13) rfl (okX8_endAsking l D cy B ids hst N x1 hx1 x2  hr.2.2 hc3) F hr hx1 hl.1 rfl (by decide) dX11_release_43 rfl rfl hroX11_release_X8_endAsking ⟨Nat.zero_le _, Nat.zero_le _⟩) F hA hr (fun H locs hw4 hr => ?_)
  clear hc3
  obtain ⟨rfl, rfl⟩ := zret h
  exact E _ _ _ _ dX11_release_46 trivial hr
def fX11_release_2b (N : Nat) (K2 : Nat → Nat → Int32 → Int32 → St → Option (Int32 × St)) (x0 : Nat) (x1 : Nat) (x2 : Int32) (x3 : Int32) (z : St) : Option (Int32 × St) := if (16 : Int32) < x3 then (fX11_release_41 N x1 x2 z) else (zc (fX8_firstWaitingFor N x1 x2 z) fun r2 z3 => if 0 ≤ r2 then (zc (fX8_takeWaiting N x1 r2 z3) fun r7 z8 => zd r7 fun a11 => zc (fX11_putOn N x0 x1 x2 a11 z8) fun _ z13 => zl (x3 + 1) fun v16 => K2 x0 x1 x2 v16 z13) else (fX11_release_41 N x1 x2 z3))
def fX11_release_2 (N : Nat)  : Nat → Nat → Nat → Int32 → Int32 → St → Option (Int32 × St)
  | 0 => fun _ _ _ _ _ => none
  | n + 1 => fX11_release_2b N (fX11_release_2 N  n)
set_option maxHeartbeats 4000000 in
set_option maxRecDepth 100000 in
theorem bX11_release_2 (hst : zSt B ids) (F : zFx p m c cX11_release 5 s args RX11 D cy B ids A) (hA : ∀ q : Nat, s.heap.size ≤ q → A q) {r : Int32} {z' : St} (E : zEnd p l e rmX11_release s m args below meth c cX11_release D cy B ids A Q none z' .return_ True) {N : Nat} {K2 : Nat → Nat → Int32 → Int32 → St → Option (Int32 × St)} (hK2 : ∀ (x0 : Nat) (x1 : Nat) (x2 : Int32) (x3 : Int32) (hx0 : (11, x0) ∈ ids) (hx1 : (8, x1) ∈ ids) {z : St} {H : Heap} {locs : List Loc} {ls : Array Slot} (hr : zRep D cy B ids A s.heap z H locs) (hl : lv_has ls 5 [(0, .ref (B 11 x0)), (1, .ref (B 8 x1)), (2, .int x2), (3, .int x3)]), K2 x0 x1 x2 x3 z = some (r, z') → W p l e rmX11_release s m args below meth c H locs 0 0 Q (F0 m 2 ls [])) (x0 : Nat) (x1 : Nat) (x2 : Int32) (x3 : Int32) (hx0 : (11, x0) ∈ ids) (hx1 : (8, x1) ∈ ids) {z : St} {H : Heap} {locs : List Loc} {ls : Array Slot} (hr : zRep D cy B ids A s.heap z H locs) (hl : lv_has ls 5 [(0, .ref (B 11 x0)), (1, .ref (B 8 x1)), (2, .int x2), (3, .int x3)]) (h : fX11_release_2b N K2 x0 x1 x2 x3 z = some (r, z')) : W p l e rmX11_release s m args below meth c H locs 0 0 Q (F0 m 2 ls []) := by
  unfold fX11_release_2b at h
  refine lv_iload_n F.1 F.2.1 dX11_release_2 rfl (lv_at hl 3 rfl) ?_
  refine lv_bipush (v := (16 : Int32)) F.1 F.2.1 dX11_release_3 (by decide) ?_
  refine lv_icmp_gt (tgt := 41) F.1 F.2.1 dX11_release_5 (by decide) (fun c1 => ?_) (fun c1 => ?_)
  · replace h := zi_t c1 h
    exact bX11_release_41 hst F hA E  x1 x2 hx1 hr (lv_sub hl [1, 2] rfl) h
  · replace h := zi_f c1 h
    refine lv_aload_n F.1 F.2.1 dX11_release_8 rfl (lv_at hl 1 rfl) ?_
    refine lv_iload_n F.1 F.2.1 dX11_release_9 rfl (lv_at hl 2 rfl) ?_
    replace h := zc_some h
    obtain ⟨r2, z3, hc4, h⟩ := h
    refine zr_calli (zrun_VN (As := [.int x2]) (rest := []) zn_1051 zq_1053 zs_X8_firstWaitingFor zq_1054 zq_24 hdX8_firstWaitingFor (by decide) (T := TX8) (N := 13) rfl (okX8_firstWaitingFor l D cy B ids hst N x1 hx1 x2  hr.2.2 hc4) F hr hx1 hl.1 rfl (by decide) dX11_release_10 rfl rfl hroX11_release_X8_firstWaitingFor ⟨Nat.zero_le _, Nat.zero_le _⟩) F hA hr (fun H locs hw5 hr => ?_)
    clear hc4
    refine lv_istore (lv' := [(4, .int r2), (0, .ref (B 11 x0)), (1, .ref (B 8 x1)), (2, .int x2), (3, .int x3)]) F.1 F.2.1 dX11_release_13 hl (by decide) rfl (fun ls hl => ?_)
    refine lv_iload F.1 F.2.1 dX11_release_15 (lv_at hl 0 rfl) ?_
    refine lv_if_ge (tgt := 23) F.1 F.2.1 dX11_release_17 (by decide) (fun c6 => ?_) (fun c6 => ?_)
    · replace h := zi_t c6 h
      refine lv_aload_n F.1 F.2.1 dX11_release_23 rfl (lv_at hl 1 rfl) ?_
      refine lv_aload_n F.1 F.2.1 dX11_release_24 rfl (lv_at hl 2 rfl) ?_
      refine lv_iload_n F.1 F.2.1 dX11_release_25 rfl (lv_at hl 3 rfl) ?_
      refine lv_aload_n F.1 F.2.1 dX11_release_26 rfl (lv_at hl 2 rfl) ?_
      refine lv_iload F.1 F.2.1 dX11_release_27 (lv_at hl 0 rfl) ?_
      replace h := zc_some h
      obtain ⟨r7, z8, hc9, h⟩ := h
      refine zr_callr (zrun_VN (As := [.int r2]) (rest := [.int x2, .ref (B 8 x1), .ref (B 11 x0)]) zn_1055 zq_1057 zs_X8_takeWaiting zq_1058 zq_24 hdX8_takeWaiting (by decide) (T := TX8) (N := 13) rfl (okX8_takeWaiting l D cy B ids hst N x1 hx1 r2  hr.2.2 hc9) F hr hx1 hl.1 rfl (Nat.le_of_ble_eq_true rfl) dX11_release_29 rfl rfl hroX11_release_X8_takeWaiting ⟨Nat.zero_le _, Nat.zero_le _⟩) F hA hr (fun H locs hw10 hr => ?_)
      clear hc9
      replace h := zd_some h
      obtain ⟨a11, rfl, h⟩ := h
      replace h := zc_some h
      obtain ⟨r12, z13, hc14, h⟩ := h
      refine zr_callv (zrun_V (As := [.ref (B 8 x1), .int x2, .ref (B 7 a11)]) (rest := []) zq_1059 zq_1061 zs_X11_putOn zq_1062 zq_1 hdX11_putOn (by decide) (T := TX11) (N := 21) rfl (okX11_putOn l D cy B ids hst N x0 hx0 x1 hx1 x2  a11 (hw10 _ rfl) hr.2.2 hc14) F hr hx0 hl.1 rfl (by decide) dX11_release_32 rfl rfl hroX11_release_X11_putOn ⟨Nat.zero_le _, Nat.zero_le _⟩) F hA hr (fun H locs hw15 hr => ?_)
      clear hc14
      obtain ⟨v16, ev16⟩ : ∃ y : Int32, y = (x3 + 1) := ⟨_, rfl⟩
      replace h := zl_sub ev16 h
      refine lv_iinc (v := v16) (lv' := [(3, .int v16), (4, .int r2), (0, .ref (B 11 x0)), (1, .ref (B 8 x1)), (2, .int x2)]) F.1 F.2.1 dX11_release_35 hl (k := 4) rfl (by rw [ev16]; rfl) (by decide) rfl (fun ls hl => ?_)
      refine lv_goto (tgt := 2) F.1 F.2.1 dX11_release_38 (by decide) ?_
      exact hK2 x0 x1 x2 v16 hx0 hx1 hr (lv_sub hl [2, 3, 4, 0] rfl) h
    · replace h := zi_f c6 h
      refine lv_goto (tgt := 41) F.1 F.2.1 dX11_release_20 (by decide) ?_
      exact bX11_release_41 hst F hA E  x1 x2 hx1 hr (lv_sub hl [2, 3] rfl) h
theorem lX11_release_2 (hst : zSt B ids) (F : zFx p m c cX11_release 5 s args RX11 D cy B ids A) (hA : ∀ q : Nat, s.heap.size ≤ q → A q) {r : Int32} {z' : St} (E : zEnd p l e rmX11_release s m args below meth c cX11_release D cy B ids A Q none z' .return_ True) {N : Nat}  : ∀ (n : Nat) (x0 : Nat) (x1 : Nat) (x2 : Int32) (x3 : Int32) (hx0 : (11, x0) ∈ ids) (hx1 : (8, x1) ∈ ids) {z : St} {H : Heap} {locs : List Loc} {ls : Array Slot} (hr : zRep D cy B ids A s.heap z H locs) (hl : lv_has ls 5 [(0, .ref (B 11 x0)), (1, .ref (B 8 x1)), (2, .int x2), (3, .int x3)]), fX11_release_2 N  n x0 x1 x2 x3 z = some (r, z') → W p l e rmX11_release s m args below meth c H locs 0 0 Q (F0 m 2 ls []) := by
  intro n
  induction n with
  | zero => intro x0 x1 x2 x3 hx0 hx1 z H locs ls hr hl h; cases h
  | succ n ih => intro x0 x1 x2 x3 hx0 hx1 z H locs ls hr hl h; exact bX11_release_2 hst F hA E ih x0 x1 x2 x3 hx0 hx1 hr hl h
def fX11_release (N : Nat)  (x0 : Nat) (x1 : Nat) (x2 : Int32) (z : St) : Option (Int32 × St) := fX11_release_2 N N x0 x1 x2 (0 : Int32) z
set_option maxHeartbeats 4000000 in
set_option maxRecDepth 100000 in
theorem bX11_release_0 (hst : zSt B ids) (F : zFx p m c cX11_release 5 s args RX11 D cy B ids A) (hA : ∀ q : Nat, s.heap.size ≤ q → A q) {r : Int32} {z' : St} (E : zEnd p l e rmX11_release s m args below meth c cX11_release D cy B ids A Q none z' .return_ True) {N : Nat}  (x0 : Nat) (x1 : Nat) (x2 : Int32) (hx0 : (11, x0) ∈ ids) (hx1 : (8, x1) ∈ ids) {z : St} {H : Heap} {locs : List Loc} {ls : Array Slot} (hr : zRep D cy B ids A s.heap z H locs) (hl : lv_has ls 5 [(0, .ref (B 11 x0)), (1, .ref (B 8 x1)), (2, .int x2)]) (h : fX11_release N x0 x1 x2 z = some (r, z')) : W p l e rmX11_release s m args below meth c H locs 0 0 Q (F0 m 0 ls []) := by
  unfold fX11_release at h
  refine lv_iconst (v := (0 : Int32)) F.1 F.2.1 dX11_release_0 (by decide) ?_
  refine lv_istore_n (lv' := [(3, .int (0 : Int32)), (0, .ref (B 11 x0)), (1, .ref (B 8 x1)), (2, .int x2)]) F.1 F.2.1 dX11_release_1 rfl hl (by decide) rfl (fun ls hl => ?_)
  exact lX11_release_2 hst F hA E  _ x0 x1 x2 (0 : Int32) hx0 hx1 hr (lv_sub hl [1, 2, 3, 0] rfl) h
end SX11_release
set_option maxRecDepth 100000 in
theorem okX11_release (l : Launch) (D : va_G) (cy : Nat → ClassId) (B : Nat → Nat → Nat) (ids : List (Nat × Nat)) (hst : zSt B ids) (N : Nat) (x0 : Nat) (hx0 : (11, x0) ∈ ids) (x1 : Nat) (hx1 : (8, x1) ∈ ids) (x2 : Int32) {z : St} {r : Int32} {z' : St} (hW : zWf ids z) (h : fX11_release N x0 x1 x2 z = some (r, z')) : zM l yX11_release (zws yX11_release cX11_release 5 none) rmX11_release D cy B ids [.ref (B 11 x0), .ref (B 8 x1), .int x2] none True z z' :=
  zM_of hst hW (by decide +kernel) (Nat.le_of_ble_eq_true rfl) (fun p e s m args below meth c A ls F hA hret hlocks hr hl => bX11_release_0 hst F hA (zEnd_v F hret hlocks) x0 x1 x2 hx0 hx1 hr hl h)
abbrev rmX11_abortAsking : Room := { frames := 1, cells := 0, slots := 0, locals := 23 }
theorem hdX11_abortAsking : yX11_abortAsking.cls ≠ "java/lang/invoke/MethodHandle" ∧ yX11_abortAsking.cls ≠ "java/lang/invoke/VarHandle" ∧ (parseMethodDescriptor yX11_abortAsking.desc).map (fun d => d.parameters.length) = some 4 := by decide +kernel
theorem hroX11_abortAsking_X2_isFor : rmX2_isFor.frames + 1 ≤ rmX11_abortAsking.frames ∧ 8 + (4 + 11) + rmX2_isFor.locals ≤ rmX11_abortAsking.locals := by decide
theorem hroX11_abortAsking_X3_finish : rmX3_finish.frames + 1 ≤ rmX11_abortAsking.frames ∧ 8 + (2 + 11) + rmX3_finish.locals ≤ rmX11_abortAsking.locals := by decide
section SX11_abortAsking
variable {p : Program} {l : Launch} {e : Env} {s : State} {m : MethodId} {args : Array Value} {below : List Frame} {meth : Method} {c : Code} {Q : State → Prop} {D : va_G} {cy : Nat → ClassId} {B : Nat → Nat → Nat} {ids : List (Nat × Nat)} {A : Nat → Prop}
def fX11_abortAsking_56 (N : Nat) (K3 : Nat → Int32 → Int32 → Int32 → Int32 → St → Option (Int32 × St)) (x1 : Nat) (x2 : Int32) (x3 : Int32) (x4 : Int32) (x5 : Int32) (z : St) : Option (Int32 × St) := zl (x5 + 1) fun v1 => K3 x1 x2 x3 x4 v1 z
set_option maxHeartbeats 4000000 in
set_option maxRecDepth 100000 in
theorem bX11_abortAsking_56 (hst : zSt B ids) (F : zFx p m c cX11_abortAsking 7 s args RX11 D cy B ids A) (hA : ∀ q : Nat, s.heap.size ≤ q → A q) {r : Int32} {z' : St} (E : zEnd p l e rmX11_abortAsking s m args below meth c cX11_abortAsking D cy B ids A Q none z' .return_ True) {N : Nat} {K3 : Nat → Int32 → Int32 → Int32 → Int32 → St → Option (Int32 × St)} (hK3 : ∀ (x1 : Nat) (x2 : Int32) (x3 : Int32) (x4 : Int32) (x5 : Int32) (hx1 : (1, x1) ∈ ids) {z : St} {H : Heap} {locs : List Loc} {ls : Array Slot} (hr : zRep D cy B ids A s.heap z H locs) (hl : lv_has ls 7 [(1, .ref (B 1 x1)), (2, .int x2), (3, .int x3), (4, .int x4), (5, .int x5)]), K3 x1 x2 x3 x4 x5 z = some (r, z') → W p l e rmX11_abortAsking s m args below meth c H locs 0 0 Q (F0 m 3 ls [])) (x1 : Nat) (x2 : Int32) (x3 : Int32) (x4 : Int32) (x5 : Int32) (hx1 : (1, x1) ∈ ids) {z : St} {H : Heap} {locs : List Loc} {ls : Array Slot} (hr : zRep D cy B ids A s.heap z H locs) (hl : lv_has ls 7 [(1, .ref (B 1 x1)), (2, .int x2), (3, .int x3), (4, .int x4), (5, .int x5)]) (h : fX11_abortAsking_56 N K3 x1 x2 x3 x4 x5 z = some (r, z')) : W p l e rmX11_abortAsking s m args below meth c H locs 0 0 Q (F0 m 56 ls []) := by
  unfold fX11_abortAsking_56 at h
  obtain ⟨v1, ev1⟩ : ∃ y : Int32, y = (x5 + 1) := ⟨_, rfl⟩
  replace h := zl_sub ev1 h
  refine lv_iinc (v := v1) (lv' := [(5, .int v1), (1, .ref (B 1 x1)), (2, .int x2), (3, .int x3), (4, .int x4)]) F.1 F.2.1 dX11_abortAsking_56 hl (k := 4) rfl (by rw [ev1]; rfl) (by decide) rfl (fun ls hl => ?_)
  refine lv_goto (tgt := 3) F.1 F.2.1 dX11_abortAsking_59 (by decide) ?_
  exact hK3 x1 x2 x3 x4 v1 hx1 hr (lv_sub hl [1, 2, 3, 4, 0] rfl) h
def fX11_abortAsking_3b (N : Nat) (K3 : Nat → Int32 → Int32 → Int32 → Int32 → St → Option (Int32 × St)) (x1 : Nat) (x2 : Int32) (x3 : Int32) (x4 : Int32) (x5 : Int32) (z : St) : Option (Int32 × St) := if (Int32.ofNat (zlen z 119 x1)) ≤ x5 then (some (0, z)) else (zk x5 (zlen z 119 x1) <| zl (zgQ z 119 x1 (Int32.toNatClampNeg x5)) fun y3 => zd y3 fun a4 => zc (fX2_isFor N a4 x3 x2 x4 z) fun r5 z6 => if r5 = 0 then (fX11_abortAsking_56 N K3 x1 x2 x3 x4 x5 z6) else (zl (zgR z6 2 12 a4) fun y10 => zd y10 fun a11 => if ¬ (zgI z6 3 0 a11) = (2 : Int32) then (fX11_abortAsking_56 N K3 x1 x2 x3 x4 x5 z6) else (zl (zgR z6 2 12 a4) fun y13 => zd y13 fun a14 => zc (fX3_finish N a14 (11 : Int32) z6) fun _ z16 => fX11_abortAsking_56 N K3 x1 x2 x3 x4 x5 z16)))
def fX11_abortAsking_3 (N : Nat)  : Nat → Nat → Int32 → Int32 → Int32 → Int32 → St → Option (Int32 × St)
  | 0 => fun _ _ _ _ _ _ => none
  | n + 1 => fX11_abortAsking_3b N (fX11_abortAsking_3 N  n)
set_option maxHeartbeats 4000000 in
set_option maxRecDepth 100000 in
theorem bX11_abortAsking_3 (hst : zSt B ids) (F : zFx p m c cX11_abortAsking 7 s args RX11 D cy B ids A) (hA : ∀ q : Nat, s.heap.size ≤ q → A q) {r : Int32} {z' : St} (E : zEnd p l e rmX11_abortAsking s m args below meth c cX11_abortAsking D cy B ids A Q none z' .return_ True) {N : Nat} {K3 : Nat → Int32 → Int32 → Int32 → Int32 → St → Option (Int32 × St)} (hK3 : ∀ (x1 : Nat) (x2 : Int32) (x3 : Int32) (x4 : Int32) (x5 : Int32) (hx1 : (1, x1) ∈ ids) {z : St} {H : Heap} {locs : List Loc} {ls : Array Slot} (hr : zRep D cy B ids A s.heap z H locs) (hl : lv_has ls 7 [(1, .ref (B 1 x1)), (2, .int x2), (3, .int x3), (4, .int x4), (5, .int x5)]), K3 x1 x2 x3 x4 x5 z = some (r, z') → W p l e rmX11_abortAsking s m args below meth c H locs 0 0 Q (F0 m 3 ls [])) (x1 : Nat) (x2 : Int32) (x3 : Int32) (x4 : Int32) (x5 : Int32) (hx1 : (1, x1) ∈ ids) {z : St} {H : Heap} {locs : List Loc} {ls : Array Slot} (hr : zRep D cy B ids A s.heap z H locs) (hl : lv_has ls 7 [(1, .ref (B 1 x1)), (2, .int x2), (3, .int x3), (4, .int x4), (5, .int x5)]) (h : fX11_abortAsking_3b N K3 x1 x2 x3 x4 x5 z = some (r, z')) : W p l e rmX11_abortAsking s m args below meth c H locs 0 0 Q (F0 m 3 ls []) := by
  unfold fX11_abortAsking_3b at h
  refine lv_iload F.1 F.2.1 dX11_abortAsking_3 (lv_at hl 4 rfl) ?_
  refine lv_aload_n F.1 F.2.1 dX11_abortAsking_5 rfl (lv_at hl 0 rfl) ?_
  refine gf11_220 F hx1 hr dX11_abortAsking_6 ?_
  refine zr_alen (k := 119) (v := (Int32.ofNat (zlen z 119 x1))) (by decide) rfl rfl (ti := 8) rfl rfl F (zal_a F hx1 (j := 11) rfl) hr dX11_abortAsking_9 ?_
  refine lv_icmp_ge (tgt := 62) F.1 F.2.1 dX11_abortAsking_10 (by decide) (fun c1 => ?_) (fun c1 => ?_)
  · replace h := zi_t c1 h
    obtain ⟨rfl, rfl⟩ := zret h
    exact E _ _ _ _ dX11_abortAsking_62 trivial hr
  · replace h := zi_f c1 h
    refine lv_aload_n F.1 F.2.1 dX11_abortAsking_13 rfl (lv_at hl 0 rfl) ?_
    refine gf11_220 F hx1 hr dX11_abortAsking_14 ?_
    refine lv_iload F.1 F.2.1 dX11_abortAsking_17 (lv_at hl 4 rfl) ?_
    replace h := zk_some h
    obtain ⟨c2, h⟩ := h
    refine zr_aaldv (k := 119) (by decide) rfl rfl rfl F (zal_a F hx1 (j := 11) rfl) hr dX11_abortAsking_19 c2 (fun y3 ey3 => ?_)
    replace h := zl_sub ey3 h
    have hy3 := zal_q hr (zal_a F hx1 (j := 11) rfl) rfl ey3
    clear ey3
    refine zr_astore (lv' := [(6, va_rf (Option.map (B 2) y3)), (1, .ref (B 1 x1)), (2, .int x2), (3, .int x3), (4, .int x4), (5, .int x5)]) F.1 F.2.1 dX11_abortAsking_20 hl (by decide) rfl (fun ls hl => ?_)
    refine zr_aload F.1 F.2.1 dX11_abortAsking_22 (lv_at hl 0 rfl) ?_
    refine lv_iload_n F.1 F.2.1 dX11_abortAsking_24 rfl (lv_at hl 3 rfl) ?_
    refine lv_iload_n F.1 F.2.1 dX11_abortAsking_25 rfl (lv_at hl 2 rfl) ?_
    refine lv_iload F.1 F.2.1 dX11_abortAsking_26 (lv_at hl 4 rfl) ?_
    replace h := zd_some h
    obtain ⟨a4, rfl, h⟩ := h
    replace h := zc_some h
    obtain ⟨r5, z6, hc7, h⟩ := h
    refine zr_calli (zrun_VN (As := [.int x3, .int x2, .int x4]) (rest := []) zn_1145 zq_1147 zs_X2_isFor zq_1148 zq_12 hdX2_isFor (by decide) (T := TX2) (N := 13) rfl (okX2_isFor l D cy B ids hst N a4 (hy3 _ rfl) x3  x2  x4  hr.2.2 hc7) F hr (hy3 _ rfl) hl.1 rfl (by decide) dX11_abortAsking_28 rfl rfl hroX11_abortAsking_X2_isFor ⟨Nat.zero_le _, Nat.zero_le _⟩) F hA hr (fun H locs hw8 hr => ?_)
    clear hc7
    refine lv_if_eq (tgt := 56) F.1 F.2.1 dX11_abortAsking_31 (by decide) (fun c9 => ?_) (fun c9 => ?_)
    · replace h := zi_t c9 h
      exact bX11_abortAsking_56 hst F hA E hK3 x1 x2 x3 x4 x5 hx1 hr (lv_sub hl [1, 2, 3, 4, 5] rfl) h
    · replace h := zi_f c9 h
      refine lv_aload F.1 F.2.1 dX11_abortAsking_34 (lv_at hl 0 rfl) ?_
      refine gf11_253 F (hy3 _ rfl) hr dX11_abortAsking_36 (fun y10 ey10 => ?_)
      replace h := zl_sub ey10 h
      have hy10 := zal_g hr (hy3 _ rfl) (j := 12) rfl ey10
      clear ey10
      replace h := zd_some h
      obtain ⟨a11, rfl, h⟩ := h
      refine gf11_290 F (hy10 _ rfl) hr dX11_abortAsking_39 ?_
      refine lv_iconst (v := (2 : Int32)) F.1 F.2.1 dX11_abortAsking_42 (by decide) ?_
      refine lv_icmp_ne (tgt := 56) F.1 F.2.1 dX11_abortAsking_43 (by decide) (fun c12 => ?_) (fun c12 => ?_)
      · replace h := zi_t c12 h
        exact bX11_abortAsking_56 hst F hA E hK3 x1 x2 x3 x4 x5 hx1 hr (lv_sub hl [1, 2, 3, 4, 5] rfl) h
      · replace h := zi_f (fun q => q c12) h
        refine lv_aload F.1 F.2.1 dX11_abortAsking_46 (lv_at hl 0 rfl) ?_
        refine gf11_253 F (hy3 _ rfl) hr dX11_abortAsking_48 (fun y13 ey13 => ?_)
        replace h := zl_sub ey13 h
        have hy13 := zal_g hr (hy3 _ rfl) (j := 12) rfl ey13
        clear ey13
        refine lv_bipush (v := (11 : Int32)) F.1 F.2.1 dX11_abortAsking_51 (by decide) ?_
        replace h := zd_some h
        obtain ⟨a14, rfl, h⟩ := h
        replace h := zc_some h
        obtain ⟨r15, z16, hc17, h⟩ := h
        refine zr_callv (zrun_VN (As := [.int (11 : Int32)]) (rest := []) zn_1149 zq_1151 zs_X3_finish zq_1152 zq_13 hdX3_finish (by decide) (T := TX3) (N := 19) rfl (okX3_finish l D cy B ids hst N a14 (hy13 _ rfl) (11 : Int32)  hr.2.2 hc17) F hr (hy13 _ rfl) hl.1 rfl (by decide) dX11_abortAsking_53 rfl rfl hroX11_abortAsking_X3_finish ⟨Nat.zero_le _, Nat.zero_le _⟩) F hA hr (fun H locs hw18 hr => ?_)
        clear hc17
        exact bX11_abortAsking_56 hst F hA E hK3 x1 x2 x3 x4 x5 hx1 hr (lv_sub hl [1, 2, 3, 4, 5] rfl) h
theorem lX11_abortAsking_3 (hst : zSt B ids) (F : zFx p m c cX11_abortAsking 7 s args RX11 D cy B ids A) (hA : ∀ q : Nat, s.heap.size ≤ q → A q) {r : Int32} {z' : St} (E : zEnd p l e rmX11_abortAsking s m args below meth c cX11_abortAsking D cy B ids A Q none z' .return_ True) {N : Nat}  : ∀ (n : Nat) (x1 : Nat) (x2 : Int32) (x3 : Int32) (x4 : Int32) (x5 : Int32) (hx1 : (1, x1) ∈ ids) {z : St} {H : Heap} {locs : List Loc} {ls : Array Slot} (hr : zRep D cy B ids A s.heap z H locs) (hl : lv_has ls 7 [(1, .ref (B 1 x1)), (2, .int x2), (3, .int x3), (4, .int x4), (5, .int x5)]), fX11_abortAsking_3 N  n x1 x2 x3 x4 x5 z = some (r, z') → W p l e rmX11_abortAsking s m args below meth c H locs 0 0 Q (F0 m 3 ls []) := by
  intro n
  induction n with
  | zero => intro x1 x2 x3 x4 x5 hx1 z H locs ls hr hl h; cases h
  | succ n ih => intro x1 x2 x3 x4 x5 hx1 z H locs ls hr hl h; exact bX11_abortAsking_3 hst F hA E ih x1 x2 x3 x4 x5 hx1 hr hl h
def fX11_abortAsking (N : Nat)  (x0 : Nat) (x1 : Nat) (x2 : Int32) (x3 : Int32) (x4 : Int32) (z : St) : Option (Int32 × St) := fX11_abortAsking_3 N N x1 x2 x3 x4 (0 : Int32) z
set_option maxHeartbeats 4000000 in
set_option maxRecDepth 100000 in
theorem bX11_abortAsking_0 (hst : zSt B ids) (F : zFx p m c cX11_abortAsking 7 s args RX11 D cy B ids A) (hA : ∀ q : Nat, s.heap.size ≤ q → A q) {r : Int32} {z' : St} (E : zEnd p l e rmX11_abortAsking s m args below meth c cX11_abortAsking D cy B ids A Q none z' .return_ True) {N : Nat}  (x0 : Nat) (x1 : Nat) (x2 : Int32) (x3 : Int32) (x4 : Int32) (hx0 : (11, x0) ∈ ids) (hx1 : (1, x1) ∈ ids) {z : St} {H : Heap} {locs : List Loc} {ls : Array Slot} (hr : zRep D cy B ids A s.heap z H locs) (hl : lv_has ls 7 [(0, .ref (B 11 x0)), (1, .ref (B 1 x1)), (2, .int x2), (3, .int x3), (4, .int x4)]) (h : fX11_abortAsking N x0 x1 x2 x3 x4 z = some (r, z')) : W p l e rmX11_abortAsking s m args below meth c H locs 0 0 Q (F0 m 0 ls []) := by
  unfold fX11_abortAsking at h
  refine lv_iconst (v := (0 : Int32)) F.1 F.2.1 dX11_abortAsking_0 (by decide) ?_
  refine lv_istore (lv' := [(5, .int (0 : Int32)), (0, .ref (B 11 x0)), (1, .ref (B 1 x1)), (2, .int x2), (3, .int x3), (4, .int x4)]) F.1 F.2.1 dX11_abortAsking_1 hl (by decide) rfl (fun ls hl => ?_)
  exact lX11_abortAsking_3 hst F hA E  _ x1 x2 x3 x4 (0 : Int32) hx1 hr (lv_sub hl [2, 3, 4, 5, 0] rfl) h
end SX11_abortAsking
set_option maxRecDepth 100000 in
theorem okX11_abortAsking (l : Launch) (D : va_G) (cy : Nat → ClassId) (B : Nat → Nat → Nat) (ids : List (Nat × Nat)) (hst : zSt B ids) (N : Nat) (x0 : Nat) (hx0 : (11, x0) ∈ ids) (x1 : Nat) (hx1 : (1, x1) ∈ ids) (x2 : Int32) (x3 : Int32) (x4 : Int32) {z : St} {r : Int32} {z' : St} (hW : zWf ids z) (h : fX11_abortAsking N x0 x1 x2 x3 x4 z = some (r, z')) : zM l yX11_abortAsking (zws yX11_abortAsking cX11_abortAsking 7 none) rmX11_abortAsking D cy B ids [.ref (B 11 x0), .ref (B 1 x1), .int x2, .int x3, .int x4] none True z z' :=
  zM_of hst hW (by decide +kernel) (Nat.le_of_ble_eq_true rfl) (fun p e s m args below meth c A ls F hA hret hlocks hr hl => bX11_abortAsking_0 hst F hA (zEnd_v F hret hlocks) x0 x1 x2 x3 x4 hx0 hx1 hr hl h)
abbrev rmX11_errorCame : Room := { frames := 2, cells := 0, slots := 0, locals := 49 }
theorem hdX11_errorCame : yX11_errorCame.cls ≠ "java/lang/invoke/MethodHandle" ∧ yX11_errorCame.cls ≠ "java/lang/invoke/VarHandle" ∧ (parseMethodDescriptor yX11_errorCame.desc).map (fun d => d.parameters.length) = some 2 := by decide +kernel
theorem hroX11_errorCame_X11_abortAsking : rmX11_abortAsking.frames + 1 ≤ rmX11_errorCame.frames ∧ 8 + (7 + 11) + rmX11_abortAsking.locals ≤ rmX11_errorCame.locals := by decide
theorem hroX11_errorCame_X1_hasAddress : rmX1_hasAddress.frames + 1 ≤ rmX11_errorCame.frames ∧ 8 + (3 + 11) + rmX1_hasAddress.locals ≤ rmX11_errorCame.locals := by decide
theorem hroX11_errorCame_X7_get2 : rmX7_get2.frames + 1 ≤ rmX11_errorCame.frames ∧ 8 + (2 + 11) + rmX7_get2.locals ≤ rmX11_errorCame.locals := by decide
theorem hroX11_errorCame_X7_get4 : rmX7_get4.frames + 1 ≤ rmX11_errorCame.frames ∧ 8 + (2 + 11) + rmX7_get4.locals ≤ rmX11_errorCame.locals := by decide
section SX11_errorCame
variable {p : Program} {l : Launch} {e : Env} {s : State} {m : MethodId} {args : Array Value} {below : List Frame} {meth : Method} {c : Code} {Q : State → Prop} {D : va_G} {cy : Nat → ClassId} {B : Nat → Nat → Nat} {ids : List (Nat × Nat)} {A : Nat → Prop}
def fX11_errorCame (N : Nat)  (x0 : Nat) (x1 : Nat) (x2 : Nat) (z : St) : Option (Int32 × St) := zk (7 : Int32) 8 <| zk (7 : Int32) 8 <| zl (zsA z 113 x1 (Int32.toNatClampNeg (7 : Int32)) ((zgA z 113 x1 (Int32.toNatClampNeg (7 : Int32))) + (1 : Int32))) fun z3 => if ¬ (zgI z3 1 1 x1) = 0 then (some (0, z3)) else (zc (fX7_get4 N x2 (0 : Int32) z3) fun r5 z6 => zc (fX1_hasAddress N x1 r5 z6) fun r9 z10 => if r9 = 0 then (some (0, z10)) else (zc (fX7_get4 N x2 (4 : Int32) z10) fun r14 z15 => zc (fX7_get2 N x2 (8 : Int32) z15) fun r18 z19 => zc (fX7_get2 N x2 (10 : Int32) z19) fun r22 z23 => zc (fX11_abortAsking N x0 x1 r14 r18 r22 z23) fun _ z27 => some (0, z27)))
set_option maxHeartbeats 4000000 in
set_option maxRecDepth 100000 in
theorem bX11_errorCame_0 (hst : zSt B ids) (F : zFx p m c cX11_errorCame 3 s args RX11 D cy B ids A) (hA : ∀ q : Nat, s.heap.size ≤ q → A q) {r : Int32} {z' : St} (E : zEnd p l e rmX11_errorCame s m args below meth c cX11_errorCame D cy B ids A Q none z' .return_ True) {N : Nat}  (x0 : Nat) (x1 : Nat) (x2 : Nat) (hx0 : (11, x0) ∈ ids) (hx1 : (1, x1) ∈ ids) (hx2 : (7, x2) ∈ ids) {z : St} {H : Heap} {locs : List Loc} {ls : Array Slot} (hr : zRep D cy B ids A s.heap z H locs) (hl : lv_has ls 3 [(0, .ref (B 11 x0)), (1, .ref (B 1 x1)), (2, .ref (B 7 x2))]) (h : fX11_errorCame N x0 x1 x2 z = some (r, z')) : W p l e rmX11_errorCame s m args below meth c H locs 0 0 Q (F0 m 0 ls []) := by
  unfold fX11_errorCame at h
  refine lv_aload_n F.1 F.2.1 dX11_errorCame_0 rfl (lv_at hl 1 rfl) ?_
  refine gf11_439 F hx1 hr dX11_errorCame_1 ?_
  refine lv_bipush (v := (7 : Int32)) F.1 F.2.1 dX11_errorCame_4 (by decide) ?_
  refine lv_dup2_11 F.1 F.2.1 dX11_errorCame_6 rfl rfl ?_
  replace h := zk_some h
  obtain ⟨c1, h⟩ := h
  refine zr_iald (k := 113) (by decide) rfl (by decide) F (zal_a F hx1 (j := 4) rfl) hr dX11_errorCame_7 c1 ?_
  refine lv_iconst (v := (1 : Int32)) F.1 F.2.1 dX11_errorCame_8 (by decide) ?_
  refine lv_iadd F.1 F.2.1 dX11_errorCame_9 ?_
  replace h := zk_some h
  obtain ⟨c2, h⟩ := h
  refine zr_iast (k := 113) (by decide) rfl (by decide) F (zal_a F hx1 (j := 4) rfl) hr dX11_errorCame_10 c2 (fun H locs z3 ez3 hr => ?_)
  replace h := zl_sub ez3 h
  clear ez3
  refine lv_aload_n F.1 F.2.1 dX11_errorCame_11 rfl (lv_at hl 1 rfl) ?_
  refine gf11_109 F hx1 hr dX11_errorCame_12 ?_
  refine lv_if_ne (tgt := 52) F.1 F.2.1 dX11_errorCame_15 (by decide) (fun c4 => ?_) (fun c4 => ?_)
  · replace h := zi_t c4 h
    obtain ⟨rfl, rfl⟩ := zret h
    exact E _ _ _ _ dX11_errorCame_52 trivial hr
  · replace h := zi_f (fun q => q c4) h
    refine lv_aload_n F.1 F.2.1 dX11_errorCame_18 rfl (lv_at hl 1 rfl) ?_
    refine lv_aload_n F.1 F.2.1 dX11_errorCame_19 rfl (lv_at hl 2 rfl) ?_
    refine lv_iconst (v := (0 : Int32)) F.1 F.2.1 dX11_errorCame_20 (by decide) ?_
    replace h := zc_some h
    obtain ⟨r5, z6, hc7, h⟩ := h
    refine zr_calli (zrun_VN (As := [.int (0 : Int32)]) (rest := [.ref (B 1 x1)]) zn_1132 zq_1134 zs_X7_get4 zq_1135 zq_2 hdX7_get4 (by decide) (T := TX7) (N := 20) rfl (okX7_get4 l D cy B ids hst N x2 hx2 (0 : Int32)  hr.2.2 hc7) F hr hx2 hl.1 rfl (Nat.le_of_ble_eq_true rfl) dX11_errorCame_21 rfl rfl hroX11_errorCame_X7_get4 ⟨Nat.zero_le _, Nat.zero_le _⟩) F hA hr (fun H locs hw8 hr => ?_)
    clear hc7
    replace h := zc_some h
    obtain ⟨r9, z10, hc11, h⟩ := h
    refine zr_calli (zrun_VN (As := [.int r5]) (rest := []) zn_1090 zq_1092 zs_X1_hasAddress zq_1093 zq_9 hdX1_hasAddress (by decide) (T := TX1) (N := 13) rfl (okX1_hasAddress l D cy B ids hst N x1 hx1 r5  hr.2.2 hc11) F hr hx1 hl.1 rfl (by decide) dX11_errorCame_24 rfl rfl hroX11_errorCame_X1_hasAddress ⟨Nat.zero_le _, Nat.zero_le _⟩) F hA hr (fun H locs hw12 hr => ?_)
    clear hc11
    refine lv_if_eq (tgt := 52) F.1 F.2.1 dX11_errorCame_27 (by decide) (fun c13 => ?_) (fun c13 => ?_)
    · replace h := zi_t c13 h
      obtain ⟨rfl, rfl⟩ := zret h
      exact E _ _ _ _ dX11_errorCame_52 trivial hr
    · replace h := zi_f c13 h
      refine lv_aload_n F.1 F.2.1 dX11_errorCame_30 rfl (lv_at hl 0 rfl) ?_
      refine lv_aload_n F.1 F.2.1 dX11_errorCame_31 rfl (lv_at hl 1 rfl) ?_
      refine lv_aload_n F.1 F.2.1 dX11_errorCame_32 rfl (lv_at hl 2 rfl) ?_
      refine lv_iconst (v := (4 : Int32)) F.1 F.2.1 dX11_errorCame_33 (by decide) ?_
      replace h := zc_some h
      obtain ⟨r14, z15, hc16, h⟩ := h
      refine zr_calli (zrun_VN (As := [.int (4 : Int32)]) (rest := [.ref (B 1 x1), .ref (B 11 x0)]) zn_1132 zq_1134 zs_X7_get4 zq_1135 zq_2 hdX7_get4 (by decide) (T := TX7) (N := 20) rfl (okX7_get4 l D cy B ids hst N x2 hx2 (4 : Int32)  hr.2.2 hc16) F hr hx2 hl.1 rfl (Nat.le_of_ble_eq_true rfl) dX11_errorCame_34 rfl rfl hroX11_errorCame_X7_get4 ⟨Nat.zero_le _, Nat.zero_le _⟩) F hA hr (fun H locs hw17 hr => ?_)
      clear hc16
      refine lv_aload_n F.1 F.2.1 dX11_errorCame_37 rfl (lv_at hl 2 rfl) ?_
      refine lv_bipush (v := (8 : Int32)) F.1 F.2.1 dX11_errorCame_38 (by decide) ?_
      replace h := zc_some h
      obtain ⟨r18, z19, hc20, h⟩ := h
      refine zr_calli (zrun_VN (As := [.int (8 : Int32)]) (rest := [.int r14, .ref (B 1 x1), .ref (B 11 x0)]) zn_1140 zq_1138 zs_X7_get2 zq_1139 zq_2 hdX7_get2 (by decide) (T := TX7) (N := 20) rfl (okX7_get2 l D cy B ids hst N x2 hx2 (8 : Int32)  hr.2.2 hc20) F hr hx2 hl.1 rfl (Nat.le_of_ble_eq_true rfl) dX11_errorCame_40 rfl rfl hroX11_errorCame_X7_get2 ⟨Nat.zero_le _, Nat.zero_le _⟩) F hA hr (fun H locs hw21 hr => ?_)
      clear hc20
      refine lv_aload_n F.1 F.2.1 dX11_errorCame_43 rfl (lv_at hl 2 rfl) ?_
      refine lv_bipush (v := (10 : Int32)) F.1 F.2.1 dX11_errorCame_44 (by decide) ?_
      replace h := zc_some h
      obtain ⟨r22, z23, hc24, h⟩ := h
      refine zr_calli (zrun_VN (As := [.int (10 : Int32)]) (rest := [.int r18, .int r14, .ref (B 1 x1), .ref (B 11 x0)]) zn_1140 zq_1138 zs_X7_get2 zq_1139 zq_2 hdX7_get2 (by decide) (T := TX7) (N := 20) rfl (okX7_get2 l D cy B ids hst N x2 hx2 (10 : Int32)  hr.2.2 hc24) F hr hx2 hl.1 rfl (Nat.le_of_ble_eq_true rfl) dX11_errorCame_46 rfl rfl hroX11_errorCame_X7_get2 ⟨Nat.zero_le _, Nat.zero_le _⟩) F hA hr (fun H locs hw25 hr => ?_)
      clear hc24
      replace h := zc_some h
      obtain ⟨r26, z27, hc28, h⟩ := h
      refine zr_callv (zrun_V (As := [.ref (B 1 x1), .int r14, .int r18, .int r22]) (rest := []) zq_1141 zq_1143 zs_X11_abortAsking zq_1144 zq_1 hdX11_abortAsking (by decide) (T := TX11) (N := 21) rfl (okX11_abortAsking l D cy B ids hst N x0 hx0 x1 hx1 r14  r18  r22  hr.2.2 hc28) F hr hx0 hl.1 rfl (by decide) dX11_errorCame_49 rfl rfl hroX11_errorCame_X11_abortAsking ⟨Nat.zero_le _, Nat.zero_le _⟩) F hA hr (fun H locs hw29 hr => ?_)
      clear hc28
      obtain ⟨rfl, rfl⟩ := zret h
      exact E _ _ _ _ dX11_errorCame_52 trivial hr
end SX11_errorCame
set_option maxRecDepth 100000 in
theorem okX11_errorCame (l : Launch) (D : va_G) (cy : Nat → ClassId) (B : Nat → Nat → Nat) (ids : List (Nat × Nat)) (hst : zSt B ids) (N : Nat) (x0 : Nat) (hx0 : (11, x0) ∈ ids) (x1 : Nat) (hx1 : (1, x1) ∈ ids) (x2 : Nat) (hx2 : (7, x2) ∈ ids) {z : St} {r : Int32} {z' : St} (hW : zWf ids z) (h : fX11_errorCame N x0 x1 x2 z = some (r, z')) : zM l yX11_errorCame (zws yX11_errorCame cX11_errorCame 3 none) rmX11_errorCame D cy B ids [.ref (B 11 x0), .ref (B 1 x1), .ref (B 7 x2)] none True z z' :=
  zM_of hst hW (by decide +kernel) (Nat.le_of_ble_eq_true rfl) (fun p e s m args below meth c A ls F hA hret hlocks hr hl => bX11_errorCame_0 hst F hA (zEnd_v F hret hlocks) x0 x1 x2 hx0 hx1 hx2 hr hl h)
abbrev rmX11_putTogether : Room := { frames := 3, cells := 0, slots := 0, locals := 108 }
theorem hdX11_putTogether : yX11_putTogether.cls ≠ "java/lang/invoke/MethodHandle" ∧ yX11_putTogether.cls ≠ "java/lang/invoke/VarHandle" ∧ (parseMethodDescriptor yX11_putTogether.desc).map (fun d => d.parameters.length) = some 2 := by decide +kernel
theorem hroX11_putTogether_X11_stir : rmX11_stir.frames + 1 ≤ rmX11_putTogether.frames ∧ 8 + (1 + 11) + rmX11_stir.locals ≤ rmX11_putTogether.locals := by decide
theorem hroX11_putTogether_X1_addPiece : rmX1_addPiece.frames + 1 ≤ rmX11_putTogether.frames ∧ 8 + (7 + 11) + rmX1_addPiece.locals ≤ rmX11_putTogether.locals := by decide
theorem hroX11_putTogether_X1_beginPartial : rmX1_beginPartial.frames + 1 ≤ rmX11_putTogether.frames ∧ 8 + (6 + 11) + rmX1_beginPartial.locals ≤ rmX11_putTogether.locals := by decide
theorem hroX11_putTogether_X1_earliestPartial : rmX1_earliestPartial.frames + 1 ≤ rmX11_putTogether.frames ∧ 8 + (3 + 11) + rmX1_earliestPartial.locals ≤ rmX11_putTogether.locals := by decide
theorem hroX11_putTogether_X1_emptyPartial : rmX1_emptyPartial.frames + 1 ≤ rmX11_putTogether.frames ∧ 8 + (2 + 11) + rmX1_emptyPartial.locals ≤ rmX11_putTogether.locals := by decide
theorem hroX11_putTogether_X1_partialFor : rmX1_partialFor.frames + 1 ≤ rmX11_putTogether.frames ∧ 8 + (4 + 11) + rmX1_partialFor.locals ≤ rmX11_putTogether.locals := by decide
section SX11_putTogether
variable {p : Program} {l : Launch} {e : Env} {s : State} {m : MethodId} {args : Array Value} {below : List Frame} {meth : Method} {c : Code} {Q : State → Prop} {D : va_G} {cy : Nat → ClassId} {B : Nat → Nat → Nat} {ids : List (Nat × Nat)} {A : Nat → Prop}
def fX11_putTogether_51 (N : Nat)  (x1 : Nat) (x2 : Nat) (x3 : Int32) (z : St) : Option (Option Nat × St) := zc (fX1_addPiece N x1 x3 x2 z) fun r1 z2 => if ¬ r1 = 0 then (zk x3 4 <| zl (zsA z2 118 x1 (Int32.toNatClampNeg x3) (0 : Int32)) fun z7 => zk (6 : Int32) 8 <| zk (6 : Int32) 8 <| zl (zsA z7 113 x1 (Int32.toNatClampNeg (6 : Int32)) ((zgA z7 113 x1 (Int32.toNatClampNeg (6 : Int32))) + (1 : Int32))) fun z10 => zk x3 4 <| zl (zgQ z10 114 x1 (Int32.toNatClampNeg x3)) fun y12 => some (y12, z10)) else (some (none, z2))
set_option maxHeartbeats 4000000 in
set_option maxRecDepth 100000 in
theorem bX11_putTogether_51 (hst : zSt B ids) (F : zFx p m c cX11_putTogether 4 s args RX11 D cy B ids A) (hA : ∀ q : Nat, s.heap.size ≤ q → A q) {r : Option Nat} {z' : St} (E : zEnd p l e rmX11_putTogether s m args below meth c cX11_putTogether D cy B ids A Q (some (va_rf (r.map (B 7)))) z' .areturn (∀ i, r = some i → (7, i) ∈ ids)) {N : Nat}  (x1 : Nat) (x2 : Nat) (x3 : Int32) (hx1 : (1, x1) ∈ ids) (hx2 : (7, x2) ∈ ids) {z : St} {H : Heap} {locs : List Loc} {ls : Array Slot} (hr : zRep D cy B ids A s.heap z H locs) (hl : lv_has ls 4 [(1, .ref (B 1 x1)), (2, .ref (B 7 x2)), (3, .int x3)]) (h : fX11_putTogether_51 N x1 x2 x3 z = some (r, z')) : W p l e rmX11_putTogether s m args below meth c H locs 0 0 Q (F0 m 51 ls []) := by
  unfold fX11_putTogether_51 at h
  refine lv_aload_n F.1 F.2.1 dX11_putTogether_51 rfl (lv_at hl 0 rfl) ?_
  refine lv_iload_n F.1 F.2.1 dX11_putTogether_52 rfl (lv_at hl 2 rfl) ?_
  refine lv_aload_n F.1 F.2.1 dX11_putTogether_53 rfl (lv_at hl 1 rfl) ?_
  replace h := zc_some h
  obtain ⟨r1, z2, hc3, h⟩ := h
  refine zr_calli (zrun_VN (As := [.int x3, .ref (B 7 x2)]) (rest := []) zn_1115 zq_1117 zs_X1_addPiece zq_1118 zq_9 hdX1_addPiece (by decide) (T := TX1) (N := 13) rfl (okX1_addPiece l D cy B ids hst N x1 hx1 x3  x2 hx2 hr.2.2 hc3) F hr hx1 hl.1 rfl (by decide) dX11_putTogether_54 rfl rfl hroX11_putTogether_X1_addPiece ⟨Nat.zero_le _, Nat.zero_le _⟩) F hA hr (fun H locs hw4 hr => ?_)
  clear hc3
  refine lv_if_ne (tgt := 62) F.1 F.2.1 dX11_putTogether_57 (by decide) (fun c5 => ?_) (fun c5 => ?_)
  · replace h := zi_t c5 h
    refine lv_aload_n F.1 F.2.1 dX11_putTogether_62 rfl (lv_at hl 0 rfl) ?_
    refine gf11_646 F hx1 hr dX11_putTogether_63 ?_
    refine lv_iload_n F.1 F.2.1 dX11_putTogether_66 rfl (lv_at hl 2 rfl) ?_
    refine lv_iconst (v := (0 : Int32)) F.1 F.2.1 dX11_putTogether_67 (by decide) ?_
    replace h := zk_some h
    obtain ⟨c6, h⟩ := h
    refine zr_iast (k := 118) (by decide) rfl (by decide) F (zal_a F hx1 (j := 8) rfl) hr dX11_putTogether_68 c6 (fun H locs z7 ez7 hr => ?_)
    replace h := zl_sub ez7 h
    clear ez7
    refine lv_aload_n F.1 F.2.1 dX11_putTogether_69 rfl (lv_at hl 0 rfl) ?_
    refine gf11_439 F hx1 hr dX11_putTogether_70 ?_
    refine lv_bipush (v := (6 : Int32)) F.1 F.2.1 dX11_putTogether_73 (by decide) ?_
    refine lv_dup2_11 F.1 F.2.1 dX11_putTogether_75 rfl rfl ?_
    replace h := zk_some h
    obtain ⟨c8, h⟩ := h
    refine zr_iald (k := 113) (by decide) rfl (by decide) F (zal_a F hx1 (j := 4) rfl) hr dX11_putTogether_76 c8 ?_
    refine lv_iconst (v := (1 : Int32)) F.1 F.2.1 dX11_putTogether_77 (by decide) ?_
    refine lv_iadd F.1 F.2.1 dX11_putTogether_78 ?_
    replace h := zk_some h
    obtain ⟨c9, h⟩ := h
    refine zr_iast (k := 113) (by decide) rfl (by decide) F (zal_a F hx1 (j := 4) rfl) hr dX11_putTogether_79 c9 (fun H locs z10 ez10 hr => ?_)
    replace h := zl_sub ez10 h
    clear ez10
    refine lv_aload_n F.1 F.2.1 dX11_putTogether_80 rfl (lv_at hl 0 rfl) ?_
    refine gf11_649 F hx1 hr dX11_putTogether_81 ?_
    refine lv_iload_n F.1 F.2.1 dX11_putTogether_84 rfl (lv_at hl 2 rfl) ?_
    replace h := zk_some h
    obtain ⟨c11, h⟩ := h
    refine zr_aaldv (k := 114) (by decide) rfl rfl (zlen_d (by decide)) F (zal_a F hx1 (j := 5) rfl) hr dX11_putTogether_85 c11 (fun y12 ey12 => ?_)
    replace h := zl_sub ey12 h
    have hy12 := zal_q hr (zal_a F hx1 (j := 5) rfl) rfl ey12
    clear ey12
    obtain ⟨rfl, rfl⟩ := zret h
    exact E _ _ _ _ dX11_putTogether_86 hy12 hr
  · replace h := zi_f (fun q => q c5) h
    refine lv_null F.1 F.2.1 dX11_putTogether_60 ?_
    obtain ⟨rfl, rfl⟩ := zret h
    exact E _ _ _ _ dX11_putTogether_61 zal_0 hr
def fX11_putTogether_41 (N : Nat)  (x0 : Nat) (x1 : Nat) (x2 : Nat) (x3 : Int32) (z : St) : Option (Option Nat × St) := zc (fX1_beginPartial N x1 x3 x2 (zgI z 11 4 x0) z) fun _ z2 => fX11_putTogether_51 N x1 x2 x3 z2
set_option maxHeartbeats 4000000 in
set_option maxRecDepth 100000 in
theorem bX11_putTogether_41 (hst : zSt B ids) (F : zFx p m c cX11_putTogether 4 s args RX11 D cy B ids A) (hA : ∀ q : Nat, s.heap.size ≤ q → A q) {r : Option Nat} {z' : St} (E : zEnd p l e rmX11_putTogether s m args below meth c cX11_putTogether D cy B ids A Q (some (va_rf (r.map (B 7)))) z' .areturn (∀ i, r = some i → (7, i) ∈ ids)) {N : Nat}  (x0 : Nat) (x1 : Nat) (x2 : Nat) (x3 : Int32) (hx0 : (11, x0) ∈ ids) (hx1 : (1, x1) ∈ ids) (hx2 : (7, x2) ∈ ids) {z : St} {H : Heap} {locs : List Loc} {ls : Array Slot} (hr : zRep D cy B ids A s.heap z H locs) (hl : lv_has ls 4 [(0, .ref (B 11 x0)), (1, .ref (B 1 x1)), (2, .ref (B 7 x2)), (3, .int x3)]) (h : fX11_putTogether_41 N x0 x1 x2 x3 z = some (r, z')) : W p l e rmX11_putTogether s m args below meth c H locs 0 0 Q (F0 m 41 ls []) := by
  unfold fX11_putTogether_41 at h
  refine lv_aload_n F.1 F.2.1 dX11_putTogether_41 rfl (lv_at hl 1 rfl) ?_
  refine lv_iload_n F.1 F.2.1 dX11_putTogether_42 rfl (lv_at hl 3 rfl) ?_
  refine lv_aload_n F.1 F.2.1 dX11_putTogether_43 rfl (lv_at hl 2 rfl) ?_
  refine lv_aload_n F.1 F.2.1 dX11_putTogether_44 rfl (lv_at hl 0 rfl) ?_
  refine gf11_176 F hx0 hr dX11_putTogether_45 ?_
  replace h := zc_some h
  obtain ⟨r1, z2, hc3, h⟩ := h
  refine zr_callv (zrun_VN (As := [.int x3, .ref (B 7 x2), .int (zgI z 11 4 x0)]) (rest := []) zn_1110 zq_1112 zs_X1_beginPartial zq_1113 zq_9 hdX1_beginPartial (by decide) (T := TX1) (N := 13) rfl (okX1_beginPartial l D cy B ids hst N x1 hx1 x3  x2 hx2 (zgI z 11 4 x0)  hr.2.2 hc3) F hr hx1 hl.1 rfl (by decide) dX11_putTogether_48 rfl rfl hroX11_putTogether_X1_beginPartial ⟨Nat.zero_le _, Nat.zero_le _⟩) F hA hr (fun H locs hw4 hr => ?_)
  clear hc3
  exact bX11_putTogether_51 hst F hA E  x1 x2 x3 hx1 hx2 hr (lv_sub hl [1, 2, 3] rfl) h
def fX11_putTogether (N : Nat)  (x0 : Nat) (x1 : Nat) (x2 : Nat) (z : St) : Option (Option Nat × St) := if (zgI z 7 6 x2) < (zgI z 7 7 x2) then (zc (fX1_partialFor N x1 x2 z) fun r2 z3 => if 0 ≤ r2 then (fX11_putTogether_51 N x1 x2 r2 z3) else (zc (fX1_emptyPartial N x1 z3) fun r7 z8 => if 0 ≤ r7 then (fX11_putTogether_41 N x0 x1 x2 r7 z8) else (zc (fX1_earliestPartial N x1 z8) fun r12 z13 => zc (fX11_stir N x0 z13) fun _ z17 => fX11_putTogether_41 N x0 x1 x2 r12 z17))) else (some ((some x2), z))
set_option maxHeartbeats 4000000 in
set_option maxRecDepth 100000 in
theorem bX11_putTogether_0 (hst : zSt B ids) (F : zFx p m c cX11_putTogether 4 s args RX11 D cy B ids A) (hA : ∀ q : Nat, s.heap.size ≤ q → A q) {r : Option Nat} {z' : St} (E : zEnd p l e rmX11_putTogether s m args below meth c cX11_putTogether D cy B ids A Q (some (va_rf (r.map (B 7)))) z' .areturn (∀ i, r = some i → (7, i) ∈ ids)) {N : Nat}  (x0 : Nat) (x1 : Nat) (x2 : Nat) (hx0 : (11, x0) ∈ ids) (hx1 : (1, x1) ∈ ids) (hx2 : (7, x2) ∈ ids) {z : St} {H : Heap} {locs : List Loc} {ls : Array Slot} (hr : zRep D cy B ids A s.heap z H locs) (hl : lv_has ls 4 [(0, .ref (B 11 x0)), (1, .ref (B 1 x1)), (2, .ref (B 7 x2))]) (h : fX11_putTogether N x0 x1 x2 z = some (r, z')) : W p l e rmX11_putTogether s m args below meth c H locs 0 0 Q (F0 m 0 ls []) := by
  unfold fX11_putTogether at h
  refine lv_aload_n F.1 F.2.1 dX11_putTogether_0 rfl (lv_at hl 2 rfl) ?_
  refine gf11_528 F hx2 hr dX11_putTogether_1 ?_
  refine lv_aload_n F.1 F.2.1 dX11_putTogether_4 rfl (lv_at hl 2 rfl) ?_
  refine gf11_625 F hx2 hr dX11_putTogether_5 ?_
  refine lv_icmp_lt (tgt := 13) F.1 F.2.1 dX11_putTogether_8 (by decide) (fun c1 => ?_) (fun c1 => ?_)
  · replace h := zi_t c1 h
    refine lv_aload_n F.1 F.2.1 dX11_putTogether_13 rfl (lv_at hl 1 rfl) ?_
    refine lv_aload_n F.1 F.2.1 dX11_putTogether_14 rfl (lv_at hl 2 rfl) ?_
    replace h := zc_some h
    obtain ⟨r2, z3, hc4, h⟩ := h
    refine zr_calli (zrun_VN (As := [.ref (B 7 x2)]) (rest := []) zn_1098 zq_1100 zs_X1_partialFor zq_1101 zq_9 hdX1_partialFor (by decide) (T := TX1) (N := 13) rfl (okX1_partialFor l D cy B ids hst N x1 hx1 x2 hx2 hr.2.2 hc4) F hr hx1 hl.1 rfl (by decide) dX11_putTogether_15 rfl rfl hroX11_putTogether_X1_partialFor ⟨Nat.zero_le _, Nat.zero_le _⟩) F hA hr (fun H locs hw5 hr => ?_)
    clear hc4
    refine lv_istore_n (lv' := [(3, .int r2), (0, .ref (B 11 x0)), (1, .ref (B 1 x1)), (2, .ref (B 7 x2))]) F.1 F.2.1 dX11_putTogether_18 rfl hl (by decide) rfl (fun ls hl => ?_)
    refine lv_iload_n F.1 F.2.1 dX11_putTogether_19 rfl (lv_at hl 0 rfl) ?_
    refine lv_if_ge (tgt := 51) F.1 F.2.1 dX11_putTogether_20 (by decide) (fun c6 => ?_) (fun c6 => ?_)
    · replace h := zi_t c6 h
      exact bX11_putTogether_51 hst F hA E  x1 x2 r2 hx1 hx2 hr (lv_sub hl [2, 3, 0] rfl) h
    · replace h := zi_f c6 h
      refine lv_aload_n F.1 F.2.1 dX11_putTogether_23 rfl (lv_at hl 2 rfl) ?_
      replace h := zc_some h
      obtain ⟨r7, z8, hc9, h⟩ := h
      refine zr_calli (zrun_VN (As := []) (rest := []) zn_1102 zq_1104 zs_X1_emptyPartial zq_1105 zq_9 hdX1_emptyPartial (by decide) (T := TX1) (N := 13) rfl (okX1_emptyPartial l D cy B ids hst N x1 hx1 hr.2.2 hc9) F hr hx1 hl.1 rfl (by decide) dX11_putTogether_24 rfl rfl hroX11_putTogether_X1_emptyPartial ⟨Nat.zero_le _, Nat.zero_le _⟩) F hA hr (fun H locs hw10 hr => ?_)
      clear hc9
      refine lv_istore_n (lv' := [(3, .int r7), (0, .ref (B 11 x0)), (1, .ref (B 1 x1)), (2, .ref (B 7 x2))]) F.1 F.2.1 dX11_putTogether_27 rfl hl (by decide) rfl (fun ls hl => ?_)
      refine lv_iload_n F.1 F.2.1 dX11_putTogether_28 rfl (lv_at hl 0 rfl) ?_
      refine lv_if_ge (tgt := 41) F.1 F.2.1 dX11_putTogether_29 (by decide) (fun c11 => ?_) (fun c11 => ?_)
      · replace h := zi_t c11 h
        exact bX11_putTogether_41 hst F hA E  x0 x1 x2 r7 hx0 hx1 hx2 hr (lv_sub hl [1, 2, 3, 0] rfl) h
      · replace h := zi_f c11 h
        refine lv_aload_n F.1 F.2.1 dX11_putTogether_32 rfl (lv_at hl 2 rfl) ?_
        replace h := zc_some h
        obtain ⟨r12, z13, hc14, h⟩ := h
        refine zr_calli (zrun_VN (As := []) (rest := []) zn_1106 zq_1108 zs_X1_earliestPartial zq_1109 zq_9 hdX1_earliestPartial (by decide) (T := TX1) (N := 13) rfl (okX1_earliestPartial l D cy B ids hst N x1 hx1 hr.2.2 hc14) F hr hx1 hl.1 rfl (by decide) dX11_putTogether_33 rfl rfl hroX11_putTogether_X1_earliestPartial ⟨Nat.zero_le _, Nat.zero_le _⟩) F hA hr (fun H locs hw15 hr => ?_)
        clear hc14
        refine lv_istore_n (lv' := [(3, .int r12), (0, .ref (B 11 x0)), (1, .ref (B 1 x1)), (2, .ref (B 7 x2))]) F.1 F.2.1 dX11_putTogether_36 rfl hl (by decide) rfl (fun ls hl => ?_)
        refine lv_aload_n F.1 F.2.1 dX11_putTogether_37 rfl (lv_at hl 1 rfl) ?_
        replace h := zc_some h
        obtain ⟨r16, z17, hc18, h⟩ := h
        refine zr_callv (zrun_V (As := []) (rest := []) zq_858 zq_860 zs_X11_stir zq_861 zq_1 hdX11_stir (by decide) (T := TX11) (N := 21) rfl (okX11_stir l D cy B ids hst N x0 hx0 hr.2.2 hc18) F hr hx0 hl.1 rfl (by decide) dX11_putTogether_38 rfl rfl hroX11_putTogether_X11_stir ⟨Nat.zero_le _, Nat.zero_le _⟩) F hA hr (fun H locs hw19 hr => ?_)
        clear hc18
        exact bX11_putTogether_41 hst F hA E  x0 x1 x2 r12 hx0 hx1 hx2 hr (lv_sub hl [1, 2, 3, 0] rfl) h
  · replace h := zi_f c1 h
    refine lv_aload_n F.1 F.2.1 dX11_putTogether_11 rfl (lv_at hl 2 rfl) ?_
    obtain ⟨rfl, rfl⟩ := zret h
    exact E _ _ _ _ dX11_putTogether_12 (zal_s hx2) hr
end SX11_putTogether
set_option maxRecDepth 100000 in
theorem okX11_putTogether (l : Launch) (D : va_G) (cy : Nat → ClassId) (B : Nat → Nat → Nat) (ids : List (Nat × Nat)) (hst : zSt B ids) (N : Nat) (x0 : Nat) (hx0 : (11, x0) ∈ ids) (x1 : Nat) (hx1 : (1, x1) ∈ ids) (x2 : Nat) (hx2 : (7, x2) ∈ ids) {z : St} {r : Option Nat} {z' : St} (hW : zWf ids z) (h : fX11_putTogether N x0 x1 x2 z = some (r, z')) : zM l yX11_putTogether (zws yX11_putTogether cX11_putTogether 4 (some (.object "WholeInternet$Parcel"))) rmX11_putTogether D cy B ids [.ref (B 11 x0), .ref (B 1 x1), .ref (B 7 x2)] (some (va_rf (r.map (B 7)))) (∀ i, r = some i → (7, i) ∈ ids) z z' :=
  zM_of hst hW (by decide +kernel) (Nat.le_of_ble_eq_true rfl) (fun p e s m args below meth c A ls F hA hret hlocks hr hl => bX11_putTogether_0 hst F hA (zEnd_r F hret hlocks) x0 x1 x2 hx0 hx1 hx2 hr hl h)
abbrev rmX11_senderKey : Room := { frames := 2, cells := 0, slots := 0, locals := 45 }
theorem hdX11_senderKey : yX11_senderKey.cls ≠ "java/lang/invoke/MethodHandle" ∧ yX11_senderKey.cls ≠ "java/lang/invoke/VarHandle" ∧ (parseMethodDescriptor yX11_senderKey.desc).map (fun d => d.parameters.length) = some 2 := by decide +kernel
theorem hroX11_senderKey_X11_keyOf : rmX11_keyOf.frames + 1 ≤ rmX11_senderKey.frames ∧ 8 + (2 + 11) + rmX11_keyOf.locals ≤ rmX11_senderKey.locals := by decide
theorem hroX11_senderKey_X11_portOfAddress : rmX11_portOfAddress.frames + 1 ≤ rmX11_senderKey.frames ∧ 8 + (4 + 11) + rmX11_portOfAddress.locals ≤ rmX11_senderKey.locals := by decide
section SX11_senderKey
variable {p : Program} {l : Launch} {e : Env} {s : State} {m : MethodId} {args : Array Value} {below : List Frame} {meth : Method} {c : Code} {Q : State → Prop} {D : va_G} {cy : Nat → ClassId} {B : Nat → Nat → Nat} {ids : List (Nat × Nat)} {A : Nat → Prop}
def fX11_senderKey (N : Nat)  (x0 : Nat) (x1 : Nat) (x2 : Nat) (z : St) : Option (Int32 × St) := zc (fX11_portOfAddress N x0 (zgI z 7 0 x2) z) fun r1 z2 => zo r1 (some ((-1 : Int32), z2)) fun a6 => zl (zgR z2 8 1 a6) fun y7 => zl (zgR z2 8 1 x1) fun y8 => if ¬ y7 = y8 then (some ((-1 : Int32), z2)) else (zl (zgR z2 8 0 a6) fun y10 => zd y10 fun a11 => if ¬ (zgI z2 1 1 a11) = 0 then (zl (zgR z2 8 0 a6) fun y13 => zl (zgR z2 8 0 x1) fun y14 => if ¬ y13 = y14 then (zl (zgR z2 8 0 a6) fun y16 => zd y16 fun a17 => zc (fX11_keyOf N x1 (zgI z2 1 0 a17) z2) fun r18 z19 => some (r18, z19)) else (some ((-1 : Int32), z2))) else (some ((-1 : Int32), z2)))
set_option maxHeartbeats 4000000 in
set_option maxRecDepth 100000 in
theorem bX11_senderKey_0 (hst : zSt B ids) (F : zFx p m c cX11_senderKey 4 s args RX11 D cy B ids A) (hA : ∀ q : Nat, s.heap.size ≤ q → A q) {r : Int32} {z' : St} (E : zEnd p l e rmX11_senderKey s m args below meth c cX11_senderKey D cy B ids A Q (some (.int r)) z' .ireturn True) {N : Nat}  (x0 : Nat) (x1 : Nat) (x2 : Nat) (hx0 : (11, x0) ∈ ids) (hx1 : (8, x1) ∈ ids) (hx2 : (7, x2) ∈ ids) {z : St} {H : Heap} {locs : List Loc} {ls : Array Slot} (hr : zRep D cy B ids A s.heap z H locs) (hl : lv_has ls 4 [(0, .ref (B 11 x0)), (1, .ref (B 8 x1)), (2, .ref (B 7 x2))]) (h : fX11_senderKey N x0 x1 x2 z = some (r, z')) : W p l e rmX11_senderKey s m args below meth c H locs 0 0 Q (F0 m 0 ls []) := by
  unfold fX11_senderKey at h
  refine lv_aload_n F.1 F.2.1 dX11_senderKey_0 rfl (lv_at hl 0 rfl) ?_
  refine lv_aload_n F.1 F.2.1 dX11_senderKey_1 rfl (lv_at hl 2 rfl) ?_
  refine gf11_535 F hx2 hr dX11_senderKey_2 ?_
  replace h := zc_some h
  obtain ⟨r1, z2, hc3, h⟩ := h
  refine zr_callr (zrun_V (As := [.int (zgI z 7 0 x2)]) (rest := []) zq_314 zq_316 zs_X11_portOfAddress zq_317 zq_1 hdX11_portOfAddress (by decide) (T := TX11) (N := 21) rfl (okX11_portOfAddress l D cy B ids hst N x0 hx0 (zgI z 7 0 x2)  hr.2.2 hc3) F hr hx0 hl.1 rfl (by decide) dX11_senderKey_5 rfl rfl hroX11_senderKey_X11_portOfAddress ⟨Nat.zero_le _, Nat.zero_le _⟩) F hA hr (fun H locs hw4 hr => ?_)
  clear hc3
  refine zr_astore_n (lv' := [(3, va_rf (Option.map (B 8) r1)), (0, .ref (B 11 x0)), (1, .ref (B 8 x1)), (2, .ref (B 7 x2))]) F.1 F.2.1 dX11_senderKey_8 rfl hl (by decide) rfl (fun ls hl => ?_)
  refine zr_aload_n F.1 F.2.1 dX11_senderKey_9 rfl (lv_at hl 0 rfl) ?_
  refine zr_ifnull (tgt := 34) F.1 F.2.1 dX11_senderKey_10 (by decide) (fun e5 => ?_) (fun a6 e5 => ?_)
  · replace h := zo_n e5 h
    subst e5
    refine lv_iconst (v := (-1 : Int32)) F.1 F.2.1 dX11_senderKey_34 (by decide) ?_
    obtain ⟨rfl, rfl⟩ := zret h
    exact E _ _ _ _ dX11_senderKey_35 trivial hr
  · replace h := zo_s e5 h
    subst e5
    refine lv_aload_n F.1 F.2.1 dX11_senderKey_13 rfl (lv_at hl 0 rfl) ?_
    refine gf11_261 F (hw4 _ rfl) hr dX11_senderKey_14 (fun y7 ey7 => ?_)
    replace h := zl_sub ey7 h
    have hy7 := zal_g hr (hw4 _ rfl) (j := 1) rfl ey7
    clear ey7
    refine lv_aload_n F.1 F.2.1 dX11_senderKey_17 rfl (lv_at hl 2 rfl) ?_
    refine gf11_261 F hx1 hr dX11_senderKey_18 (fun y8 ey8 => ?_)
    replace h := zl_sub ey8 h
    have hy8 := zal_g hr hx1 (j := 1) rfl ey8
    clear ey8
    refine zr_acmp_ne hst (k := 5) (x := y7) (y := y8) (tgt := 34) F.1 F.2.1 dX11_senderKey_21 (by decide) hy7 hy8 (fun c9 => ?_) (fun c9 => ?_)
    · replace h := zi_t c9 h
      refine lv_iconst (v := (-1 : Int32)) F.1 F.2.1 dX11_senderKey_34 (by decide) ?_
      obtain ⟨rfl, rfl⟩ := zret h
      exact E _ _ _ _ dX11_senderKey_35 trivial hr
    · replace h := zi_f (fun q => q c9) h
      refine lv_aload_n F.1 F.2.1 dX11_senderKey_24 rfl (lv_at hl 0 rfl) ?_
      refine gf11_474 F (hw4 _ rfl) hr dX11_senderKey_25 (fun y10 ey10 => ?_)
      replace h := zl_sub ey10 h
      have hy10 := zal_g hr (hw4 _ rfl) (j := 0) rfl ey10
      clear ey10
      replace h := zd_some h
      obtain ⟨a11, rfl, h⟩ := h
      refine gf11_109 F (hy10 _ rfl) hr dX11_senderKey_28 ?_
      refine lv_if_ne (tgt := 36) F.1 F.2.1 dX11_senderKey_31 (by decide) (fun c12 => ?_) (fun c12 => ?_)
      · replace h := zi_t c12 h
        refine lv_aload_n F.1 F.2.1 dX11_senderKey_36 rfl (lv_at hl 0 rfl) ?_
        refine gf11_474 F (hw4 _ rfl) hr dX11_senderKey_37 (fun y13 ey13 => ?_)
        replace h := zl_sub ey13 h
        have hy13 := zal_g hr (hw4 _ rfl) (j := 0) rfl ey13
        clear ey13
        refine lv_aload_n F.1 F.2.1 dX11_senderKey_40 rfl (lv_at hl 2 rfl) ?_
        refine gf11_474 F hx1 hr dX11_senderKey_41 (fun y14 ey14 => ?_)
        replace h := zl_sub ey14 h
        have hy14 := zal_g hr hx1 (j := 0) rfl ey14
        clear ey14
        refine zr_acmp_ne hst (k := 1) (x := y13) (y := y14) (tgt := 51) F.1 F.2.1 dX11_senderKey_44 (by decide) hy13 hy14 (fun c15 => ?_) (fun c15 => ?_)
        · replace h := zi_t c15 h
          refine lv_aload_n F.1 F.2.1 dX11_senderKey_51 rfl (lv_at hl 2 rfl) ?_
          refine lv_aload_n F.1 F.2.1 dX11_senderKey_52 rfl (lv_at hl 0 rfl) ?_
          refine gf11_474 F (hw4 _ rfl) hr dX11_senderKey_53 (fun y16 ey16 => ?_)
          replace h := zl_sub ey16 h
          have hy16 := zal_g hr (hw4 _ rfl) (j := 0) rfl ey16
          clear ey16
          replace h := zd_some h
          obtain ⟨a17, rfl, h⟩ := h
          refine gf11_484 F (hy16 _ rfl) hr dX11_senderKey_56 ?_
          replace h := zc_some h
          obtain ⟨r18, z19, hc20, h⟩ := h
          refine zr_calli (zrun_S (As := [.ref (B 8 x1), .int (zgI z2 1 0 a17)]) (rest := []) zq_1165 zq_1166 zq_1167 zq_1 hdX11_keyOf (okX11_keyOf l D cy B ids hst N x1 hx1 (zgI z2 1 0 a17)  hr.2.2 hc20) F hr hl.1 rfl (by decide) dX11_senderKey_59 rfl rfl hroX11_senderKey_X11_keyOf ⟨Nat.zero_le _, Nat.zero_le _⟩) F hA hr (fun H locs hw21 hr => ?_)
          clear hc20
          obtain ⟨rfl, rfl⟩ := zret h
          exact E _ _ _ _ dX11_senderKey_62 trivial hr
        · replace h := zi_f (fun q => q c15) h
          refine lv_iconst (v := (-1 : Int32)) F.1 F.2.1 dX11_senderKey_47 (by decide) ?_
          refine lv_goto (tgt := 62) F.1 F.2.1 dX11_senderKey_48 (by decide) ?_
          obtain ⟨rfl, rfl⟩ := zret h
          exact E _ _ _ _ dX11_senderKey_62 trivial hr
      · replace h := zi_f (fun q => q c12) h
        refine lv_iconst (v := (-1 : Int32)) F.1 F.2.1 dX11_senderKey_34 (by decide) ?_
        obtain ⟨rfl, rfl⟩ := zret h
        exact E _ _ _ _ dX11_senderKey_35 trivial hr
end SX11_senderKey
set_option maxRecDepth 100000 in
theorem okX11_senderKey (l : Launch) (D : va_G) (cy : Nat → ClassId) (B : Nat → Nat → Nat) (ids : List (Nat × Nat)) (hst : zSt B ids) (N : Nat) (x0 : Nat) (hx0 : (11, x0) ∈ ids) (x1 : Nat) (hx1 : (8, x1) ∈ ids) (x2 : Nat) (hx2 : (7, x2) ∈ ids) {z : St} {r : Int32} {z' : St} (hW : zWf ids z) (h : fX11_senderKey N x0 x1 x2 z = some (r, z')) : zM l yX11_senderKey (zws yX11_senderKey cX11_senderKey 4 (some .int)) rmX11_senderKey D cy B ids [.ref (B 11 x0), .ref (B 8 x1), .ref (B 7 x2)] (some (.int r)) True z z' :=
  zM_of hst hW (by decide +kernel) (Nat.le_of_ble_eq_true rfl) (fun p e s m args below meth c A ls F hA hret hlocks hr hl => bX11_senderKey_0 hst F hA (zEnd_i F hret hlocks) x0 x1 x2 hx0 hx1 hx2 hr hl h)
abbrev rmX11_takeAdvert : Room := { frames := 3, cells := 0, slots := 0, locals := 87 }
theorem hdX11_takeAdvert : yX11_takeAdvert.cls ≠ "java/lang/invoke/MethodHandle" ∧ yX11_takeAdvert.cls ≠ "java/lang/invoke/VarHandle" ∧ (parseMethodDescriptor yX11_takeAdvert.desc).map (fun d => d.parameters.length) = some 2 := by decide +kernel
theorem hroX11_takeAdvert_X0_takeAdvert : rmX0_takeAdvert.frames + 1 ≤ rmX11_takeAdvert.frames ∧ 8 + (8 + 11) + rmX0_takeAdvert.locals ≤ rmX11_takeAdvert.locals := by decide
theorem hroX11_takeAdvert_X11_senderKey : rmX11_senderKey.frames + 1 ≤ rmX11_takeAdvert.frames ∧ 8 + (4 + 11) + rmX11_senderKey.locals ≤ rmX11_takeAdvert.locals := by decide
theorem hroX11_takeAdvert_X11_stir : rmX11_stir.frames + 1 ≤ rmX11_takeAdvert.frames ∧ 8 + (1 + 11) + rmX11_stir.locals ≤ rmX11_takeAdvert.locals := by decide
theorem hroX11_takeAdvert_X7_get2 : rmX7_get2.frames + 1 ≤ rmX11_takeAdvert.frames ∧ 8 + (2 + 11) + rmX7_get2.locals ≤ rmX11_takeAdvert.locals := by decide
theorem hroX11_takeAdvert_X7_get4 : rmX7_get4.frames + 1 ≤ rmX11_takeAdvert.frames ∧ 8 + (2 + 11) + rmX7_get4.locals ≤ rmX11_takeAdvert.locals := by decide
theorem hroX11_takeAdvert_X9_addThanks : rmX9_addThanks.frames + 1 ≤ rmX11_takeAdvert.frames ∧ 8 + (4 + 11) + rmX9_addThanks.locals ≤ rmX11_takeAdvert.locals := by decide
theorem hroX11_takeAdvert_X9_setDue : rmX9_setDue.frames + 1 ≤ rmX11_takeAdvert.frames ∧ 8 + (4 + 11) + rmX9_setDue.locals ≤ rmX11_takeAdvert.locals := by decide
theorem hroX11_takeAdvert_X9_setDueToAll : rmX9_setDueToAll.frames + 1 ≤ rmX11_takeAdvert.frames ∧ 8 + (5 + 11) + rmX9_setDueToAll.locals ≤ rmX11_takeAdvert.locals := by decide
section SX11_takeAdvert
variable {p : Program} {l : Launch} {e : Env} {s : State} {m : MethodId} {args : Array Value} {below : List Frame} {meth : Method} {c : Code} {Q : State → Prop} {D : va_G} {cy : Nat → ClassId} {B : Nat → Nat → Nat} {ids : List (Nat × Nat)} {A : Nat → Prop}
def fX11_takeAdvert_71 (N : Nat)  (x0 : Nat) (x1 : Nat) (x2 : Nat) (x3 : Nat) (x4 : Int32) (x5 : Int32) (x6 : Int32) (z : St) : Option (Int32 × St) := zl (zgR z 9 12 x3) fun y1 => zd y1 fun a2 => zk x5 16 <| zl (zgA z 100 a2 (Int32.toNatClampNeg x5)) fun v4 => if v4 ≤ x6 then (zc (fX9_setDue N x3 x4 x5 (0 : Int32) z) fun _ z7 => if ¬ x6 = v4 then (zl (zgR z7 8 0 x1) fun y11 => zd y11 fun a12 => if ¬ x5 = (zgI z7 1 0 a12) then (zl (zgR z7 9 12 x3) fun y14 => zd y14 fun a15 => zc (fX0_takeAdvert N a15 x2 x5 x6 (zgI z7 11 4 x0) z7) fun _ z17 => zc (fX9_setDueToAll N x3 x5 x4 (zgI z17 11 4 x0) z17) fun _ z21 => some (0, z21)) else (zl (zgR z7 9 12 x3) fun y24 => zl (zgR z7 9 12 x3) fun y25 => zd y25 fun a26 => zd y24 fun a27 => zl (zsI z7 0 8 a27 (if (zgI z7 0 8 a26) < x6 then x6 else (zgI z7 0 8 a26))) fun z28 => some (0, z28))) else (some (0, z7))) else (zc (fX9_setDue N x3 x4 x5 (zgI z 11 4 x0) z) fun _ z30 => some (0, z30))
set_option maxHeartbeats 4000000 in
set_option maxRecDepth 100000 in
theorem bX11_takeAdvert_71 (hst : zSt B ids) (F : zFx p m c cX11_takeAdvert 8 s args RX11 D cy B ids A) (hA : ∀ q : Nat, s.heap.size ≤ q → A q) {r : Int32} {z' : St} (E : zEnd p l e rmX11_takeAdvert s m args below meth c cX11_takeAdvert D cy B ids A Q none z' .return_ True) {N : Nat}  (x0 : Nat) (x1 : Nat) (x2 : Nat) (x3 : Nat) (x4 : Int32) (x5 : Int32) (x6 : Int32) (hx0 : (11, x0) ∈ ids) (hx1 : (8, x1) ∈ ids) (hx2 : (7, x2) ∈ ids) (hx3 : (9, x3) ∈ ids) {z : St} {H : Heap} {locs : List Loc} {ls : Array Slot} (hr : zRep D cy B ids A s.heap z H locs) (hl : lv_has ls 8 [(0, .ref (B 11 x0)), (1, .ref (B 8 x1)), (2, .ref (B 7 x2)), (3, .ref (B 9 x3)), (4, .int x4), (5, .int x5), (6, .int x6)]) (h : fX11_takeAdvert_71 N x0 x1 x2 x3 x4 x5 x6 z = some (r, z')) : W p l e rmX11_takeAdvert s m args below meth c H locs 0 0 Q (F0 m 71 ls []) := by
  unfold fX11_takeAdvert_71 at h
  refine lv_aload_n F.1 F.2.1 dX11_takeAdvert_71 rfl (lv_at hl 3 rfl) ?_
  refine gf11_399 F hx3 hr dX11_takeAdvert_72 (fun y1 ey1 => ?_)
  replace h := zl_sub ey1 h
  have hy1 := zal_g hr hx3 (j := 12) rfl ey1
  clear ey1
  replace h := zd_some h
  obtain ⟨a2, rfl, h⟩ := h
  refine gf11_426 F (hy1 _ rfl) hr dX11_takeAdvert_75 ?_
  refine lv_iload F.1 F.2.1 dX11_takeAdvert_78 (lv_at hl 5 rfl) ?_
  replace h := zk_some h
  obtain ⟨c3, h⟩ := h
  refine zr_iald (k := 100) (by decide) rfl (by decide) F (zal_a F (hy1 _ rfl) (j := 1) rfl) hr dX11_takeAdvert_80 c3 ?_
  refine lv_topi (fun v4 ev4 => ?_)
  replace h := zl_sub ev4 h
  refine lv_istore (lv' := [(7, .int v4), (0, .ref (B 11 x0)), (1, .ref (B 8 x1)), (2, .ref (B 7 x2)), (3, .ref (B 9 x3)), (4, .int x4), (5, .int x5), (6, .int x6)]) F.1 F.2.1 dX11_takeAdvert_81 hl (by decide) rfl (fun ls hl => ?_)
  refine lv_iload F.1 F.2.1 dX11_takeAdvert_83 (lv_at hl 7 rfl) ?_
  refine lv_iload F.1 F.2.1 dX11_takeAdvert_85 (lv_at hl 0 rfl) ?_
  refine lv_icmp_ge (tgt := 103) F.1 F.2.1 dX11_takeAdvert_87 (by decide) (fun c5 => ?_) (fun c5 => ?_)
  · replace h := zi_t c5 h
    refine lv_aload_n F.1 F.2.1 dX11_takeAdvert_103 rfl (lv_at hl 4 rfl) ?_
    refine lv_iload F.1 F.2.1 dX11_takeAdvert_104 (lv_at hl 5 rfl) ?_
    refine lv_iload F.1 F.2.1 dX11_takeAdvert_106 (lv_at hl 6 rfl) ?_
    refine lv_iconst (v := (0 : Int32)) F.1 F.2.1 dX11_takeAdvert_108 (by decide) ?_
    replace h := zc_some h
    obtain ⟨r6, z7, hc8, h⟩ := h
    refine zr_callv (zrun_VN (As := [.int x4, .int x5, .int (0 : Int32)]) (rest := []) zn_1188 zq_1178 zs_X9_setDue zq_1179 zq_10 hdX9_setDue (by decide) (T := TX9) (N := 13) rfl (okX9_setDue l D cy B ids hst N x3 hx3 x4  x5  (0 : Int32)  hr.2.2 hc8) F hr hx3 hl.1 rfl (by decide) dX11_takeAdvert_109 rfl rfl hroX11_takeAdvert_X9_setDue ⟨Nat.zero_le _, Nat.zero_le _⟩) F hA hr (fun H locs hw9 hr => ?_)
    clear hc8
    refine lv_iload F.1 F.2.1 dX11_takeAdvert_112 (lv_at hl 7 rfl) ?_
    refine lv_iload F.1 F.2.1 dX11_takeAdvert_114 (lv_at hl 0 rfl) ?_
    refine lv_icmp_ne (tgt := 120) F.1 F.2.1 dX11_takeAdvert_116 (by decide) (fun c10 => ?_) (fun c10 => ?_)
    · replace h := zi_t c10 h
      refine lv_iload F.1 F.2.1 dX11_takeAdvert_120 (lv_at hl 6 rfl) ?_
      refine lv_aload_n F.1 F.2.1 dX11_takeAdvert_122 rfl (lv_at hl 2 rfl) ?_
      refine gf11_474 F hx1 hr dX11_takeAdvert_123 (fun y11 ey11 => ?_)
      replace h := zl_sub ey11 h
      have hy11 := zal_g hr hx1 (j := 0) rfl ey11
      clear ey11
      replace h := zd_some h
      obtain ⟨a12, rfl, h⟩ := h
      refine gf11_484 F (hy11 _ rfl) hr dX11_takeAdvert_126 ?_
      refine lv_icmp_ne (tgt := 152) F.1 F.2.1 dX11_takeAdvert_129 (by decide) (fun c13 => ?_) (fun c13 => ?_)
      · replace h := zi_t c13 h
        refine lv_aload_n F.1 F.2.1 dX11_takeAdvert_152 rfl (lv_at hl 4 rfl) ?_
        refine gf11_399 F hx3 hr dX11_takeAdvert_153 (fun y14 ey14 => ?_)
        replace h := zl_sub ey14 h
        have hy14 := zal_g hr hx3 (j := 12) rfl ey14
        clear ey14
        refine lv_aload_n F.1 F.2.1 dX11_takeAdvert_156 rfl (lv_at hl 3 rfl) ?_
        refine lv_iload F.1 F.2.1 dX11_takeAdvert_157 (lv_at hl 6 rfl) ?_
        refine lv_iload F.1 F.2.1 dX11_takeAdvert_159 (lv_at hl 7 rfl) ?_
        refine lv_aload_n F.1 F.2.1 dX11_takeAdvert_161 rfl (lv_at hl 1 rfl) ?_
        refine gf11_176 F hx0 hr dX11_takeAdvert_162 ?_
        replace h := zd_some h
        obtain ⟨a15, rfl, h⟩ := h
        replace h := zc_some h
        obtain ⟨r16, z17, hc18, h⟩ := h
        refine zr_callv (zrun_VN (As := [.ref (B 7 x2), .int x5, .int x6, .int (zgI z7 11 4 x0)]) (rest := []) zn_1189 zq_1191 zs_X0_takeAdvert zq_1192 zq_11 hdX0_takeAdvert (by decide) (T := TX0) (N := 16) rfl (okX0_takeAdvert l D cy B ids hst N a15 (hy14 _ rfl) x2 hx2 x5  x6  (zgI z7 11 4 x0)  hr.2.2 hc18) F hr (hy14 _ rfl) hl.1 rfl (by decide) dX11_takeAdvert_165 rfl rfl hroX11_takeAdvert_X0_takeAdvert ⟨Nat.zero_le _, Nat.zero_le _⟩) F hA hr (fun H locs hw19 hr => ?_)
        clear hc18
        refine lv_aload_n F.1 F.2.1 dX11_takeAdvert_168 rfl (lv_at hl 4 rfl) ?_
        refine lv_iload F.1 F.2.1 dX11_takeAdvert_169 (lv_at hl 6 rfl) ?_
        refine lv_iload F.1 F.2.1 dX11_takeAdvert_171 (lv_at hl 5 rfl) ?_
        refine lv_aload_n F.1 F.2.1 dX11_takeAdvert_173 rfl (lv_at hl 1 rfl) ?_
        refine gf11_176 F hx0 hr dX11_takeAdvert_174 ?_
        replace h := zc_some h
        obtain ⟨r20, z21, hc22, h⟩ := h
        refine zr_callv (zrun_VN (As := [.int x5, .int x4, .int (zgI z17 11 4 x0)]) (rest := []) zn_1203 zq_1205 zs_X9_setDueToAll zq_1206 zq_10 hdX9_setDueToAll (by decide) (T := TX9) (N := 13) rfl (okX9_setDueToAll l D cy B ids hst N x3 hx3 x5  x4  (zgI z17 11 4 x0)  hr.2.2 hc22) F hr hx3 hl.1 rfl (by decide) dX11_takeAdvert_177 rfl rfl hroX11_takeAdvert_X9_setDueToAll ⟨Nat.zero_le _, Nat.zero_le _⟩) F hA hr (fun H locs hw23 hr => ?_)
        clear hc22
        obtain ⟨rfl, rfl⟩ := zret h
        exact E _ _ _ _ dX11_takeAdvert_180 trivial hr
      · replace h := zi_f (fun q => q c13) h
        refine lv_aload_n F.1 F.2.1 dX11_takeAdvert_132 rfl (lv_at hl 4 rfl) ?_
        refine gf11_399 F hx3 hr dX11_takeAdvert_133 (fun y24 ey24 => ?_)
        replace h := zl_sub ey24 h
        have hy24 := zal_g hr hx3 (j := 12) rfl ey24
        clear ey24
        refine lv_aload_n F.1 F.2.1 dX11_takeAdvert_136 rfl (lv_at hl 4 rfl) ?_
        refine gf11_399 F hx3 hr dX11_takeAdvert_137 (fun y25 ey25 => ?_)
        replace h := zl_sub ey25 h
        have hy25 := zal_g hr hx3 (j := 12) rfl ey25
        clear ey25
        replace h := zd_some h
        obtain ⟨a26, rfl, h⟩ := h
        refine gf11_775 F (hy25 _ rfl) hr dX11_takeAdvert_140 ?_
        refine lv_iload F.1 F.2.1 dX11_takeAdvert_143 (lv_at hl 7 rfl) ?_
        refine va_mmax F.1 F.2.1 (F.2.2.1.trans hl.1.symm) F.2.2.2.1 (F.2.2.2.2.1 _ zq_274) (F.2.2.2.2.1 _ zq_275) (F.2.2.2.2.1 _ zq_27) (F.2.2.2.2.1 _ zq_276) (Nat.le_of_ble_eq_true rfl) (by simp only [List.map, zrf_cat]; exact Nat.le_of_ble_eq_true rfl) (Nat.zero_le _) (Nat.zero_le _) dX11_takeAdvert_145 ?_
        replace h := zd_some h
        obtain ⟨a27, rfl, h⟩ := h
        refine pf11_775 F (hy24 _ rfl) hr dX11_takeAdvert_148 (if (zgI z7 0 8 a26) < x6 then x6 else (zgI z7 0 8 a26)) (fun H locs z28 ez28 hr => ?_)
        replace h := zl_sub ez28 h
        clear ez28
        obtain ⟨rfl, rfl⟩ := zret h
        exact E _ _ _ _ dX11_takeAdvert_151 trivial hr
    · replace h := zi_f (fun q => q c10) h
      obtain ⟨rfl, rfl⟩ := zret h
      exact E _ _ _ _ dX11_takeAdvert_119 trivial hr
  · replace h := zi_f c5 h
    refine lv_aload_n F.1 F.2.1 dX11_takeAdvert_90 rfl (lv_at hl 4 rfl) ?_
    refine lv_iload F.1 F.2.1 dX11_takeAdvert_91 (lv_at hl 5 rfl) ?_
    refine lv_iload F.1 F.2.1 dX11_takeAdvert_93 (lv_at hl 6 rfl) ?_
    refine lv_aload_n F.1 F.2.1 dX11_takeAdvert_95 rfl (lv_at hl 1 rfl) ?_
    refine gf11_176 F hx0 hr dX11_takeAdvert_96 ?_
    replace h := zc_some h
    obtain ⟨r29, z30, hc31, h⟩ := h
    refine zr_callv (zrun_VN (As := [.int x4, .int x5, .int (zgI z 11 4 x0)]) (rest := []) zn_1188 zq_1178 zs_X9_setDue zq_1179 zq_10 hdX9_setDue (by decide) (T := TX9) (N := 13) rfl (okX9_setDue l D cy B ids hst N x3 hx3 x4  x5  (zgI z 11 4 x0)  hr.2.2 hc31) F hr hx3 hl.1 rfl (by decide) dX11_takeAdvert_99 rfl rfl hroX11_takeAdvert_X9_setDue ⟨Nat.zero_le _, Nat.zero_le _⟩) F hA hr (fun H locs hw32 hr => ?_)
    clear hc31
    obtain ⟨rfl, rfl⟩ := zret h
    exact E _ _ _ _ dX11_takeAdvert_102 trivial hr
def fX11_takeAdvert (N : Nat)  (x0 : Nat) (x1 : Nat) (x2 : Nat) (z : St) : Option (Int32 × St) := zl (zgR z 8 0 x1) fun y1 => zd y1 fun a2 => zl (zgR z 1 10 a2) fun y3 => zc (fX11_senderKey N x0 x1 x2 z) fun r4 z5 => if r4 < 0 then (some (0, z5)) else (zd y3 fun a9 => zk r4 96 <| if ¬ (zgA z5 133 a9 (Int32.toNatClampNeg r4)) = 0 then (zc (fX7_get2 N x2 (0 : Int32) z5) fun r12 z13 => zc (fX7_get4 N x2 (2 : Int32) z13) fun r16 z17 => if r12 < (16 : Int32) then (zc (fX9_addThanks N a9 r4 r12 r16 z17) fun r21 z22 => if ¬ r21 = 0 then (fX11_takeAdvert_71 N x0 x1 x2 a9 r4 r12 r16 z22) else (zc (fX11_stir N x0 z22) fun _ z27 => fX11_takeAdvert_71 N x0 x1 x2 a9 r4 r12 r16 z27)) else (some (0, z17))) else (some (0, z5)))
set_option maxHeartbeats 4000000 in
set_option maxRecDepth 100000 in
theorem bX11_takeAdvert_0 (hst : zSt B ids) (F : zFx p m c cX11_takeAdvert 8 s args RX11 D cy B ids A) (hA : ∀ q : Nat, s.heap.size ≤ q → A q) {r : Int32} {z' : St} (E : zEnd p l e rmX11_takeAdvert s m args below meth c cX11_takeAdvert D cy B ids A Q none z' .return_ True) {N : Nat}  (x0 : Nat) (x1 : Nat) (x2 : Nat) (hx0 : (11, x0) ∈ ids) (hx1 : (8, x1) ∈ ids) (hx2 : (7, x2) ∈ ids) {z : St} {H : Heap} {locs : List Loc} {ls : Array Slot} (hr : zRep D cy B ids A s.heap z H locs) (hl : lv_has ls 8 [(0, .ref (B 11 x0)), (1, .ref (B 8 x1)), (2, .ref (B 7 x2))]) (h : fX11_takeAdvert N x0 x1 x2 z = some (r, z')) : W p l e rmX11_takeAdvert s m args below meth c H locs 0 0 Q (F0 m 0 ls []) := by
  unfold fX11_takeAdvert at h
  refine lv_aload_n F.1 F.2.1 dX11_takeAdvert_0 rfl (lv_at hl 1 rfl) ?_
  refine gf11_474 F hx1 hr dX11_takeAdvert_1 (fun y1 ey1 => ?_)
  replace h := zl_sub ey1 h
  have hy1 := zal_g hr hx1 (j := 0) rfl ey1
  clear ey1
  replace h := zd_some h
  obtain ⟨a2, rfl, h⟩ := h
  refine gf11_395 F (hy1 _ rfl) hr dX11_takeAdvert_4 (fun y3 ey3 => ?_)
  replace h := zl_sub ey3 h
  have hy3 := zal_g hr (hy1 _ rfl) (j := 10) rfl ey3
  clear ey3
  refine zr_astore_n (lv' := [(3, va_rf (Option.map (B 9) y3)), (0, .ref (B 11 x0)), (1, .ref (B 8 x1)), (2, .ref (B 7 x2))]) F.1 F.2.1 dX11_takeAdvert_7 rfl hl (by decide) rfl (fun ls hl => ?_)
  refine lv_aload_n F.1 F.2.1 dX11_takeAdvert_8 rfl (lv_at hl 1 rfl) ?_
  refine lv_aload_n F.1 F.2.1 dX11_takeAdvert_9 rfl (lv_at hl 2 rfl) ?_
  refine lv_aload_n F.1 F.2.1 dX11_takeAdvert_10 rfl (lv_at hl 3 rfl) ?_
  replace h := zc_some h
  obtain ⟨r4, z5, hc6, h⟩ := h
  refine zr_calli (zrun_V (As := [.ref (B 8 x1), .ref (B 7 x2)]) (rest := []) zq_1161 zq_1163 zs_X11_senderKey zq_1164 zq_1 hdX11_senderKey (by decide) (T := TX11) (N := 21) rfl (okX11_senderKey l D cy B ids hst N x0 hx0 x1 hx1 x2 hx2 hr.2.2 hc6) F hr hx0 hl.1 rfl (by decide) dX11_takeAdvert_11 rfl rfl hroX11_takeAdvert_X11_senderKey ⟨Nat.zero_le _, Nat.zero_le _⟩) F hA hr (fun H locs hw7 hr => ?_)
  clear hc6
  refine lv_istore (lv' := [(4, .int r4), (3, va_rf (Option.map (B 9) y3)), (0, .ref (B 11 x0)), (1, .ref (B 8 x1)), (2, .ref (B 7 x2))]) F.1 F.2.1 dX11_takeAdvert_14 hl (by decide) (by simp only [List.filter, zrf_cat]; rfl) (fun ls hl => ?_)
  refine lv_iload F.1 F.2.1 dX11_takeAdvert_16 (lv_at hl 0 rfl) ?_
  refine lv_if_lt (tgt := 31) F.1 F.2.1 dX11_takeAdvert_18 (by decide) (fun c8 => ?_) (fun c8 => ?_)
  · replace h := zi_t c8 h
    obtain ⟨rfl, rfl⟩ := zret h
    exact E _ _ _ _ dX11_takeAdvert_31 trivial hr
  · replace h := zi_f c8 h
    refine zr_aload_n F.1 F.2.1 dX11_takeAdvert_21 rfl (lv_at hl 1 rfl) ?_
    replace h := zd_some h
    obtain ⟨a9, rfl, h⟩ := h
    refine gf11_418 F (hy3 _ rfl) hr dX11_takeAdvert_22 ?_
    refine lv_iload F.1 F.2.1 dX11_takeAdvert_25 (lv_at hl 0 rfl) ?_
    replace h := zk_some h
    obtain ⟨c10, h⟩ := h
    refine zr_zald (k := 133) (by decide) rfl (by decide) F (zal_a F (hy3 _ rfl) (j := 3) rfl) hr dX11_takeAdvert_27 c10 ?_
    refine lv_if_ne (tgt := 32) F.1 F.2.1 dX11_takeAdvert_28 (by decide) (fun c11 => ?_) (fun c11 => ?_)
    · replace h := zi_t c11 h
      refine lv_aload_n F.1 F.2.1 dX11_takeAdvert_32 rfl (lv_at hl 4 rfl) ?_
      refine lv_iconst (v := (0 : Int32)) F.1 F.2.1 dX11_takeAdvert_33 (by decide) ?_
      replace h := zc_some h
      obtain ⟨r12, z13, hc14, h⟩ := h
      refine zr_calli (zrun_VN (As := [.int (0 : Int32)]) (rest := []) zn_1140 zq_1138 zs_X7_get2 zq_1139 zq_2 hdX7_get2 (by decide) (T := TX7) (N := 20) rfl (okX7_get2 l D cy B ids hst N x2 hx2 (0 : Int32)  hr.2.2 hc14) F hr hx2 hl.1 rfl (by decide) dX11_takeAdvert_34 rfl rfl hroX11_takeAdvert_X7_get2 ⟨Nat.zero_le _, Nat.zero_le _⟩) F hA hr (fun H locs hw15 hr => ?_)
      clear hc14
      refine lv_istore (lv' := [(5, .int r12), (4, .int r4), (3, .ref (B 9 a9)), (0, .ref (B 11 x0)), (1, .ref (B 8 x1)), (2, .ref (B 7 x2))]) F.1 F.2.1 dX11_takeAdvert_37 hl (by decide) rfl (fun ls hl => ?_)
      refine lv_aload_n F.1 F.2.1 dX11_takeAdvert_39 rfl (lv_at hl 5 rfl) ?_
      refine lv_iconst (v := (2 : Int32)) F.1 F.2.1 dX11_takeAdvert_40 (by decide) ?_
      replace h := zc_some h
      obtain ⟨r16, z17, hc18, h⟩ := h
      refine zr_calli (zrun_VN (As := [.int (2 : Int32)]) (rest := []) zn_1132 zq_1134 zs_X7_get4 zq_1135 zq_2 hdX7_get4 (by decide) (T := TX7) (N := 20) rfl (okX7_get4 l D cy B ids hst N x2 hx2 (2 : Int32)  hr.2.2 hc18) F hr hx2 hl.1 rfl (by decide) dX11_takeAdvert_41 rfl rfl hroX11_takeAdvert_X7_get4 ⟨Nat.zero_le _, Nat.zero_le _⟩) F hA hr (fun H locs hw19 hr => ?_)
      clear hc18
      refine lv_istore (lv' := [(6, .int r16), (5, .int r12), (4, .int r4), (3, .ref (B 9 a9)), (0, .ref (B 11 x0)), (1, .ref (B 8 x1)), (2, .ref (B 7 x2))]) F.1 F.2.1 dX11_takeAdvert_44 hl (by decide) rfl (fun ls hl => ?_)
      refine lv_iload F.1 F.2.1 dX11_takeAdvert_46 (lv_at hl 1 rfl) ?_
      refine lv_bipush (v := (16 : Int32)) F.1 F.2.1 dX11_takeAdvert_48 (by decide) ?_
      refine lv_icmp_lt (tgt := 54) F.1 F.2.1 dX11_takeAdvert_50 (by decide) (fun c20 => ?_) (fun c20 => ?_)
      · replace h := zi_t c20 h
        refine lv_aload_n F.1 F.2.1 dX11_takeAdvert_54 rfl (lv_at hl 3 rfl) ?_
        refine lv_iload F.1 F.2.1 dX11_takeAdvert_55 (lv_at hl 2 rfl) ?_
        refine lv_iload F.1 F.2.1 dX11_takeAdvert_57 (lv_at hl 1 rfl) ?_
        refine lv_iload F.1 F.2.1 dX11_takeAdvert_59 (lv_at hl 0 rfl) ?_
        replace h := zc_some h
        obtain ⟨r21, z22, hc23, h⟩ := h
        refine zr_calli (zrun_VN (As := [.int r4, .int r12, .int r16]) (rest := []) zn_1184 zq_1186 zs_X9_addThanks zq_1187 zq_10 hdX9_addThanks (by decide) (T := TX9) (N := 13) rfl (okX9_addThanks l D cy B ids hst N a9 (hy3 _ rfl) r4  r12  r16  hr.2.2 hc23) F hr (hy3 _ rfl) hl.1 rfl (by decide) dX11_takeAdvert_61 rfl rfl hroX11_takeAdvert_X9_addThanks ⟨Nat.zero_le _, Nat.zero_le _⟩) F hA hr (fun H locs hw24 hr => ?_)
        clear hc23
        refine lv_if_ne (tgt := 71) F.1 F.2.1 dX11_takeAdvert_64 (by decide) (fun c25 => ?_) (fun c25 => ?_)
        · replace h := zi_t c25 h
          exact bX11_takeAdvert_71 hst F hA E  x0 x1 x2 a9 r4 r12 r16 hx0 hx1 hx2 (hy3 _ rfl) hr (lv_sub hl [4, 5, 6, 3, 2, 1, 0] rfl) h
        · replace h := zi_f (fun q => q c25) h
          refine lv_aload_n F.1 F.2.1 dX11_takeAdvert_67 rfl (lv_at hl 4 rfl) ?_
          replace h := zc_some h
          obtain ⟨r26, z27, hc28, h⟩ := h
          refine zr_callv (zrun_V (As := []) (rest := []) zq_858 zq_860 zs_X11_stir zq_861 zq_1 hdX11_stir (by decide) (T := TX11) (N := 21) rfl (okX11_stir l D cy B ids hst N x0 hx0 hr.2.2 hc28) F hr hx0 hl.1 rfl (by decide) dX11_takeAdvert_68 rfl rfl hroX11_takeAdvert_X11_stir ⟨Nat.zero_le _, Nat.zero_le _⟩) F hA hr (fun H locs hw29 hr => ?_)
          clear hc28
          exact bX11_takeAdvert_71 hst F hA E  x0 x1 x2 a9 r4 r12 r16 hx0 hx1 hx2 (hy3 _ rfl) hr (lv_sub hl [4, 5, 6, 3, 2, 1, 0] rfl) h
      · replace h := zi_f c20 h
        obtain ⟨rfl, rfl⟩ := zret h
        exact E _ _ _ _ dX11_takeAdvert_53 trivial hr
    · replace h := zi_f (fun q => q c11) h
      obtain ⟨rfl, rfl⟩ := zret h
      exact E _ _ _ _ dX11_takeAdvert_31 trivial hr
end SX11_takeAdvert
set_option maxRecDepth 100000 in
theorem okX11_takeAdvert (l : Launch) (D : va_G) (cy : Nat → ClassId) (B : Nat → Nat → Nat) (ids : List (Nat × Nat)) (hst : zSt B ids) (N : Nat) (x0 : Nat) (hx0 : (11, x0) ∈ ids) (x1 : Nat) (hx1 : (8, x1) ∈ ids) (x2 : Nat) (hx2 : (7, x2) ∈ ids) {z : St} {r : Int32} {z' : St} (hW : zWf ids z) (h : fX11_takeAdvert N x0 x1 x2 z = some (r, z')) : zM l yX11_takeAdvert (zws yX11_takeAdvert cX11_takeAdvert 8 none) rmX11_takeAdvert D cy B ids [.ref (B 11 x0), .ref (B 8 x1), .ref (B 7 x2)] none True z z' :=
  zM_of hst hW (by decide +kernel) (Nat.le_of_ble_eq_true rfl) (fun p e s m args below meth c A ls F hA hret hlocks hr hl => bX11_takeAdvert_0 hst F hA (zEnd_v F hret hlocks) x0 x1 x2 hx0 hx1 hx2 hr hl h)
abbrev rmX11_takeGreeting : Room := { frames := 3, cells := 0, slots := 0, locals := 68 }
theorem hdX11_takeGreeting : yX11_takeGreeting.cls ≠ "java/lang/invoke/MethodHandle" ∧ yX11_takeGreeting.cls ≠ "java/lang/invoke/VarHandle" ∧ (parseMethodDescriptor yX11_takeGreeting.desc).map (fun d => d.parameters.length) = some 2 := by decide +kernel
theorem hroX11_takeGreeting_X11_senderKey : rmX11_senderKey.frames + 1 ≤ rmX11_takeGreeting.frames ∧ 8 + (4 + 11) + rmX11_senderKey.locals ≤ rmX11_takeGreeting.locals := by decide
theorem hroX11_takeGreeting_X11_stir : rmX11_stir.frames + 1 ≤ rmX11_takeGreeting.frames ∧ 8 + (1 + 11) + rmX11_stir.locals ≤ rmX11_takeGreeting.locals := by decide
theorem hroX11_takeGreeting_X7_get2 : rmX7_get2.frames + 1 ≤ rmX11_takeGreeting.frames ∧ 8 + (2 + 11) + rmX7_get2.locals ≤ rmX11_takeGreeting.locals := by decide
theorem hroX11_takeGreeting_X9_beginHearing : rmX9_beginHearing.frames + 1 ≤ rmX11_takeGreeting.frames ∧ 8 + (3 + 11) + rmX9_beginHearing.locals ≤ rmX11_takeGreeting.locals := by decide
theorem hroX11_takeGreeting_X9_setFriend : rmX9_setFriend.frames + 1 ≤ rmX11_takeGreeting.frames ∧ 8 + (5 + 11) + rmX9_setFriend.locals ≤ rmX11_takeGreeting.locals := by decide
section SX11_takeGreeting
variable {p : Program} {l : Launch} {e : Env} {s : State} {m : MethodId} {args : Array Value} {below : List Frame} {meth : Method} {c : Code} {Q : State → Prop} {D : va_G} {cy : Nat → ClassId} {B : Nat → Nat → Nat} {ids : List (Nat × Nat)} {A : Nat → Prop}
def fX11_takeGreeting_71 (N : Nat) (K40 : Nat → Nat → Nat → Option Nat → Int32 → Int32 → Int32 → Int32 → St → Option (Int32 × St)) (x0 : Nat) (x1 : Nat) (x2 : Nat) (x3 : Option Nat) (x4 : Int32) (x5 : Int32) (x6 : Int32) (x7 : Int32) (z : St) : Option (Int32 × St) := zl (x7 + 1) fun v1 => K40 x0 x1 x2 x3 x4 x5 x6 v1 z
set_option maxHeartbeats 4000000 in
set_option maxRecDepth 100000 in
theorem bX11_takeGreeting_71 (hst : zSt B ids) (F : zFx p m c cX11_takeGreeting 8 s args RX11 D cy B ids A) (hA : ∀ q : Nat, s.heap.size ≤ q → A q) {r : Int32} {z' : St} (E : zEnd p l e rmX11_takeGreeting s m args below meth c cX11_takeGreeting D cy B ids A Q none z' .return_ True) {N : Nat} {K40 : Nat → Nat → Nat → Option Nat → Int32 → Int32 → Int32 → Int32 → St → Option (Int32 × St)} (hK40 : ∀ (x0 : Nat) (x1 : Nat) (x2 : Nat) (x3 : Option Nat) (x4 : Int32) (x5 : Int32) (x6 : Int32) (x7 : Int32) (hx0 : (11, x0) ∈ ids) (hx1 : (8, x1) ∈ ids) (hx2 : (7, x2) ∈ ids) (hx3 : ∀ t, x3 = some t → (9, t) ∈ ids) {z : St} {H : Heap} {locs : List Loc} {ls : Array Slot} (hr : zRep D cy B ids A s.heap z H locs) (hl : lv_has ls 8 [(0, .ref (B 11 x0)), (1, .ref (B 8 x1)), (2, .ref (B 7 x2)), (3, va_rf (Option.map (B 9) x3)), (4, .int x4), (5, .int x5), (6, .int x6), (7, .int x7)]), K40 x0 x1 x2 x3 x4 x5 x6 x7 z = some (r, z') → W p l e rmX11_takeGreeting s m args below meth c H locs 0 0 Q (F0 m 40 ls [])) (x0 : Nat) (x1 : Nat) (x2 : Nat) (x3 : Option Nat) (x4 : Int32) (x5 : Int32) (x6 : Int32) (x7 : Int32) (hx0 : (11, x0) ∈ ids) (hx1 : (8, x1) ∈ ids) (hx2 : (7, x2) ∈ ids) (hx3 : ∀ t, x3 = some t → (9, t) ∈ ids) {z : St} {H : Heap} {locs : List Loc} {ls : Array Slot} (hr : zRep D cy B ids A s.heap z H locs) (hl : lv_has ls 8 [(0, .ref (B 11 x0)), (1, .ref (B 8 x1)), (2, .ref (B 7 x2)), (3, va_rf (Option.map (B 9) x3)), (4, .int x4), (5, .int x5), (6, .int x6), (7, .int x7)]) (h : fX11_takeGreeting_71 N K40 x0 x1 x2 x3 x4 x5 x6 x7 z = some (r, z')) : W p l e rmX11_takeGreeting s m args below meth c H locs 0 0 Q (F0 m 71 ls []) := by
  unfold fX11_takeGreeting_71 at h
  obtain ⟨v1, ev1⟩ : ∃ y : Int32, y = (x7 + 1) := ⟨_, rfl⟩
  replace h := zl_sub ev1 h
  refine lv_iinc (v := v1) (lv' := [(7, .int v1), (0, .ref (B 11 x0)), (1, .ref (B 8 x1)), (2, .ref (B 7 x2)), (3, va_rf (Option.map (B 9) x3)), (4, .int x4), (5, .int x5), (6, .int x6)]) F.1 F.2.1 dX11_takeGreeting_71 hl (k := 7) rfl (by rw [ev1]; rfl) (by decide) rfl (fun ls hl => ?_)
  refine lv_goto (tgt := 40) F.1 F.2.1 dX11_takeGreeting_74 (by decide) ?_
  exact hK40 x0 x1 x2 x3 x4 x5 x6 v1 hx0 hx1 hx2 hx3 hr (lv_sub hl [1, 2, 3, 4, 5, 6, 7, 0] rfl) h
def fX11_takeGreeting_107 (N : Nat)  (x0 : Nat) (x3 : Nat) (x4 : Int32) (x5 : Int32) (z : St) : Option (Int32 × St) := zk x4 96 <| zl (zsA z 132 x3 (Int32.toNatClampNeg x4) (zgI z 11 4 x0)) fun z2 => zc (fX9_setFriend N x3 x4 x5 (zgI z2 11 4 x0) z2) fun _ z4 => some (0, z4)
set_option maxHeartbeats 4000000 in
set_option maxRecDepth 100000 in
theorem bX11_takeGreeting_107 (hst : zSt B ids) (F : zFx p m c cX11_takeGreeting 8 s args RX11 D cy B ids A) (hA : ∀ q : Nat, s.heap.size ≤ q → A q) {r : Int32} {z' : St} (E : zEnd p l e rmX11_takeGreeting s m args below meth c cX11_takeGreeting D cy B ids A Q none z' .return_ True) {N : Nat}  (x0 : Nat) (x3 : Nat) (x4 : Int32) (x5 : Int32) (hx0 : (11, x0) ∈ ids) (hx3 : (9, x3) ∈ ids) {z : St} {H : Heap} {locs : List Loc} {ls : Array Slot} (hr : zRep D cy B ids A s.heap z H locs) (hl : lv_has ls 8 [(0, .ref (B 11 x0)), (3, .ref (B 9 x3)), (4, .int x4), (5, .int x5)]) (h : fX11_takeGreeting_107 N x0 x3 x4 x5 z = some (r, z')) : W p l e rmX11_takeGreeting s m args below meth c H locs 0 0 Q (F0 m 107 ls []) := by
  unfold fX11_takeGreeting_107 at h
  refine lv_aload_n F.1 F.2.1 dX11_takeGreeting_107 rfl (lv_at hl 1 rfl) ?_
  refine gf11_768 F hx3 hr dX11_takeGreeting_108 ?_
  refine lv_iload F.1 F.2.1 dX11_takeGreeting_111 (lv_at hl 2 rfl) ?_
  refine lv_aload_n F.1 F.2.1 dX11_takeGreeting_113 rfl (lv_at hl 0 rfl) ?_
  refine gf11_176 F hx0 hr dX11_takeGreeting_114 ?_
  replace h := zk_some h
  obtain ⟨c1, h⟩ := h
  refine zr_iast (k := 132) (by decide) rfl (by decide) F (zal_a F hx3 (j := 2) rfl) hr dX11_takeGreeting_117 c1 (fun H locs z2 ez2 hr => ?_)
  replace h := zl_sub ez2 h
  clear ez2
  refine lv_aload_n F.1 F.2.1 dX11_takeGreeting_118 rfl (lv_at hl 1 rfl) ?_
  refine lv_iload F.1 F.2.1 dX11_takeGreeting_119 (lv_at hl 2 rfl) ?_
  refine lv_iload F.1 F.2.1 dX11_takeGreeting_121 (lv_at hl 3 rfl) ?_
  refine lv_aload_n F.1 F.2.1 dX11_takeGreeting_123 rfl (lv_at hl 0 rfl) ?_
  refine gf11_176 F hx0 hr dX11_takeGreeting_124 ?_
  replace h := zc_some h
  obtain ⟨r3, z4, hc5, h⟩ := h
  refine zr_callv (zrun_VN (As := [.int x4, .int x5, .int (zgI z2 11 4 x0)]) (rest := []) zn_1172 zq_1174 zs_X9_setFriend zq_1175 zq_10 hdX9_setFriend (by decide) (T := TX9) (N := 13) rfl (okX9_setFriend l D cy B ids hst N x3 hx3 x4  x5  (zgI z2 11 4 x0)  hr.2.2 hc5) F hr hx3 hl.1 rfl (by decide) dX11_takeGreeting_127 rfl rfl hroX11_takeGreeting_X9_setFriend ⟨Nat.zero_le _, Nat.zero_le _⟩) F hA hr (fun H locs hw6 hr => ?_)
  clear hc5
  obtain ⟨rfl, rfl⟩ := zret h
  exact E _ _ _ _ dX11_takeGreeting_130 trivial hr
def fX11_takeGreeting_40b (N : Nat) (K40 : Nat → Nat → Nat → Option Nat → Int32 → Int32 → Int32 → Int32 → St → Option (Int32 × St)) (x0 : Nat) (x1 : Nat) (x2 : Nat) (x3 : Option Nat) (x4 : Int32) (x5 : Int32) (x6 : Int32) (x7 : Int32) (z : St) : Option (Int32 × St) := if x6 ≤ x7 then (zd x3 fun a2 => zk x4 96 <| if ¬ (zgA z 132 a2 (Int32.toNatClampNeg x4)) = 0 then (fX11_takeGreeting_107 N x0 a2 x4 x5 z) else (if (zgI z 9 1 a2) < (16 : Int32) then (zc (fX9_beginHearing N a2 x4 z) fun _ z7 => fX11_takeGreeting_107 N x0 a2 x4 x5 z7) else (zc (fX11_stir N x0 z) fun _ z11 => some (0, z11)))) else (zc (fX7_get2 N x2 ((8 : Int32) + ((2 : Int32) * x7)) z) fun r14 z15 => zl (zgR z15 8 0 x1) fun y18 => zd y18 fun a19 => if ¬ r14 = (zgI z15 1 0 a19) then (fX11_takeGreeting_71 N K40 x0 x1 x2 x3 x4 x5 x6 x7 z15) else (fX11_takeGreeting_71 N K40 x0 x1 x2 x3 x4 (1 : Int32) x6 x7 z15))
def fX11_takeGreeting_40 (N : Nat)  : Nat → Nat → Nat → Nat → Option Nat → Int32 → Int32 → Int32 → Int32 → St → Option (Int32 × St)
  | 0 => fun _ _ _ _ _ _ _ _ _ => none
  | n + 1 => fX11_takeGreeting_40b N (fX11_takeGreeting_40 N  n)
set_option maxHeartbeats 4000000 in
set_option maxRecDepth 100000 in
theorem bX11_takeGreeting_40 (hst : zSt B ids) (F : zFx p m c cX11_takeGreeting 8 s args RX11 D cy B ids A) (hA : ∀ q : Nat, s.heap.size ≤ q → A q) {r : Int32} {z' : St} (E : zEnd p l e rmX11_takeGreeting s m args below meth c cX11_takeGreeting D cy B ids A Q none z' .return_ True) {N : Nat} {K40 : Nat → Nat → Nat → Option Nat → Int32 → Int32 → Int32 → Int32 → St → Option (Int32 × St)} (hK40 : ∀ (x0 : Nat) (x1 : Nat) (x2 : Nat) (x3 : Option Nat) (x4 : Int32) (x5 : Int32) (x6 : Int32) (x7 : Int32) (hx0 : (11, x0) ∈ ids) (hx1 : (8, x1) ∈ ids) (hx2 : (7, x2) ∈ ids) (hx3 : ∀ t, x3 = some t → (9, t) ∈ ids) {z : St} {H : Heap} {locs : List Loc} {ls : Array Slot} (hr : zRep D cy B ids A s.heap z H locs) (hl : lv_has ls 8 [(0, .ref (B 11 x0)), (1, .ref (B 8 x1)), (2, .ref (B 7 x2)), (3, va_rf (Option.map (B 9) x3)), (4, .int x4), (5, .int x5), (6, .int x6), (7, .int x7)]), K40 x0 x1 x2 x3 x4 x5 x6 x7 z = some (r, z') → W p l e rmX11_takeGreeting s m args below meth c H locs 0 0 Q (F0 m 40 ls [])) (x0 : Nat) (x1 : Nat) (x2 : Nat) (x3 : Option Nat) (x4 : Int32) (x5 : Int32) (x6 : Int32) (x7 : Int32) (hx0 : (11, x0) ∈ ids) (hx1 : (8, x1) ∈ ids) (hx2 : (7, x2) ∈ ids) (hx3 : ∀ t, x3 = some t → (9, t) ∈ ids) {z : St} {H : Heap} {locs : List Loc} {ls : Array Slot} (hr : zRep D cy B ids A s.heap z H locs) (hl : lv_has ls 8 [(0, .ref (B 11 x0)), (1, .ref (B 8 x1)), (2, .ref (B 7 x2)), (3, va_rf (Option.map (B 9) x3)), (4, .int x4), (5, .int x5), (6, .int x6), (7, .int x7)]) (h : fX11_takeGreeting_40b N K40 x0 x1 x2 x3 x4 x5 x6 x7 z = some (r, z')) : W p l e rmX11_takeGreeting s m args below meth c H locs 0 0 Q (F0 m 40 ls []) := by
  unfold fX11_takeGreeting_40b at h
  refine lv_iload F.1 F.2.1 dX11_takeGreeting_40 (lv_at hl 7 rfl) ?_
  refine lv_iload F.1 F.2.1 dX11_takeGreeting_42 (lv_at hl 6 rfl) ?_
  refine lv_icmp_ge (tgt := 77) F.1 F.2.1 dX11_takeGreeting_44 (by decide) (fun c1 => ?_) (fun c1 => ?_)
  · replace h := zi_t c1 h
    refine zr_aload_n F.1 F.2.1 dX11_takeGreeting_77 rfl (lv_at hl 3 rfl) ?_
    replace h := zd_some h
    obtain ⟨a2, rfl, h⟩ := h
    refine gf11_768 F (hx3 _ rfl) hr dX11_takeGreeting_78 ?_
    refine lv_iload F.1 F.2.1 dX11_takeGreeting_81 (lv_at hl 4 rfl) ?_
    replace h := zk_some h
    obtain ⟨c3, h⟩ := h
    refine zr_iald (k := 132) (by decide) rfl (by decide) F (zal_a F (hx3 _ rfl) (j := 2) rfl) hr dX11_takeGreeting_83 c3 ?_
    refine lv_if_ne (tgt := 107) F.1 F.2.1 dX11_takeGreeting_84 (by decide) (fun c4 => ?_) (fun c4 => ?_)
    · replace h := zi_t c4 h
      exact bX11_takeGreeting_107 hst F hA E  x0 a2 x4 x5 hx0 (hx3 _ rfl) hr (lv_sub hl [0, 3, 4, 5] rfl) h
    · replace h := zi_f (fun q => q c4) h
      refine lv_aload_n F.1 F.2.1 dX11_takeGreeting_87 rfl (lv_at hl 3 rfl) ?_
      refine gf11_762 F (hx3 _ rfl) hr dX11_takeGreeting_88 ?_
      refine lv_bipush (v := (16 : Int32)) F.1 F.2.1 dX11_takeGreeting_91 (by decide) ?_
      refine lv_icmp_lt (tgt := 101) F.1 F.2.1 dX11_takeGreeting_93 (by decide) (fun c5 => ?_) (fun c5 => ?_)
      · replace h := zi_t c5 h
        refine lv_aload_n F.1 F.2.1 dX11_takeGreeting_101 rfl (lv_at hl 3 rfl) ?_
        refine lv_iload F.1 F.2.1 dX11_takeGreeting_102 (lv_at hl 4 rfl) ?_
        replace h := zc_some h
        obtain ⟨r6, z7, hc8, h⟩ := h
        refine zr_callv (zrun_VN (As := [.int x4]) (rest := []) zn_1168 zq_1170 zs_X9_beginHearing zq_1171 zq_10 hdX9_beginHearing (by decide) (T := TX9) (N := 13) rfl (okX9_beginHearing l D cy B ids hst N a2 (hx3 _ rfl) x4  hr.2.2 hc8) F hr (hx3 _ rfl) hl.1 rfl (by decide) dX11_takeGreeting_104 rfl rfl hroX11_takeGreeting_X9_beginHearing ⟨Nat.zero_le _, Nat.zero_le _⟩) F hA hr (fun H locs hw9 hr => ?_)
        clear hc8
        exact bX11_takeGreeting_107 hst F hA E  x0 a2 x4 x5 hx0 (hx3 _ rfl) hr (lv_sub hl [0, 3, 4, 5] rfl) h
      · replace h := zi_f c5 h
        refine lv_aload_n F.1 F.2.1 dX11_takeGreeting_96 rfl (lv_at hl 0 rfl) ?_
        replace h := zc_some h
        obtain ⟨r10, z11, hc12, h⟩ := h
        refine zr_callv (zrun_V (As := []) (rest := []) zq_858 zq_860 zs_X11_stir zq_861 zq_1 hdX11_stir (by decide) (T := TX11) (N := 21) rfl (okX11_stir l D cy B ids hst N x0 hx0 hr.2.2 hc12) F hr hx0 hl.1 rfl (by decide) dX11_takeGreeting_97 rfl rfl hroX11_takeGreeting_X11_stir ⟨Nat.zero_le _, Nat.zero_le _⟩) F hA hr (fun H locs hw13 hr => ?_)
        clear hc12
        obtain ⟨rfl, rfl⟩ := zret h
        exact E _ _ _ _ dX11_takeGreeting_100 trivial hr
  · replace h := zi_f c1 h
    refine lv_aload_n F.1 F.2.1 dX11_takeGreeting_47 rfl (lv_at hl 2 rfl) ?_
    refine lv_bipush (v := (8 : Int32)) F.1 F.2.1 dX11_takeGreeting_48 (by decide) ?_
    refine lv_iconst (v := (2 : Int32)) F.1 F.2.1 dX11_takeGreeting_50 (by decide) ?_
    refine lv_iload F.1 F.2.1 dX11_takeGreeting_51 (lv_at hl 7 rfl) ?_
    refine lv_imul F.1 F.2.1 dX11_takeGreeting_53 ?_
    refine lv_iadd F.1 F.2.1 dX11_takeGreeting_54 ?_
    replace h := zc_some h
    obtain ⟨r14, z15, hc16, h⟩ := h
    refine zr_calli (zrun_VN (As := [.int ((8 : Int32) + ((2 : Int32) * x7))]) (rest := []) zn_1140 zq_1138 zs_X7_get2 zq_1139 zq_2 hdX7_get2 (by decide) (T := TX7) (N := 20) rfl (okX7_get2 l D cy B ids hst N x2 hx2 ((8 : Int32) + ((2 : Int32) * x7))  hr.2.2 hc16) F hr hx2 hl.1 rfl (by decide) dX11_takeGreeting_55 rfl rfl hroX11_takeGreeting_X7_get2 ⟨Nat.zero_le _, Nat.zero_le _⟩) F hA hr (fun H locs hw17 hr => ?_)
    clear hc16
    refine lv_aload_n F.1 F.2.1 dX11_takeGreeting_58 rfl (lv_at hl 1 rfl) ?_
    refine gf11_474 F hx1 hr dX11_takeGreeting_59 (fun y18 ey18 => ?_)
    replace h := zl_sub ey18 h
    have hy18 := zal_g hr hx1 (j := 0) rfl ey18
    clear ey18
    replace h := zd_some h
    obtain ⟨a19, rfl, h⟩ := h
    refine gf11_484 F (hy18 _ rfl) hr dX11_takeGreeting_62 ?_
    refine lv_icmp_ne (tgt := 71) F.1 F.2.1 dX11_takeGreeting_65 (by decide) (fun c20 => ?_) (fun c20 => ?_)
    · replace h := zi_t c20 h
      exact bX11_takeGreeting_71 hst F hA E hK40 x0 x1 x2 x3 x4 x5 x6 x7 hx0 hx1 hx2 hx3 hr (lv_sub hl [0, 1, 2, 3, 4, 5, 6, 7] rfl) h
    · replace h := zi_f (fun q => q c20) h
      refine lv_iconst (v := (1 : Int32)) F.1 F.2.1 dX11_takeGreeting_68 (by decide) ?_
      refine lv_istore (lv' := [(5, .int (1 : Int32)), (0, .ref (B 11 x0)), (1, .ref (B 8 x1)), (2, .ref (B 7 x2)), (3, va_rf (Option.map (B 9) x3)), (4, .int x4), (6, .int x6), (7, .int x7)]) F.1 F.2.1 dX11_takeGreeting_69 hl (by decide) rfl (fun ls hl => ?_)
      exact bX11_takeGreeting_71 hst F hA E hK40 x0 x1 x2 x3 x4 (1 : Int32) x6 x7 hx0 hx1 hx2 hx3 hr (lv_sub hl [1, 2, 3, 4, 5, 0, 6, 7] rfl) h
theorem lX11_takeGreeting_40 (hst : zSt B ids) (F : zFx p m c cX11_takeGreeting 8 s args RX11 D cy B ids A) (hA : ∀ q : Nat, s.heap.size ≤ q → A q) {r : Int32} {z' : St} (E : zEnd p l e rmX11_takeGreeting s m args below meth c cX11_takeGreeting D cy B ids A Q none z' .return_ True) {N : Nat}  : ∀ (n : Nat) (x0 : Nat) (x1 : Nat) (x2 : Nat) (x3 : Option Nat) (x4 : Int32) (x5 : Int32) (x6 : Int32) (x7 : Int32) (hx0 : (11, x0) ∈ ids) (hx1 : (8, x1) ∈ ids) (hx2 : (7, x2) ∈ ids) (hx3 : ∀ t, x3 = some t → (9, t) ∈ ids) {z : St} {H : Heap} {locs : List Loc} {ls : Array Slot} (hr : zRep D cy B ids A s.heap z H locs) (hl : lv_has ls 8 [(0, .ref (B 11 x0)), (1, .ref (B 8 x1)), (2, .ref (B 7 x2)), (3, va_rf (Option.map (B 9) x3)), (4, .int x4), (5, .int x5), (6, .int x6), (7, .int x7)]), fX11_takeGreeting_40 N  n x0 x1 x2 x3 x4 x5 x6 x7 z = some (r, z') → W p l e rmX11_takeGreeting s m args below meth c H locs 0 0 Q (F0 m 40 ls []) := by
  intro n
  induction n with
  | zero => intro x0 x1 x2 x3 x4 x5 x6 x7 hx0 hx1 hx2 hx3 z H locs ls hr hl h; cases h
  | succ n ih => intro x0 x1 x2 x3 x4 x5 x6 x7 hx0 hx1 hx2 hx3 z H locs ls hr hl h; exact bX11_takeGreeting_40 hst F hA E ih x0 x1 x2 x3 x4 x5 x6 x7 hx0 hx1 hx2 hx3 hr hl h
def fX11_takeGreeting (N : Nat)  (x0 : Nat) (x1 : Nat) (x2 : Nat) (z : St) : Option (Int32 × St) := zl (zgR z 8 0 x1) fun y1 => zd y1 fun a2 => zl (zgR z 1 10 a2) fun y3 => zc (fX11_senderKey N x0 x1 x2 z) fun r4 z5 => if 0 ≤ r4 then (zc (fX7_get2 N x2 (2 : Int32) z5) fun r9 z10 => zl (if (16 : Int32) < r9 then (16 : Int32) else r9) fun v13 => fX11_takeGreeting_40 N N x0 x1 x2 y3 r4 (0 : Int32) v13 (0 : Int32) z10) else (some (0, z5))
set_option maxHeartbeats 4000000 in
set_option maxRecDepth 100000 in
theorem bX11_takeGreeting_0 (hst : zSt B ids) (F : zFx p m c cX11_takeGreeting 8 s args RX11 D cy B ids A) (hA : ∀ q : Nat, s.heap.size ≤ q → A q) {r : Int32} {z' : St} (E : zEnd p l e rmX11_takeGreeting s m args below meth c cX11_takeGreeting D cy B ids A Q none z' .return_ True) {N : Nat}  (x0 : Nat) (x1 : Nat) (x2 : Nat) (hx0 : (11, x0) ∈ ids) (hx1 : (8, x1) ∈ ids) (hx2 : (7, x2) ∈ ids) {z : St} {H : Heap} {locs : List Loc} {ls : Array Slot} (hr : zRep D cy B ids A s.heap z H locs) (hl : lv_has ls 8 [(0, .ref (B 11 x0)), (1, .ref (B 8 x1)), (2, .ref (B 7 x2))]) (h : fX11_takeGreeting N x0 x1 x2 z = some (r, z')) : W p l e rmX11_takeGreeting s m args below meth c H locs 0 0 Q (F0 m 0 ls []) := by
  unfold fX11_takeGreeting at h
  refine lv_aload_n F.1 F.2.1 dX11_takeGreeting_0 rfl (lv_at hl 1 rfl) ?_
  refine gf11_474 F hx1 hr dX11_takeGreeting_1 (fun y1 ey1 => ?_)
  replace h := zl_sub ey1 h
  have hy1 := zal_g hr hx1 (j := 0) rfl ey1
  clear ey1
  replace h := zd_some h
  obtain ⟨a2, rfl, h⟩ := h
  refine gf11_395 F (hy1 _ rfl) hr dX11_takeGreeting_4 (fun y3 ey3 => ?_)
  replace h := zl_sub ey3 h
  have hy3 := zal_g hr (hy1 _ rfl) (j := 10) rfl ey3
  clear ey3
  refine zr_astore_n (lv' := [(3, va_rf (Option.map (B 9) y3)), (0, .ref (B 11 x0)), (1, .ref (B 8 x1)), (2, .ref (B 7 x2))]) F.1 F.2.1 dX11_takeGreeting_7 rfl hl (by decide) rfl (fun ls hl => ?_)
  refine lv_aload_n F.1 F.2.1 dX11_takeGreeting_8 rfl (lv_at hl 1 rfl) ?_
  refine lv_aload_n F.1 F.2.1 dX11_takeGreeting_9 rfl (lv_at hl 2 rfl) ?_
  refine lv_aload_n F.1 F.2.1 dX11_takeGreeting_10 rfl (lv_at hl 3 rfl) ?_
  replace h := zc_some h
  obtain ⟨r4, z5, hc6, h⟩ := h
  refine zr_calli (zrun_V (As := [.ref (B 8 x1), .ref (B 7 x2)]) (rest := []) zq_1161 zq_1163 zs_X11_senderKey zq_1164 zq_1 hdX11_senderKey (by decide) (T := TX11) (N := 21) rfl (okX11_senderKey l D cy B ids hst N x0 hx0 x1 hx1 x2 hx2 hr.2.2 hc6) F hr hx0 hl.1 rfl (by decide) dX11_takeGreeting_11 rfl rfl hroX11_takeGreeting_X11_senderKey ⟨Nat.zero_le _, Nat.zero_le _⟩) F hA hr (fun H locs hw7 hr => ?_)
  clear hc6
  refine lv_istore (lv' := [(4, .int r4), (3, va_rf (Option.map (B 9) y3)), (0, .ref (B 11 x0)), (1, .ref (B 8 x1)), (2, .ref (B 7 x2))]) F.1 F.2.1 dX11_takeGreeting_14 hl (by decide) (by simp only [List.filter, zrf_cat]; rfl) (fun ls hl => ?_)
  refine lv_iload F.1 F.2.1 dX11_takeGreeting_16 (lv_at hl 0 rfl) ?_
  refine lv_if_ge (tgt := 22) F.1 F.2.1 dX11_takeGreeting_18 (by decide) (fun c8 => ?_) (fun c8 => ?_)
  · replace h := zi_t c8 h
    refine lv_iconst (v := (0 : Int32)) F.1 F.2.1 dX11_takeGreeting_22 (by decide) ?_
    refine lv_istore (lv' := [(5, .int (0 : Int32)), (4, .int r4), (3, va_rf (Option.map (B 9) y3)), (0, .ref (B 11 x0)), (1, .ref (B 8 x1)), (2, .ref (B 7 x2))]) F.1 F.2.1 dX11_takeGreeting_23 hl (by decide) rfl (fun ls hl => ?_)
    refine lv_aload_n F.1 F.2.1 dX11_takeGreeting_25 rfl (lv_at hl 5 rfl) ?_
    refine lv_iconst (v := (2 : Int32)) F.1 F.2.1 dX11_takeGreeting_26 (by decide) ?_
    replace h := zc_some h
    obtain ⟨r9, z10, hc11, h⟩ := h
    refine zr_calli (zrun_VN (As := [.int (2 : Int32)]) (rest := []) zn_1140 zq_1138 zs_X7_get2 zq_1139 zq_2 hdX7_get2 (by decide) (T := TX7) (N := 20) rfl (okX7_get2 l D cy B ids hst N x2 hx2 (2 : Int32)  hr.2.2 hc11) F hr hx2 hl.1 rfl (by decide) dX11_takeGreeting_27 rfl rfl hroX11_takeGreeting_X7_get2 ⟨Nat.zero_le _, Nat.zero_le _⟩) F hA hr (fun H locs hw12 hr => ?_)
    clear hc11
    refine lv_bipush (v := (16 : Int32)) F.1 F.2.1 dX11_takeGreeting_30 (by decide) ?_
    refine va_mmin F.1 F.2.1 (F.2.2.1.trans hl.1.symm) F.2.2.2.1 (F.2.2.2.2.1 _ zq_303) (F.2.2.2.2.1 _ zq_304) (F.2.2.2.2.1 _ zq_27) (F.2.2.2.2.1 _ zq_305) (Nat.le_of_ble_eq_true rfl) (Nat.le_of_ble_eq_true rfl) (Nat.zero_le _) (Nat.zero_le _) dX11_takeGreeting_32 ?_
    refine lv_topi (fun v13 ev13 => ?_)
    replace h := zl_sub ev13 h
    refine lv_istore (lv' := [(6, .int v13), (5, .int (0 : Int32)), (4, .int r4), (3, va_rf (Option.map (B 9) y3)), (0, .ref (B 11 x0)), (1, .ref (B 8 x1)), (2, .ref (B 7 x2))]) F.1 F.2.1 dX11_takeGreeting_35 hl (by decide) rfl (fun ls hl => ?_)
    refine lv_iconst (v := (0 : Int32)) F.1 F.2.1 dX11_takeGreeting_37 (by decide) ?_
    refine lv_istore (lv' := [(7, .int (0 : Int32)), (6, .int v13), (5, .int (0 : Int32)), (4, .int r4), (3, va_rf (Option.map (B 9) y3)), (0, .ref (B 11 x0)), (1, .ref (B 8 x1)), (2, .ref (B 7 x2))]) F.1 F.2.1 dX11_takeGreeting_38 hl (by decide) rfl (fun ls hl => ?_)
    exact lX11_takeGreeting_40 hst F hA E  _ x0 x1 x2 y3 r4 (0 : Int32) v13 (0 : Int32) hx0 hx1 hx2 hy3 hr (lv_sub hl [5, 6, 7, 4, 3, 2, 1, 0] rfl) h
  · replace h := zi_f c8 h
    obtain ⟨rfl, rfl⟩ := zret h
    exact E _ _ _ _ dX11_takeGreeting_21 trivial hr
end SX11_takeGreeting
set_option maxRecDepth 100000 in
theorem okX11_takeGreeting (l : Launch) (D : va_G) (cy : Nat → ClassId) (B : Nat → Nat → Nat) (ids : List (Nat × Nat)) (hst : zSt B ids) (N : Nat) (x0 : Nat) (hx0 : (11, x0) ∈ ids) (x1 : Nat) (hx1 : (8, x1) ∈ ids) (x2 : Nat) (hx2 : (7, x2) ∈ ids) {z : St} {r : Int32} {z' : St} (hW : zWf ids z) (h : fX11_takeGreeting N x0 x1 x2 z = some (r, z')) : zM l yX11_takeGreeting (zws yX11_takeGreeting cX11_takeGreeting 8 none) rmX11_takeGreeting D cy B ids [.ref (B 11 x0), .ref (B 8 x1), .ref (B 7 x2)] none True z z' :=
  zM_of hst hW (by decide +kernel) (Nat.le_of_ble_eq_true rfl) (fun p e s m args below meth c A ls F hA hret hlocks hr hl => bX11_takeGreeting_0 hst F hA (zEnd_v F hret hlocks) x0 x1 x2 hx0 hx1 hx2 hr hl h)
