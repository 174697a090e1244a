abbrev rmX0_findWays : Room := { frames := 4, cells := 0, slots := 0, locals := 94 }
theorem hdX0_findWays : yX0_findWays.cls ≠ "java/lang/invoke/MethodHandle" ∧ yX0_findWays.cls ≠ "java/lang/invoke/VarHandle" ∧ (parseMethodDescriptor yX0_findWays.desc).map (fun d => d.parameters.length) = some 2 := by decide +kernel
theorem hroX0_findWays_X0_findDistances : rmX0_findDistances.frames + 1 ≤ rmX0_findWays.frames ∧ 8 + (4 + 11) + rmX0_findDistances.locals ≤ rmX0_findWays.locals := by decide
theorem hroX0_findWays_X0_findFarWay : rmX0_findFarWay.frames + 1 ≤ rmX0_findWays.frames ∧ 8 + (6 + 11) + rmX0_findFarWay.locals ≤ rmX0_findWays.locals := by decide
theorem hroX0_findWays_X0_setWay : rmX0_setWay.frames + 1 ≤ rmX0_findWays.frames ∧ 8 + (5 + 11) + rmX0_setWay.locals ≤ rmX0_findWays.locals := by decide
theorem hroX0_findWays_X1_portOn : rmX1_portOn.frames + 1 ≤ rmX0_findWays.frames ∧ 8 + (3 + 11) + rmX1_portOn.locals ≤ rmX0_findWays.locals := by decide
section SX0_findWays
variable {p : Program} {l : Launch} {e : Env} {s : State} {m : MethodId} {args : Array Value} {below : List Frame} {meth : Method} {c : Code} {Q : State → Prop} {D : va_G} {cy : Nat → ClassId} {B : Nat → Nat → Nat} {ids : List (Nat × Nat)} {A : Nat → Prop}
def fX0_findWays_62 (N : Nat) (K11 : Nat → Nat → Int32 → Int32 → St → Option (Int32 × St)) (x0 : Nat) (x1 : Nat) (x2 : Int32) (x3 : Int32) (z : St) : Option (Int32 × St) := zl (x3 + 1) fun v1 => K11 x0 x1 x2 v1 z
set_option maxHeartbeats 4000000 in
set_option maxRecDepth 100000 in
theorem bX0_findWays_62 (hst : zSt B ids) (F : zFx p m c cX0_findWays 5 s args RX0 D cy B ids A) (hA : ∀ q : Nat, s.heap.size ≤ q → A q) {r : Int32} {z' : St} (E : zEnd p l e rmX0_findWays s m args below meth c cX0_findWays D cy B ids A Q none z' .return_ True) {N : Nat} {K11 : Nat → Nat → Int32 → Int32 → St → Option (Int32 × St)} (hK11 : ∀ (x0 : Nat) (x1 : Nat) (x2 : Int32) (x3 : Int32) (hx0 : (0, x0) ∈ ids) (hx1 : (1, x1) ∈ ids) {z : St} {H : Heap} {locs : List Loc} {ls : Array Slot} (hr : zRep D cy B ids A s.heap z H locs) (hl : lv_has ls 5 [(0, .ref (B 0 x0)), (1, .ref (B 1 x1)), (2, .int x2), (3, .int x3)]), K11 x0 x1 x2 x3 z = some (r, z') → W p l e rmX0_findWays s m args below meth c H locs 0 0 Q (F0 m 11 ls [])) (x0 : Nat) (x1 : Nat) (x2 : Int32) (x3 : Int32) (hx0 : (0, x0) ∈ ids) (hx1 : (1, x1) ∈ ids) {z : St} {H : Heap} {locs : List Loc} {ls : Array Slot} (hr : zRep D cy B ids A s.heap z H locs) (hl : lv_has ls 5 [(0, .ref (B 0 x0)), (1, .ref (B 1 x1)), (2, .int x2), (3, .int x3)]) (h : fX0_findWays_62 N K11 x0 x1 x2 x3 z = some (r, z')) : W p l e rmX0_findWays s m args below meth c H locs 0 0 Q (F0 m 62 ls []) := by
  unfold fX0_findWays_62 at h
  obtain ⟨v1, ev1⟩ : ∃ y : Int32, y = (x3 + 1) := ⟨_, rfl⟩
  replace h := zl_sub ev1 h
  refine lv_iinc (v := v1) (lv' := [(3, .int v1), (0, .ref (B 0 x0)), (1, .ref (B 1 x1)), (2, .int x2)]) F.1 F.2.1 dX0_findWays_62 hl (k := 3) rfl (by rw [ev1]; rfl) (by decide) rfl (fun ls hl => ?_)
  refine lv_goto (tgt := 11) F.1 F.2.1 dX0_findWays_65 (by decide) ?_
  exact hK11 x0 x1 x2 v1 hx0 hx1 hr (lv_sub hl [1, 2, 3, 0] rfl) h
def fX0_findWays_57 (N : Nat) (K11 : Nat → Nat → Int32 → Int32 → St → Option (Int32 × St)) (x0 : Nat) (x1 : Nat) (x2 : Int32) (x3 : Int32) (z : St) : Option (Int32 × St) := zc (fX0_findFarWay N x0 x3 z) fun _ z2 => fX0_findWays_62 N K11 x0 x1 x2 x3 z2
set_option maxHeartbeats 4000000 in
set_option maxRecDepth 100000 in
theorem bX0_findWays_57 (hst : zSt B ids) (F : zFx p m c cX0_findWays 5 s args RX0 D cy B ids A) (hA : ∀ q : Nat, s.heap.size ≤ q → A q) {r : Int32} {z' : St} (E : zEnd p l e rmX0_findWays s m args below meth c cX0_findWays D cy B ids A Q none z' .return_ True) {N : Nat} {K11 : Nat → Nat → Int32 → Int32 → St → Option (Int32 × St)} (hK11 : ∀ (x0 : Nat) (x1 : Nat) (x2 : Int32) (x3 : Int32) (hx0 : (0, x0) ∈ ids) (hx1 : (1, x1) ∈ ids) {z : St} {H : Heap} {locs : List Loc} {ls : Array Slot} (hr : zRep D cy B ids A s.heap z H locs) (hl : lv_has ls 5 [(0, .ref (B 0 x0)), (1, .ref (B 1 x1)), (2, .int x2), (3, .int x3)]), K11 x0 x1 x2 x3 z = some (r, z') → W p l e rmX0_findWays s m args below meth c H locs 0 0 Q (F0 m 11 ls [])) (x0 : Nat) (x1 : Nat) (x2 : Int32) (x3 : Int32) (hx0 : (0, x0) ∈ ids) (hx1 : (1, x1) ∈ ids) {z : St} {H : Heap} {locs : List Loc} {ls : Array Slot} (hr : zRep D cy B ids A s.heap z H locs) (hl : lv_has ls 5 [(0, .ref (B 0 x0)), (1, .ref (B 1 x1)), (2, .int x2), (3, .int x3)]) (h : fX0_findWays_57 N K11 x0 x1 x2 x3 z = some (r, z')) : W p l e rmX0_findWays s m args below meth c H locs 0 0 Q (F0 m 57 ls []) := by
  unfold fX0_findWays_57 at h
  refine lv_aload_n F.1 F.2.1 dX0_findWays_57 rfl (lv_at hl 0 rfl) ?_
  refine lv_iload_n F.1 F.2.1 dX0_findWays_58 rfl (lv_at hl 3 rfl) ?_
  replace h := zc_some h
  obtain ⟨r1, z2, hc3, h⟩ := h
  refine zr_callv (zrun_V (As := [.int x3]) (rest := []) zq_1579 zq_1581 zs_X0_findFarWay zq_1582 zq_11 hdX0_findFarWay (by decide) (T := TX0) (N := 16) rfl (okX0_findFarWay l D cy B ids hst N x0 hx0 x3  hr.2.2 hc3) F hr hx0 hl.1 rfl (by decide) dX0_findWays_59 rfl rfl hroX0_findWays_X0_findFarWay ⟨Nat.zero_le _, Nat.zero_le _⟩) F hA hr (fun H locs hw4 hr => ?_)
  clear hc3
  exact bX0_findWays_62 hst F hA E hK11 x0 x1 x2 x3 hx0 hx1 hr (lv_sub hl [0, 1, 2, 3] rfl) h
def fX0_findWays_11b (N : Nat) (K11 : Nat → Nat → Int32 → Int32 → St → Option (Int32 × St)) (x0 : Nat) (x1 : Nat) (x2 : Int32) (x3 : Int32) (z : St) : Option (Int32 × St) := if x2 ≤ x3 then (some (0, z)) else (zc (fX1_portOn N x1 x3 z) fun r2 z3 => zo r2 (fX0_findWays_57 N K11 x0 x1 x2 x3 z3) fun a7 => zl (zgR z3 8 1 a7) fun y8 => zd y8 fun a9 => if (zgI z3 5 3 a9) = 0 then (fX0_findWays_57 N K11 x0 x1 x2 x3 z3) else (zc (fX0_setWay N x0 x3 (zgI z3 8 5 a7) (zgI z3 0 0 x0) x3 z3) fun _ z12 => fX0_findWays_62 N K11 x0 x1 x2 x3 z12))
def fX0_findWays_11 (N : Nat)  : Nat → Nat → Nat → Int32 → Int32 → St → Option (Int32 × St)
  | 0 => fun _ _ _ _ _ => none
  | n + 1 => fX0_findWays_11b N (fX0_findWays_11 N  n)
set_option maxHeartbeats 4000000 in
set_option maxRecDepth 100000 in
theorem bX0_findWays_11 (hst : zSt B ids) (F : zFx p m c cX0_findWays 5 s args RX0 D cy B ids A) (hA : ∀ q : Nat, s.heap.size ≤ q → A q) {r : Int32} {z' : St} (E : zEnd p l e rmX0_findWays s m args below meth c cX0_findWays D cy B ids A Q none z' .return_ True) {N : Nat} {K11 : Nat → Nat → Int32 → Int32 → St → Option (Int32 × St)} (hK11 : ∀ (x0 : Nat) (x1 : Nat) (x2 : Int32) (x3 : Int32) (hx0 : (0, x0) ∈ ids) (hx1 : (1, x1) ∈ ids) {z : St} {H : Heap} {locs : List Loc} {ls : Array Slot} (hr : zRep D cy B ids A s.heap z H locs) (hl : lv_has ls 5 [(0, .ref (B 0 x0)), (1, .ref (B 1 x1)), (2, .int x2), (3, .int x3)]), K11 x0 x1 x2 x3 z = some (r, z') → W p l e rmX0_findWays s m args below meth c H locs 0 0 Q (F0 m 11 ls [])) (x0 : Nat) (x1 : Nat) (x2 : Int32) (x3 : Int32) (hx0 : (0, x0) ∈ ids) (hx1 : (1, x1) ∈ ids) {z : St} {H : Heap} {locs : List Loc} {ls : Array Slot} (hr : zRep D cy B ids A s.heap z H locs) (hl : lv_has ls 5 [(0, .ref (B 0 x0)), (1, .ref (B 1 x1)), (2, .int x2), (3, .int x3)]) (h : fX0_findWays_11b N K11 x0 x1 x2 x3 z = some (r, z')) : W p l e rmX0_findWays s m args below meth c H locs 0 0 Q (F0 m 11 ls []) := by
  unfold fX0_findWays_11b at h
  refine lv_iload_n F.1 F.2.1 dX0_findWays_11 rfl (lv_at hl 3 rfl) ?_
  refine lv_iload_n F.1 F.2.1 dX0_findWays_12 rfl (lv_at hl 2 rfl) ?_
  refine lv_icmp_ge (tgt := 68) F.1 F.2.1 dX0_findWays_13 (by decide) (fun c1 => ?_) (fun c1 => ?_)
  · replace h := zi_t c1 h
    obtain ⟨rfl, rfl⟩ := zret h
    exact E _ _ _ _ dX0_findWays_68 trivial hr
  · replace h := zi_f c1 h
    refine lv_aload_n F.1 F.2.1 dX0_findWays_16 rfl (lv_at hl 1 rfl) ?_
    refine lv_iload_n F.1 F.2.1 dX0_findWays_17 rfl (lv_at hl 3 rfl) ?_
    replace h := zc_some h
    obtain ⟨r2, z3, hc4, h⟩ := h
    refine zr_callr (zrun_VN (As := [.int x3]) (rest := []) zn_1574 zq_295 zs_X1_portOn zq_297 zq_9 hdX1_portOn (by decide) (T := TX1) (N := 13) rfl (okX1_portOn l D cy B ids hst N x1 hx1 x3  hr.2.2 hc4) F hr hx1 hl.1 rfl (by decide) dX0_findWays_18 rfl rfl hroX0_findWays_X1_portOn ⟨Nat.zero_le _, Nat.zero_le _⟩) F hA hr (fun H locs hw5 hr => ?_)
    clear hc4
    refine zr_astore (lv' := [(4, va_rf (Option.map (B 8) r2)), (0, .ref (B 0 x0)), (1, .ref (B 1 x1)), (2, .int x2), (3, .int x3)]) F.1 F.2.1 dX0_findWays_21 hl (by decide) rfl (fun ls hl => ?_)
    refine zr_aload F.1 F.2.1 dX0_findWays_23 (lv_at hl 0 rfl) ?_
    refine zr_ifnull (tgt := 57) F.1 F.2.1 dX0_findWays_25 (by decide) (fun e6 => ?_) (fun a7 e6 => ?_)
    · replace h := zo_n e6 h
      subst e6
      exact bX0_findWays_57 hst F hA E hK11 x0 x1 x2 x3 hx0 hx1 hr (lv_sub hl [1, 2, 3, 4] rfl) h
    · replace h := zo_s e6 h
      subst e6
      refine lv_aload F.1 F.2.1 dX0_findWays_28 (lv_at hl 0 rfl) ?_
      refine gf0_106 F (hw5 _ rfl) hr dX0_findWays_30 (fun y8 ey8 => ?_)
      replace h := zl_sub ey8 h
      have hy8 := zal_g hr (hw5 _ rfl) (j := 1) rfl ey8
      clear ey8
      replace h := zd_some h
      obtain ⟨a9, rfl, h⟩ := h
      refine gf0_112 F (hy8 _ rfl) hr dX0_findWays_33 ?_
      refine lv_if_eq (tgt := 57) F.1 F.2.1 dX0_findWays_36 (by decide) (fun c10 => ?_) (fun c10 => ?_)
      · replace h := zi_t c10 h
        exact bX0_findWays_57 hst F hA E hK11 x0 x1 x2 x3 hx0 hx1 hr (lv_sub hl [1, 2, 3, 4] rfl) h
      · replace h := zi_f c10 h
        refine lv_aload_n F.1 F.2.1 dX0_findWays_39 rfl (lv_at hl 1 rfl) ?_
        refine lv_iload_n F.1 F.2.1 dX0_findWays_40 rfl (lv_at hl 4 rfl) ?_
        refine lv_aload F.1 F.2.1 dX0_findWays_41 (lv_at hl 0 rfl) ?_
        refine gf0_117 F (hw5 _ rfl) hr dX0_findWays_43 ?_
        refine lv_aload_n F.1 F.2.1 dX0_findWays_46 rfl (lv_at hl 1 rfl) ?_
        refine gf0_52 F hx0 hr dX0_findWays_47 ?_
        refine lv_iload_n F.1 F.2.1 dX0_findWays_50 rfl (lv_at hl 4 rfl) ?_
        replace h := zc_some h
        obtain ⟨r11, z12, hc13, h⟩ := h
        refine zr_callv (zrun_V (As := [.int x3, .int (zgI z3 8 5 a7), .int (zgI z3 0 0 x0), .int x3]) (rest := []) zq_1575 zq_1577 zs_X0_setWay zq_1578 zq_11 hdX0_setWay (by decide) (T := TX0) (N := 16) rfl (okX0_setWay l D cy B ids hst N x0 hx0 x3  (zgI z3 8 5 a7)  (zgI z3 0 0 x0)  x3  hr.2.2 hc13) F hr hx0 hl.1 rfl (by decide) dX0_findWays_51 rfl rfl hroX0_findWays_X0_setWay ⟨Nat.zero_le _, Nat.zero_le _⟩) F hA hr (fun H locs hw14 hr => ?_)
        clear hc13
        refine lv_goto (tgt := 62) F.1 F.2.1 dX0_findWays_54 (by decide) ?_
        exact bX0_findWays_62 hst F hA E hK11 x0 x1 x2 x3 hx0 hx1 hr (lv_sub hl [1, 2, 3, 4] rfl) h
theorem lX0_findWays_11 (hst : zSt B ids) (F : zFx p m c cX0_findWays 5 s args RX0 D cy B ids A) (hA : ∀ q : Nat, s.heap.size ≤ q → A q) {r : Int32} {z' : St} (E : zEnd p l e rmX0_findWays s m args below meth c cX0_findWays D cy B ids A Q none z' .return_ True) {N : Nat}  : ∀ (n : Nat) (x0 : Nat) (x1 : Nat) (x2 : Int32) (x3 : Int32) (hx0 : (0, x0) ∈ ids) (hx1 : (1, x1) ∈ ids) {z : St} {H : Heap} {locs : List Loc} {ls : Array Slot} (hr : zRep D cy B ids A s.heap z H locs) (hl : lv_has ls 5 [(0, .ref (B 0 x0)), (1, .ref (B 1 x1)), (2, .int x2), (3, .int x3)]), fX0_findWays_11 N  n x0 x1 x2 x3 z = some (r, z') → W p l e rmX0_findWays s m args below meth c H locs 0 0 Q (F0 m 11 ls []) := by
  intro n
  induction n with
  | zero => intro x0 x1 x2 x3 hx0 hx1 z H locs ls hr hl h; cases h
  | succ n ih => intro x0 x1 x2 x3 hx0 hx1 z H locs ls hr hl h; exact bX0_findWays_11 hst F hA E ih x0 x1 x2 x3 hx0 hx1 hr hl h
def fX0_findWays (N : Nat)  (x0 : Nat) (x1 : Nat) (x2 : Int32) (z : St) : Option (Int32 × St) := zl (zsI z 0 9 x0 (0 : Int32)) fun z1 => zc (fX0_findDistances N x0 z1) fun _ z3 => fX0_findWays_11 N N x0 x1 x2 (0 : Int32) z3
set_option maxHeartbeats 4000000 in
set_option maxRecDepth 100000 in
theorem bX0_findWays_0 (hst : zSt B ids) (F : zFx p m c cX0_findWays 5 s args RX0 D cy B ids A) (hA : ∀ q : Nat, s.heap.size ≤ q → A q) {r : Int32} {z' : St} (E : zEnd p l e rmX0_findWays s m args below meth c cX0_findWays D cy B ids A Q none z' .return_ True) {N : Nat}  (x0 : Nat) (x1 : Nat) (x2 : Int32) (hx0 : (0, x0) ∈ ids) (hx1 : (1, x1) ∈ ids) {z : St} {H : Heap} {locs : List Loc} {ls : Array Slot} (hr : zRep D cy B ids A s.heap z H locs) (hl : lv_has ls 5 [(0, .ref (B 0 x0)), (1, .ref (B 1 x1)), (2, .int x2)]) (h : fX0_findWays N x0 x1 x2 z = some (r, z')) : W p l e rmX0_findWays s m args below meth c H locs 0 0 Q (F0 m 0 ls []) := by
  unfold fX0_findWays at h
  refine lv_aload_n F.1 F.2.1 dX0_findWays_0 rfl (lv_at hl 0 rfl) ?_
  refine lv_iconst (v := (0 : Int32)) F.1 F.2.1 dX0_findWays_1 (by decide) ?_
  refine pf0_29 F hx0 hr dX0_findWays_2 (0 : Int32) (by decide) (fun H locs z1 ez1 hr => ?_)
  replace h := zl_sub ez1 h
  clear ez1
  refine lv_aload_n F.1 F.2.1 dX0_findWays_5 rfl (lv_at hl 0 rfl) ?_
  replace h := zc_some h
  obtain ⟨r2, z3, hc4, h⟩ := h
  refine zr_callv (zrun_V (As := []) (rest := []) zq_1561 zq_1563 zs_X0_findDistances zq_1564 zq_11 hdX0_findDistances (by decide) (T := TX0) (N := 16) rfl (okX0_findDistances l D cy B ids hst N x0 hx0 hr.2.2 hc4) F hr hx0 hl.1 rfl (by decide) dX0_findWays_6 rfl rfl hroX0_findWays_X0_findDistances ⟨Nat.zero_le _, Nat.zero_le _⟩) F hA hr (fun H locs hw5 hr => ?_)
  clear hc4
  refine lv_iconst (v := (0 : Int32)) F.1 F.2.1 dX0_findWays_9 (by decide) ?_
  refine lv_istore_n (lv' := [(3, .int (0 : Int32)), (0, .ref (B 0 x0)), (1, .ref (B 1 x1)), (2, .int x2)]) F.1 F.2.1 dX0_findWays_10 rfl hl (by decide) rfl (fun ls hl => ?_)
  exact lX0_findWays_11 hst F hA E  _ x0 x1 x2 (0 : Int32) hx0 hx1 hr (lv_sub hl [1, 2, 3, 0] rfl) h
end SX0_findWays
set_option maxRecDepth 100000 in
theorem okX0_findWays (l : Launch) (D : va_G) (cy : Nat → ClassId) (B : Nat → Nat → Nat) (ids : List (Nat × Nat)) (hst : zSt B ids) (N : Nat) (x0 : Nat) (hx0 : (0, x0) ∈ ids) (x1 : Nat) (hx1 : (1, x1) ∈ ids) (x2 : Int32) {z : St} {r : Int32} {z' : St} (hW : zWf ids z) (h : fX0_findWays N x0 x1 x2 z = some (r, z')) : zM l yX0_findWays (zws yX0_findWays cX0_findWays 5 none) rmX0_findWays D cy B ids [.ref (B 0 x0), .ref (B 1 x1), .int x2] none True z z' :=
  zM_of hst hW (by decide +kernel) (Nat.le_of_ble_eq_true rfl) (fun p e s m args below meth c A ls F hA hret hlocks hr hl => bX0_findWays_0 hst F hA (zEnd_v F hret hlocks) x0 x1 x2 hx0 hx1 hr hl h)
abbrev rmX1_nextNumber : Room := { frames := 0, cells := 0, slots := 0, locals := 0 }
theorem hdX1_nextNumber : yX1_nextNumber.cls ≠ "java/lang/invoke/MethodHandle" ∧ yX1_nextNumber.cls ≠ "java/lang/invoke/VarHandle" ∧ (parseMethodDescriptor yX1_nextNumber.desc).map (fun d => d.parameters.length) = some 0 := by decide +kernel
section SX1_nextNumber
variable {p : Program} {l : Launch} {e : Env} {s : State} {m : MethodId} {args : Array Value} {below : List Frame} {meth : Method} {c : Code} {Q : State → Prop} {D : va_G} {cy : Nat → ClassId} {B : Nat → Nat → Nat} {ids : List (Nat × Nat)} {A : Nat → Prop}
def fX1_nextNumber (N : Nat)  (x0 : Nat) (z : St) : Option (Int32 × St) := zk (2 : Int32) 8 <| zk (2 : Int32) 8 <| zl (zsA z 113 x0 (Int32.toNatClampNeg (2 : Int32)) ((zgA z 113 x0 (Int32.toNatClampNeg (2 : Int32))) + (1 : Int32))) fun z3 => zk (2 : Int32) 8 <| some (((zgA z3 113 x0 (Int32.toNatClampNeg (2 : Int32))) - (1 : Int32)), z3)
set_option maxHeartbeats 4000000 in
set_option maxRecDepth 100000 in
theorem bX1_nextNumber_0 (hst : zSt B ids) (F : zFx p m c cX1_nextNumber 1 s args RX1 D cy B ids A) (hA : ∀ q : Nat, s.heap.size ≤ q → A q) {r : Int32} {z' : St} (E : zEnd p l e rmX1_nextNumber s m args below meth c cX1_nextNumber D cy B ids A Q (some (.int r)) z' .ireturn True) {N : Nat}  (x0 : Nat) (hx0 : (1, x0) ∈ ids) {z : St} {H : Heap} {locs : List Loc} {ls : Array Slot} (hr : zRep D cy B ids A s.heap z H locs) (hl : lv_has ls 1 [(0, .ref (B 1 x0))]) (h : fX1_nextNumber N x0 z = some (r, z')) : W p l e rmX1_nextNumber s m args below meth c H locs 0 0 Q (F0 m 0 ls []) := by
  unfold fX1_nextNumber at h
  refine lv_aload_n F.1 F.2.1 dX1_nextNumber_0 rfl (lv_at hl 0 rfl) ?_
  refine gf1_17 F hx0 hr dX1_nextNumber_1 ?_
  refine lv_iconst (v := (2 : Int32)) F.1 F.2.1 dX1_nextNumber_4 (by decide) ?_
  refine lv_dup2_11 F.1 F.2.1 dX1_nextNumber_5 rfl rfl ?_
  replace h := zk_some h
  obtain ⟨c1, h⟩ := h
  refine zr_iald (k := 113) (by decide) rfl (by decide) F (zal_a F hx0 (j := 4) rfl) hr dX1_nextNumber_6 c1 ?_
  refine lv_iconst (v := (1 : Int32)) F.1 F.2.1 dX1_nextNumber_7 (by decide) ?_
  refine lv_iadd F.1 F.2.1 dX1_nextNumber_8 ?_
  replace h := zk_some h
  obtain ⟨c2, h⟩ := h
  refine zr_iast (k := 113) (by decide) rfl (by decide) F (zal_a F hx0 (j := 4) rfl) hr dX1_nextNumber_9 c2 (fun H locs z3 ez3 hr => ?_)
  replace h := zl_sub ez3 h
  clear ez3
  refine lv_aload_n F.1 F.2.1 dX1_nextNumber_10 rfl (lv_at hl 0 rfl) ?_
  refine gf1_17 F hx0 hr dX1_nextNumber_11 ?_
  refine lv_iconst (v := (2 : Int32)) F.1 F.2.1 dX1_nextNumber_14 (by decide) ?_
  replace h := zk_some h
  obtain ⟨c4, h⟩ := h
  refine zr_iald (k := 113) (by decide) rfl (by decide) F (zal_a F hx0 (j := 4) rfl) hr dX1_nextNumber_15 c4 ?_
  refine lv_iconst (v := (1 : Int32)) F.1 F.2.1 dX1_nextNumber_16 (by decide) ?_
  refine lv_isub F.1 F.2.1 dX1_nextNumber_17 ?_
  obtain ⟨rfl, rfl⟩ := zret h
  exact E _ _ _ _ dX1_nextNumber_18 trivial hr
end SX1_nextNumber
set_option maxRecDepth 100000 in
theorem okX1_nextNumber (l : Launch) (D : va_G) (cy : Nat → ClassId) (B : Nat → Nat → Nat) (ids : List (Nat × Nat)) (hst : zSt B ids) (N : Nat) (x0 : Nat) (hx0 : (1, x0) ∈ ids) {z : St} {r : Int32} {z' : St} (hW : zWf ids z) (h : fX1_nextNumber N x0 z = some (r, z')) : zM l yX1_nextNumber (zws yX1_nextNumber cX1_nextNumber 1 (some .int)) rmX1_nextNumber D cy B ids [.ref (B 1 x0)] (some (.int r)) True z z' :=
  zM_of hst hW (by decide +kernel) (Nat.le_of_ble_eq_true rfl) (fun p e s m args below meth c A ls F hA hret hlocks hr hl => bX1_nextNumber_0 hst F hA (zEnd_i F hret hlocks) x0 hx0 hr hl h)
abbrev rmX1_hasAddress : Room := { frames := 0, cells := 0, slots := 0, locals := 0 }
theorem hdX1_hasAddress : yX1_hasAddress.cls ≠ "java/lang/invoke/MethodHandle" ∧ yX1_hasAddress.cls ≠ "java/lang/invoke/VarHandle" ∧ (parseMethodDescriptor yX1_hasAddress.desc).map (fun d => d.parameters.length) = some 1 := by decide +kernel
section SX1_hasAddress
variable {p : Program} {l : Launch} {e : Env} {s : State} {m : MethodId} {args : Array Value} {below : List Frame} {meth : Method} {c : Code} {Q : State → Prop} {D : va_G} {cy : Nat → ClassId} {B : Nat → Nat → Nat} {ids : List (Nat × Nat)} {A : Nat → Prop}
def fX1_hasAddress_2b (N : Nat) (K2 : Nat → Int32 → Int32 → St → Option (Int32 × St)) (x0 : Nat) (x1 : Int32) (x2 : Int32) (z : St) : Option (Int32 × St) := if (zgI z 1 3 x0) ≤ x2 then (some ((0 : Int32), z)) else (zk x2 6 <| zl (zgQ z 112 x0 (Int32.toNatClampNeg x2)) fun y3 => zd y3 fun a4 => if ¬ (zgI z 8 4 a4) = x1 then (zl (x2 + 1) fun v6 => K2 x0 x1 v6 z) else (some ((1 : Int32), z)))
def fX1_hasAddress_2 (N : Nat)  : Nat → Nat → Int32 → Int32 → St → Option (Int32 × St)
  | 0 => fun _ _ _ _ => none
  | n + 1 => fX1_hasAddress_2b N (fX1_hasAddress_2 N  n)
set_option maxHeartbeats 4000000 in
set_option maxRecDepth 100000 in
theorem bX1_hasAddress_2 (hst : zSt B ids) (F : zFx p m c cX1_hasAddress 3 s args RX1 D cy B ids A) (hA : ∀ q : Nat, s.heap.size ≤ q → A q) {r : Int32} {z' : St} (E : zEnd p l e rmX1_hasAddress s m args below meth c cX1_hasAddress D cy B ids A Q (some (.int r)) z' .ireturn (r = 0 ∨ r = 1)) {N : Nat} {K2 : Nat → Int32 → Int32 → St → Option (Int32 × St)} (hK2 : ∀ (x0 : Nat) (x1 : Int32) (x2 : Int32) (hx0 : (1, x0) ∈ ids) {z : St} {H : Heap} {locs : List Loc} {ls : Array Slot} (hr : zRep D cy B ids A s.heap z H locs) (hl : lv_has ls 3 [(0, .ref (B 1 x0)), (1, .int x1), (2, .int x2)]), K2 x0 x1 x2 z = some (r, z') → W p l e rmX1_hasAddress s m args below meth c H locs 0 0 Q (F0 m 2 ls [])) (x0 : Nat) (x1 : Int32) (x2 : Int32) (hx0 : (1, x0) ∈ ids) {z : St} {H : Heap} {locs : List Loc} {ls : Array Slot} (hr : zRep D cy B ids A s.heap z H locs) (hl : lv_has ls 3 [(0, .ref (B 1 x0)), (1, .int x1), (2, .int x2)]) (h : fX1_hasAddress_2b N K2 x0 x1 x2 z = some (r, z')) : W p l e rmX1_hasAddress s m args below meth c H locs 0 0 Q (F0 m 2 ls []) := by
  unfold fX1_hasAddress_2b at h
  refine lv_iload_n F.1 F.2.1 dX1_hasAddress_2 rfl (lv_at hl 2 rfl) ?_
  refine lv_aload_n F.1 F.2.1 dX1_hasAddress_3 rfl (lv_at hl 0 rfl) ?_
  refine gf1_63 F hx0 hr dX1_hasAddress_4 ?_
  refine lv_icmp_ge (tgt := 31) F.1 F.2.1 dX1_hasAddress_7 (by decide) (fun c1 => ?_) (fun c1 => ?_)
  · replace h := zi_t c1 h
    refine lv_iconst (v := (0 : Int32)) F.1 F.2.1 dX1_hasAddress_31 (by decide) ?_
    obtain ⟨rfl, rfl⟩ := zret h
    exact E _ _ _ _ dX1_hasAddress_32 (by decide) hr
  · replace h := zi_f c1 h
    refine lv_aload_n F.1 F.2.1 dX1_hasAddress_10 rfl (lv_at hl 0 rfl) ?_
    refine gf1_11 F hx0 hr dX1_hasAddress_11 ?_
    refine lv_iload_n F.1 F.2.1 dX1_hasAddress_14 rfl (lv_at hl 2 rfl) ?_
    replace h := zk_some h
    obtain ⟨c2, h⟩ := h
    refine zr_aaldv (k := 112) (by decide) rfl rfl (zlen_d (by decide)) F (zal_a F hx0 (j := 2) rfl) hr dX1_hasAddress_15 c2 (fun y3 ey3 => ?_)
    replace h := zl_sub ey3 h
    have hy3 := zal_q hr (zal_a F hx0 (j := 2) rfl) rfl ey3
    clear ey3
    replace h := zd_some h
    obtain ⟨a4, rfl, h⟩ := h
    refine gf1_73 F (hy3 _ rfl) hr dX1_hasAddress_16 ?_
    refine lv_iload_n F.1 F.2.1 dX1_hasAddress_19 rfl (lv_at hl 1 rfl) ?_
    refine lv_icmp_ne (tgt := 25) F.1 F.2.1 dX1_hasAddress_20 (by decide) (fun c5 => ?_) (fun c5 => ?_)
    · replace h := zi_t c5 h
      obtain ⟨v6, ev6⟩ : ∃ y : Int32, y = (x2 + 1) := ⟨_, rfl⟩
      replace h := zl_sub ev6 h
      refine lv_iinc (v := v6) (lv' := [(2, .int v6), (0, .ref (B 1 x0)), (1, .int x1)]) F.1 F.2.1 dX1_hasAddress_25 hl (k := 2) rfl (by rw [ev6]; rfl) (by decide) rfl (fun ls hl => ?_)
      refine lv_goto (tgt := 2) F.1 F.2.1 dX1_hasAddress_28 (by decide) ?_
      exact hK2 x0 x1 v6 hx0 hr (lv_sub hl [1, 2, 0] rfl) h
    · replace h := zi_f (fun q => q c5) h
      refine lv_iconst (v := (1 : Int32)) F.1 F.2.1 dX1_hasAddress_23 (by decide) ?_
      obtain ⟨rfl, rfl⟩ := zret h
      exact E _ _ _ _ dX1_hasAddress_24 (by decide) hr
theorem lX1_hasAddress_2 (hst : zSt B ids) (F : zFx p m c cX1_hasAddress 3 s args RX1 D cy B ids A) (hA : ∀ q : Nat, s.heap.size ≤ q → A q) {r : Int32} {z' : St} (E : zEnd p l e rmX1_hasAddress s m args below meth c cX1_hasAddress D cy B ids A Q (some (.int r)) z' .ireturn (r = 0 ∨ r = 1)) {N : Nat}  : ∀ (n : Nat) (x0 : Nat) (x1 : Int32) (x2 : Int32) (hx0 : (1, x0) ∈ ids) {z : St} {H : Heap} {locs : List Loc} {ls : Array Slot} (hr : zRep D cy B ids A s.heap z H locs) (hl : lv_has ls 3 [(0, .ref (B 1 x0)), (1, .int x1), (2, .int x2)]), fX1_hasAddress_2 N  n x0 x1 x2 z = some (r, z') → W p l e rmX1_hasAddress s m args below meth c H locs 0 0 Q (F0 m 2 ls []) := by
  intro n
  induction n with
  | zero => intro x0 x1 x2 hx0 z H locs ls hr hl h; cases h
  | succ n ih => intro x0 x1 x2 hx0 z H locs ls hr hl h; exact bX1_hasAddress_2 hst F hA E ih x0 x1 x2 hx0 hr hl h
def fX1_hasAddress (N : Nat)  (x0 : Nat) (x1 : Int32) (z : St) : Option (Int32 × St) := fX1_hasAddress_2 N N x0 x1 (0 : Int32) z
set_option maxHeartbeats 4000000 in
set_option maxRecDepth 100000 in
theorem bX1_hasAddress_0 (hst : zSt B ids) (F : zFx p m c cX1_hasAddress 3 s args RX1 D cy B ids A) (hA : ∀ q : Nat, s.heap.size ≤ q → A q) {r : Int32} {z' : St} (E : zEnd p l e rmX1_hasAddress s m args below meth c cX1_hasAddress D cy B ids A Q (some (.int r)) z' .ireturn (r = 0 ∨ r = 1)) {N : Nat}  (x0 : Nat) (x1 : Int32) (hx0 : (1, x0) ∈ ids) {z : St} {H : Heap} {locs : List Loc} {ls : Array Slot} (hr : zRep D cy B ids A s.heap z H locs) (hl : lv_has ls 3 [(0, .ref (B 1 x0)), (1, .int x1)]) (h : fX1_hasAddress N x0 x1 z = some (r, z')) : W p l e rmX1_hasAddress s m args below meth c H locs 0 0 Q (F0 m 0 ls []) := by
  unfold fX1_hasAddress at h
  refine lv_iconst (v := (0 : Int32)) F.1 F.2.1 dX1_hasAddress_0 (by decide) ?_
  refine lv_istore_n (lv' := [(2, .int (0 : Int32)), (0, .ref (B 1 x0)), (1, .int x1)]) F.1 F.2.1 dX1_hasAddress_1 rfl hl (by decide) rfl (fun ls hl => ?_)
  exact lX1_hasAddress_2 hst F hA E  _ x0 x1 (0 : Int32) hx0 hr (lv_sub hl [1, 2, 0] rfl) h
end SX1_hasAddress
set_option maxRecDepth 100000 in
theorem okX1_hasAddress (l : Launch) (D : va_G) (cy : Nat → ClassId) (B : Nat → Nat → Nat) (ids : List (Nat × Nat)) (hst : zSt B ids) (N : Nat) (x0 : Nat) (hx0 : (1, x0) ∈ ids) (x1 : Int32) {z : St} {r : Int32} {z' : St} (hW : zWf ids z) (h : fX1_hasAddress N x0 x1 z = some (r, z')) : zM l yX1_hasAddress (zws yX1_hasAddress cX1_hasAddress 3 (some .boolean)) rmX1_hasAddress D cy B ids [.ref (B 1 x0), .int x1] (some (.int r)) (r = 0 ∨ r = 1) z z' :=
  zM_of hst hW (by decide +kernel) (Nat.le_of_ble_eq_true rfl) (fun p e s m args below meth c A ls F hA hret hlocks hr hl => bX1_hasAddress_0 hst F hA (zEnd_z F hret hlocks) x0 x1 hx0 hr hl h)
abbrev rmX1_netsUp : Room := { frames := 0, cells := 0, slots := 0, locals := 0 }
theorem hdX1_netsUp : yX1_netsUp.cls ≠ "java/lang/invoke/MethodHandle" ∧ yX1_netsUp.cls ≠ "java/lang/invoke/VarHandle" ∧ (parseMethodDescriptor yX1_netsUp.desc).map (fun d => d.parameters.length) = some 0 := by decide +kernel
section SX1_netsUp
variable {p : Program} {l : Launch} {e : Env} {s : State} {m : MethodId} {args : Array Value} {below : List Frame} {meth : Method} {c : Code} {Q : State → Prop} {D : va_G} {cy : Nat → ClassId} {B : Nat → Nat → Nat} {ids : List (Nat × Nat)} {A : Nat → Prop}
def fX1_netsUp_44 (N : Nat) (K4 : Nat → Int32 → Int32 → St → Option (Int32 × St)) (x0 : Nat) (x1 : Int32) (x2 : Int32) (z : St) : Option (Int32 × St) := zl (x2 + 1) fun v1 => K4 x0 x1 v1 z
set_option maxHeartbeats 4000000 in
set_option maxRecDepth 100000 in
theorem bX1_netsUp_44 (hst : zSt B ids) (F : zFx p m c cX1_netsUp 3 s args RX1 D cy B ids A) (hA : ∀ q : Nat, s.heap.size ≤ q → A q) {r : Int32} {z' : St} (E : zEnd p l e rmX1_netsUp s m args below meth c cX1_netsUp D cy B ids A Q (some (.int r)) z' .ireturn True) {N : Nat} {K4 : Nat → Int32 → Int32 → St → Option (Int32 × St)} (hK4 : ∀ (x0 : Nat) (x1 : Int32) (x2 : Int32) (hx0 : (1, x0) ∈ ids) {z : St} {H : Heap} {locs : List Loc} {ls : Array Slot} (hr : zRep D cy B ids A s.heap z H locs) (hl : lv_has ls 3 [(0, .ref (B 1 x0)), (1, .int x1), (2, .int x2)]), K4 x0 x1 x2 z = some (r, z') → W p l e rmX1_netsUp s m args below meth c H locs 0 0 Q (F0 m 4 ls [])) (x0 : Nat) (x1 : Int32) (x2 : Int32) (hx0 : (1, x0) ∈ ids) {z : St} {H : Heap} {locs : List Loc} {ls : Array Slot} (hr : zRep D cy B ids A s.heap z H locs) (hl : lv_has ls 3 [(0, .ref (B 1 x0)), (1, .int x1), (2, .int x2)]) (h : fX1_netsUp_44 N K4 x0 x1 x2 z = some (r, z')) : W p l e rmX1_netsUp s m args below meth c H locs 0 0 Q (F0 m 44 ls []) := by
  unfold fX1_netsUp_44 at h
  obtain ⟨v1, ev1⟩ : ∃ y : Int32, y = (x2 + 1) := ⟨_, rfl⟩
  replace h := zl_sub ev1 h
  refine lv_iinc (v := v1) (lv' := [(2, .int v1), (0, .ref (B 1 x0)), (1, .int x1)]) F.1 F.2.1 dX1_netsUp_44 hl (k := 2) rfl (by rw [ev1]; rfl) (by decide) rfl (fun ls hl => ?_)
  refine lv_goto (tgt := 4) F.1 F.2.1 dX1_netsUp_47 (by decide) ?_
  exact hK4 x0 x1 v1 hx0 hr (lv_sub hl [1, 2, 0] rfl) h
def fX1_netsUp_4b (N : Nat) (K4 : Nat → Int32 → Int32 → St → Option (Int32 × St)) (x0 : Nat) (x1 : Int32) (x2 : Int32) (z : St) : Option (Int32 × St) := if (zgI z 1 3 x0) ≤ x2 then (some (x1, z)) else (zk x2 6 <| zl (zgQ z 112 x0 (Int32.toNatClampNeg x2)) fun y3 => zd y3 fun a4 => zl (zgR z 8 1 a4) fun y5 => zd y5 fun a6 => if (zgI z 5 3 a6) = 0 then (fX1_netsUp_44 N K4 x0 x1 x2 z) else (zk x2 6 <| zl (zgQ z 112 x0 (Int32.toNatClampNeg x2)) fun y9 => zd y9 fun a10 => zl (zgR z 8 1 a10) fun y11 => zd y11 fun a12 => zl (x1 ||| ((1 : Int32) <<< ((zgI z 5 0 a12) &&& 31))) fun v13 => fX1_netsUp_44 N K4 x0 v13 x2 z))
def fX1_netsUp_4 (N : Nat)  : Nat → Nat → Int32 → Int32 → St → Option (Int32 × St)
  | 0 => fun _ _ _ _ => none
  | n + 1 => fX1_netsUp_4b N (fX1_netsUp_4 N  n)
set_option maxHeartbeats 4000000 in
set_option maxRecDepth 100000 in
theorem bX1_netsUp_4 (hst : zSt B ids) (F : zFx p m c cX1_netsUp 3 s args RX1 D cy B ids A) (hA : ∀ q : Nat, s.heap.size ≤ q → A q) {r : Int32} {z' : St} (E : zEnd p l e rmX1_netsUp s m args below meth c cX1_netsUp D cy B ids A Q (some (.int r)) z' .ireturn True) {N : Nat} {K4 : Nat → Int32 → Int32 → St → Option (Int32 × St)} (hK4 : ∀ (x0 : Nat) (x1 : Int32) (x2 : Int32) (hx0 : (1, x0) ∈ ids) {z : St} {H : Heap} {locs : List Loc} {ls : Array Slot} (hr : zRep D cy B ids A s.heap z H locs) (hl : lv_has ls 3 [(0, .ref (B 1 x0)), (1, .int x1), (2, .int x2)]), K4 x0 x1 x2 z = some (r, z') → W p l e rmX1_netsUp s m args below meth c H locs 0 0 Q (F0 m 4 ls [])) (x0 : Nat) (x1 : Int32) (x2 : Int32) (hx0 : (1, x0) ∈ ids) {z : St} {H : Heap} {locs : List Loc} {ls : Array Slot} (hr : zRep D cy B ids A s.heap z H locs) (hl : lv_has ls 3 [(0, .ref (B 1 x0)), (1, .int x1), (2, .int x2)]) (h : fX1_netsUp_4b N K4 x0 x1 x2 z = some (r, z')) : W p l e rmX1_netsUp s m args below meth c H locs 0 0 Q (F0 m 4 ls []) := by
  unfold fX1_netsUp_4b at h
  refine lv_iload_n F.1 F.2.1 dX1_netsUp_4 rfl (lv_at hl 2 rfl) ?_
  refine lv_aload_n F.1 F.2.1 dX1_netsUp_5 rfl (lv_at hl 0 rfl) ?_
  refine gf1_63 F hx0 hr dX1_netsUp_6 ?_
  refine lv_icmp_ge (tgt := 50) F.1 F.2.1 dX1_netsUp_9 (by decide) (fun c1 => ?_) (fun c1 => ?_)
  · replace h := zi_t c1 h
    refine lv_iload_n F.1 F.2.1 dX1_netsUp_50 rfl (lv_at hl 1 rfl) ?_
    obtain ⟨rfl, rfl⟩ := zret h
    exact E _ _ _ _ dX1_netsUp_51 trivial hr
  · replace h := zi_f c1 h
    refine lv_aload_n F.1 F.2.1 dX1_netsUp_12 rfl (lv_at hl 0 rfl) ?_
    refine gf1_11 F hx0 hr dX1_netsUp_13 ?_
    refine lv_iload_n F.1 F.2.1 dX1_netsUp_16 rfl (lv_at hl 2 rfl) ?_
    replace h := zk_some h
    obtain ⟨c2, h⟩ := h
    refine zr_aaldv (k := 112) (by decide) rfl rfl (zlen_d (by decide)) F (zal_a F hx0 (j := 2) rfl) hr dX1_netsUp_17 c2 (fun y3 ey3 => ?_)
    replace h := zl_sub ey3 h
    have hy3 := zal_q hr (zal_a F hx0 (j := 2) rfl) rfl ey3
    clear ey3
    replace h := zd_some h
    obtain ⟨a4, rfl, h⟩ := h
    refine gf1_66 F (hy3 _ rfl) hr dX1_netsUp_18 (fun y5 ey5 => ?_)
    replace h := zl_sub ey5 h
    have hy5 := zal_g hr (hy3 _ rfl) (j := 1) rfl ey5
    clear ey5
    replace h := zd_some h
    obtain ⟨a6, rfl, h⟩ := h
    refine gf1_76 F (hy5 _ rfl) hr dX1_netsUp_21 ?_
    refine lv_if_eq (tgt := 44) F.1 F.2.1 dX1_netsUp_24 (by decide) (fun c7 => ?_) (fun c7 => ?_)
    · replace h := zi_t c7 h
      exact bX1_netsUp_44 hst F hA E hK4 x0 x1 x2 hx0 hr (lv_sub hl [0, 1, 2] rfl) h
    · replace h := zi_f c7 h
      refine lv_iload_n F.1 F.2.1 dX1_netsUp_27 rfl (lv_at hl 1 rfl) ?_
      refine lv_iconst (v := (1 : Int32)) F.1 F.2.1 dX1_netsUp_28 (by decide) ?_
      refine lv_aload_n F.1 F.2.1 dX1_netsUp_29 rfl (lv_at hl 0 rfl) ?_
      refine gf1_11 F hx0 hr dX1_netsUp_30 ?_
      refine lv_iload_n F.1 F.2.1 dX1_netsUp_33 rfl (lv_at hl 2 rfl) ?_
      replace h := zk_some h
      obtain ⟨c8, h⟩ := h
      refine zr_aaldv (k := 112) (by decide) rfl rfl (zlen_d (by decide)) F (zal_a F hx0 (j := 2) rfl) hr dX1_netsUp_34 c8 (fun y9 ey9 => ?_)
      replace h := zl_sub ey9 h
      have hy9 := zal_q hr (zal_a F hx0 (j := 2) rfl) rfl ey9
      clear ey9
      replace h := zd_some h
      obtain ⟨a10, rfl, h⟩ := h
      refine gf1_66 F (hy9 _ rfl) hr dX1_netsUp_35 (fun y11 ey11 => ?_)
      replace h := zl_sub ey11 h
      have hy11 := zal_g hr (hy9 _ rfl) (j := 1) rfl ey11
      clear ey11
      replace h := zd_some h
      obtain ⟨a12, rfl, h⟩ := h
      refine gf1_70 F (hy11 _ rfl) hr dX1_netsUp_38 ?_
      refine lv_ishl F.1 F.2.1 dX1_netsUp_41 ?_
      refine lv_ior F.1 F.2.1 dX1_netsUp_42 ?_
      refine lv_topi (fun v13 ev13 => ?_)
      replace h := zl_sub ev13 h
      refine lv_istore_n (lv' := [(1, .int v13), (0, .ref (B 1 x0)), (2, .int x2)]) F.1 F.2.1 dX1_netsUp_43 rfl hl (by decide) rfl (fun ls hl => ?_)
      exact bX1_netsUp_44 hst F hA E hK4 x0 v13 x2 hx0 hr (lv_sub hl [1, 0, 2] rfl) h
theorem lX1_netsUp_4 (hst : zSt B ids) (F : zFx p m c cX1_netsUp 3 s args RX1 D cy B ids A) (hA : ∀ q : Nat, s.heap.size ≤ q → A q) {r : Int32} {z' : St} (E : zEnd p l e rmX1_netsUp s m args below meth c cX1_netsUp D cy B ids A Q (some (.int r)) z' .ireturn True) {N : Nat}  : ∀ (n : Nat) (x0 : Nat) (x1 : Int32) (x2 : Int32) (hx0 : (1, x0) ∈ ids) {z : St} {H : Heap} {locs : List Loc} {ls : Array Slot} (hr : zRep D cy B ids A s.heap z H locs) (hl : lv_has ls 3 [(0, .ref (B 1 x0)), (1, .int x1), (2, .int x2)]), fX1_netsUp_4 N  n x0 x1 x2 z = some (r, z') → W p l e rmX1_netsUp s m args below meth c H locs 0 0 Q (F0 m 4 ls []) := by
  intro n
  induction n with
  | zero => intro x0 x1 x2 hx0 z H locs ls hr hl h; cases h
  | succ n ih => intro x0 x1 x2 hx0 z H locs ls hr hl h; exact bX1_netsUp_4 hst F hA E ih x0 x1 x2 hx0 hr hl h
def fX1_netsUp (N : Nat)  (x0 : Nat) (z : St) : Option (Int32 × St) := fX1_netsUp_4 N N x0 (0 : Int32) (0 : Int32) z
set_option maxHeartbeats 4000000 in
set_option maxRecDepth 100000 in
theorem bX1_netsUp_0 (hst : zSt B ids) (F : zFx p m c cX1_netsUp 3 s args RX1 D cy B ids A) (hA : ∀ q : Nat, s.heap.size ≤ q → A q) {r : Int32} {z' : St} (E : zEnd p l e rmX1_netsUp s m args below meth c cX1_netsUp D cy B ids A Q (some (.int r)) z' .ireturn True) {N : Nat}  (x0 : Nat) (hx0 : (1, x0) ∈ ids) {z : St} {H : Heap} {locs : List Loc} {ls : Array Slot} (hr : zRep D cy B ids A s.heap z H locs) (hl : lv_has ls 3 [(0, .ref (B 1 x0))]) (h : fX1_netsUp N x0 z = some (r, z')) : W p l e rmX1_netsUp s m args below meth c H locs 0 0 Q (F0 m 0 ls []) := by
  unfold fX1_netsUp at h
  refine lv_iconst (v := (0 : Int32)) F.1 F.2.1 dX1_netsUp_0 (by decide) ?_
  refine lv_istore_n (lv' := [(1, .int (0 : Int32)), (0, .ref (B 1 x0))]) F.1 F.2.1 dX1_netsUp_1 rfl hl (by decide) rfl (fun ls hl => ?_)
  refine lv_iconst (v := (0 : Int32)) F.1 F.2.1 dX1_netsUp_2 (by decide) ?_
  refine lv_istore_n (lv' := [(2, .int (0 : Int32)), (1, .int (0 : Int32)), (0, .ref (B 1 x0))]) F.1 F.2.1 dX1_netsUp_3 rfl hl (by decide) rfl (fun ls hl => ?_)
  exact lX1_netsUp_4 hst F hA E  _ x0 (0 : Int32) (0 : Int32) hx0 hr (lv_sub hl [2, 1, 0] rfl) h
end SX1_netsUp
set_option maxRecDepth 100000 in
theorem okX1_netsUp (l : Launch) (D : va_G) (cy : Nat → ClassId) (B : Nat → Nat → Nat) (ids : List (Nat × Nat)) (hst : zSt B ids) (N : Nat) (x0 : Nat) (hx0 : (1, x0) ∈ ids) {z : St} {r : Int32} {z' : St} (hW : zWf ids z) (h : fX1_netsUp N x0 z = some (r, z')) : zM l yX1_netsUp (zws yX1_netsUp cX1_netsUp 3 (some .int)) rmX1_netsUp D cy B ids [.ref (B 1 x0)] (some (.int r)) True z z' :=
  zM_of hst hW (by decide +kernel) (Nat.le_of_ble_eq_true rfl) (fun p e s m args below meth c A ls F hA hret hlocks hr hl => bX1_netsUp_0 hst F hA (zEnd_i F hret hlocks) x0 hx0 hr hl h)
abbrev rmX1_partialFor : Room := { frames := 0, cells := 0, slots := 0, locals := 0 }
theorem hdX1_partialFor : yX1_partialFor.cls ≠ "java/lang/invoke/MethodHandle" ∧ yX1_partialFor.cls ≠ "java/lang/invoke/VarHandle" ∧ (parseMethodDescriptor yX1_partialFor.desc).map (fun d => d.parameters.length) = some 1 := by decide +kernel
section SX1_partialFor
variable {p : Program} {l : Launch} {e : Env} {s : State} {m : MethodId} {args : Array Value} {below : List Frame} {meth : Method} {c : Code} {Q : State → Prop} {D : va_G} {cy : Nat → ClassId} {B : Nat → Nat → Nat} {ids : List (Nat × Nat)} {A : Nat → Prop}
def fX1_partialFor_72 (N : Nat) (K2 : Nat → Nat → Int32 → St → Option (Int32 × St)) (x0 : Nat) (x1 : Nat) (x2 : Int32) (z : St) : Option (Int32 × St) := zl (x2 + 1) fun v1 => K2 x0 x1 v1 z
set_option maxHeartbeats 4000000 in
set_option maxRecDepth 100000 in
theorem bX1_partialFor_72 (hst : zSt B ids) (F : zFx p m c cX1_partialFor 4 s args RX1 D cy B ids A) (hA : ∀ q : Nat, s.heap.size ≤ q → A q) {r : Int32} {z' : St} (E : zEnd p l e rmX1_partialFor s m args below meth c cX1_partialFor D cy B ids A Q (some (.int r)) z' .ireturn True) {N : Nat} {K2 : Nat → Nat → Int32 → St → Option (Int32 × St)} (hK2 : ∀ (x0 : Nat) (x1 : Nat) (x2 : Int32) (hx0 : (1, x0) ∈ ids) (hx1 : (7, x1) ∈ ids) {z : St} {H : Heap} {locs : List Loc} {ls : Array Slot} (hr : zRep D cy B ids A s.heap z H locs) (hl : lv_has ls 4 [(0, .ref (B 1 x0)), (1, .ref (B 7 x1)), (2, .int x2)]), K2 x0 x1 x2 z = some (r, z') → W p l e rmX1_partialFor s m args below meth c H locs 0 0 Q (F0 m 2 ls [])) (x0 : Nat) (x1 : Nat) (x2 : Int32) (hx0 : (1, x0) ∈ ids) (hx1 : (7, x1) ∈ ids) {z : St} {H : Heap} {locs : List Loc} {ls : Array Slot} (hr : zRep D cy B ids A s.heap z H locs) (hl : lv_has ls 4 [(0, .ref (B 1 x0)), (1, .ref (B 7 x1)), (2, .int x2)]) (h : fX1_partialFor_72 N K2 x0 x1 x2 z = some (r, z')) : W p l e rmX1_partialFor s m args below meth c H locs 0 0 Q (F0 m 72 ls []) := by
  unfold fX1_partialFor_72 at h
  obtain ⟨v1, ev1⟩ : ∃ y : Int32, y = (x2 + 1) := ⟨_, rfl⟩
  replace h := zl_sub ev1 h
  refine lv_iinc (v := v1) (lv' := [(2, .int v1), (0, .ref (B 1 x0)), (1, .ref (B 7 x1))]) F.1 F.2.1 dX1_partialFor_72 hl (k := 2) rfl (by rw [ev1]; rfl) (by decide) rfl (fun ls hl => ?_)
  refine lv_goto (tgt := 2) F.1 F.2.1 dX1_partialFor_75 (by decide) ?_
  exact hK2 x0 x1 v1 hx0 hx1 hr (lv_sub hl [1, 2, 0] rfl) h
def fX1_partialFor_2b (N : Nat) (K2 : Nat → Nat → Int32 → St → Option (Int32 × St)) (x0 : Nat) (x1 : Nat) (x2 : Int32) (z : St) : Option (Int32 × St) := if (4 : Int32) ≤ x2 then (some ((-1 : Int32), z)) else (zk x2 4 <| zl (zgQ z 114 x0 (Int32.toNatClampNeg x2)) fun y3 => zk x2 4 <| if (zgA z 118 x0 (Int32.toNatClampNeg x2)) = 0 then (fX1_partialFor_72 N K2 x0 x1 x2 z) else (zd y3 fun a6 => if ¬ (zgI z 7 0 a6) = (zgI z 7 0 x1) then (fX1_partialFor_72 N K2 x0 x1 x2 z) else (if (zgI z 7 1 a6) = (zgI z 7 1 x1) then (if ¬ (zgI z 7 2 a6) = (zgI z 7 2 x1) then (fX1_partialFor_72 N K2 x0 x1 x2 z) else (if ¬ (zgI z 7 3 a6) = (zgI z 7 3 x1) then (fX1_partialFor_72 N K2 x0 x1 x2 z) else (some (x2, z)))) else (fX1_partialFor_72 N K2 x0 x1 x2 z))))
def fX1_partialFor_2 (N : Nat)  : Nat → Nat → Nat → Int32 → St → Option (Int32 × St)
  | 0 => fun _ _ _ _ => none
  | n + 1 => fX1_partialFor_2b N (fX1_partialFor_2 N  n)
set_option maxHeartbeats 4000000 in
set_option maxRecDepth 100000 in
theorem bX1_partialFor_2 (hst : zSt B ids) (F : zFx p m c cX1_partialFor 4 s args RX1 D cy B ids A) (hA : ∀ q : Nat, s.heap.size ≤ q → A q) {r : Int32} {z' : St} (E : zEnd p l e rmX1_partialFor s m args below meth c cX1_partialFor D cy B ids A Q (some (.int r)) z' .ireturn True) {N : Nat} {K2 : Nat → Nat → Int32 → St → Option (Int32 × St)} (hK2 : ∀ (x0 : Nat) (x1 : Nat) (x2 : Int32) (hx0 : (1, x0) ∈ ids) (hx1 : (7, x1) ∈ ids) {z : St} {H : Heap} {locs : List Loc} {ls : Array Slot} (hr : zRep D cy B ids A s.heap z H locs) (hl : lv_has ls 4 [(0, .ref (B 1 x0)), (1, .ref (B 7 x1)), (2, .int x2)]), K2 x0 x1 x2 z = some (r, z') → W p l e rmX1_partialFor s m args below meth c H locs 0 0 Q (F0 m 2 ls [])) (x0 : Nat) (x1 : Nat) (x2 : Int32) (hx0 : (1, x0) ∈ ids) (hx1 : (7, x1) ∈ ids) {z : St} {H : Heap} {locs : List Loc} {ls : Array Slot} (hr : zRep D cy B ids A s.heap z H locs) (hl : lv_has ls 4 [(0, .ref (B 1 x0)), (1, .ref (B 7 x1)), (2, .int x2)]) (h : fX1_partialFor_2b N K2 x0 x1 x2 z = some (r, z')) : W p l e rmX1_partialFor s m args below meth c H locs 0 0 Q (F0 m 2 ls []) := by
  unfold fX1_partialFor_2b at h
  refine lv_iload_n F.1 F.2.1 dX1_partialFor_2 rfl (lv_at hl 2 rfl) ?_
  refine lv_iconst (v := (4 : Int32)) F.1 F.2.1 dX1_partialFor_3 (by decide) ?_
  refine lv_icmp_ge (tgt := 78) F.1 F.2.1 dX1_partialFor_4 (by decide) (fun c1 => ?_) (fun c1 => ?_)
  · replace h := zi_t c1 h
    refine lv_iconst (v := (-1 : Int32)) F.1 F.2.1 dX1_partialFor_78 (by decide) ?_
    obtain ⟨rfl, rfl⟩ := zret h
    exact E _ _ _ _ dX1_partialFor_79 trivial hr
  · replace h := zi_f c1 h
    refine lv_aload_n F.1 F.2.1 dX1_partialFor_7 rfl (lv_at hl 0 rfl) ?_
    refine gf1_23 F hx0 hr dX1_partialFor_8 ?_
    refine lv_iload_n F.1 F.2.1 dX1_partialFor_11 rfl (lv_at hl 2 rfl) ?_
    replace h := zk_some h
    obtain ⟨c2, h⟩ := h
    refine zr_aaldv (k := 114) (by decide) rfl rfl (zlen_d (by decide)) F (zal_a F hx0 (j := 5) rfl) hr dX1_partialFor_12 c2 (fun y3 ey3 => ?_)
    replace h := zl_sub ey3 h
    have hy3 := zal_q hr (zal_a F hx0 (j := 5) rfl) rfl ey3
    clear ey3
    refine zr_astore_n (lv' := [(3, va_rf (Option.map (B 7) y3)), (0, .ref (B 1 x0)), (1, .ref (B 7 x1)), (2, .int x2)]) F.1 F.2.1 dX1_partialFor_13 rfl hl (by decide) rfl (fun ls hl => ?_)
    refine lv_aload_n F.1 F.2.1 dX1_partialFor_14 rfl (lv_at hl 1 rfl) ?_
    refine gf1_35 F hx0 hr dX1_partialFor_15 ?_
    refine lv_iload_n F.1 F.2.1 dX1_partialFor_18 rfl (lv_at hl 3 rfl) ?_
    replace h := zk_some h
    obtain ⟨c4, h⟩ := h
    refine zr_iald (k := 118) (by decide) rfl (by decide) F (zal_a F hx0 (j := 8) rfl) hr dX1_partialFor_19 c4 ?_
    refine lv_if_eq (tgt := 72) F.1 F.2.1 dX1_partialFor_20 (by decide) (fun c5 => ?_) (fun c5 => ?_)
    · replace h := zi_t c5 h
      exact bX1_partialFor_72 hst F hA E hK2 x0 x1 x2 hx0 hx1 hr (lv_sub hl [1, 2, 3] rfl) h
    · replace h := zi_f c5 h
      refine zr_aload_n F.1 F.2.1 dX1_partialFor_23 rfl (lv_at hl 0 rfl) ?_
      replace h := zd_some h
      obtain ⟨a6, rfl, h⟩ := h
      refine gf1_79 F (hy3 _ rfl) hr dX1_partialFor_24 ?_
      refine lv_aload_n F.1 F.2.1 dX1_partialFor_27 rfl (lv_at hl 2 rfl) ?_
      refine gf1_79 F hx1 hr dX1_partialFor_28 ?_
      refine lv_icmp_ne (tgt := 72) F.1 F.2.1 dX1_partialFor_31 (by decide) (fun c7 => ?_) (fun c7 => ?_)
      · replace h := zi_t c7 h
        exact bX1_partialFor_72 hst F hA E hK2 x0 x1 x2 hx0 hx1 hr (lv_sub hl [1, 2, 3] rfl) h
      · replace h := zi_f (fun q => q c7) h
        refine lv_aload_n F.1 F.2.1 dX1_partialFor_34 rfl (lv_at hl 0 rfl) ?_
        refine gf1_82 F (hy3 _ rfl) hr dX1_partialFor_35 ?_
        refine lv_aload_n F.1 F.2.1 dX1_partialFor_38 rfl (lv_at hl 2 rfl) ?_
        refine gf1_82 F hx1 hr dX1_partialFor_39 ?_
        refine lv_icmp_eq (tgt := 48) F.1 F.2.1 dX1_partialFor_42 (by decide) (fun c8 => ?_) (fun c8 => ?_)
        · replace h := zi_t c8 h
          refine lv_aload_n F.1 F.2.1 dX1_partialFor_48 rfl (lv_at hl 0 rfl) ?_
          refine gf1_85 F (hy3 _ rfl) hr dX1_partialFor_49 ?_
          refine lv_aload_n F.1 F.2.1 dX1_partialFor_52 rfl (lv_at hl 2 rfl) ?_
          refine gf1_85 F hx1 hr dX1_partialFor_53 ?_
          refine lv_icmp_ne (tgt := 72) F.1 F.2.1 dX1_partialFor_56 (by decide) (fun c9 => ?_) (fun c9 => ?_)
          · replace h := zi_t c9 h
            exact bX1_partialFor_72 hst F hA E hK2 x0 x1 x2 hx0 hx1 hr (lv_sub hl [1, 2, 3] rfl) h
          · replace h := zi_f (fun q => q c9) h
            refine lv_aload_n F.1 F.2.1 dX1_partialFor_59 rfl (lv_at hl 0 rfl) ?_
            refine gf1_88 F (hy3 _ rfl) hr dX1_partialFor_60 ?_
            refine lv_aload_n F.1 F.2.1 dX1_partialFor_63 rfl (lv_at hl 2 rfl) ?_
            refine gf1_88 F hx1 hr dX1_partialFor_64 ?_
            refine lv_icmp_ne (tgt := 72) F.1 F.2.1 dX1_partialFor_67 (by decide) (fun c10 => ?_) (fun c10 => ?_)
            · replace h := zi_t c10 h
              exact bX1_partialFor_72 hst F hA E hK2 x0 x1 x2 hx0 hx1 hr (lv_sub hl [1, 2, 3] rfl) h
            · replace h := zi_f (fun q => q c10) h
              refine lv_iload_n F.1 F.2.1 dX1_partialFor_70 rfl (lv_at hl 3 rfl) ?_
              obtain ⟨rfl, rfl⟩ := zret h
              exact E _ _ _ _ dX1_partialFor_71 trivial hr
        · replace h := zi_f c8 h
          refine lv_goto (tgt := 72) F.1 F.2.1 dX1_partialFor_45 (by decide) ?_
          exact bX1_partialFor_72 hst F hA E hK2 x0 x1 x2 hx0 hx1 hr (lv_sub hl [1, 2, 3] rfl) h
theorem lX1_partialFor_2 (hst : zSt B ids) (F : zFx p m c cX1_partialFor 4 s args RX1 D cy B ids A) (hA : ∀ q : Nat, s.heap.size ≤ q → A q) {r : Int32} {z' : St} (E : zEnd p l e rmX1_partialFor s m args below meth c cX1_partialFor D cy B ids A Q (some (.int r)) z' .ireturn True) {N : Nat}  : ∀ (n : Nat) (x0 : Nat) (x1 : Nat) (x2 : Int32) (hx0 : (1, x0) ∈ ids) (hx1 : (7, x1) ∈ ids) {z : St} {H : Heap} {locs : List Loc} {ls : Array Slot} (hr : zRep D cy B ids A s.heap z H locs) (hl : lv_has ls 4 [(0, .ref (B 1 x0)), (1, .ref (B 7 x1)), (2, .int x2)]), fX1_partialFor_2 N  n x0 x1 x2 z = some (r, z') → W p l e rmX1_partialFor s m args below meth c H locs 0 0 Q (F0 m 2 ls []) := by
  intro n
  induction n with
  | zero => intro x0 x1 x2 hx0 hx1 z H locs ls hr hl h; cases h
  | succ n ih => intro x0 x1 x2 hx0 hx1 z H locs ls hr hl h; exact bX1_partialFor_2 hst F hA E ih x0 x1 x2 hx0 hx1 hr hl h
def fX1_partialFor (N : Nat)  (x0 : Nat) (x1 : Nat) (z : St) : Option (Int32 × St) := fX1_partialFor_2 N N x0 x1 (0 : Int32) z
set_option maxHeartbeats 4000000 in
set_option maxRecDepth 100000 in
theorem bX1_partialFor_0 (hst : zSt B ids) (F : zFx p m c cX1_partialFor 4 s args RX1 D cy B ids A) (hA : ∀ q : Nat, s.heap.size ≤ q → A q) {r : Int32} {z' : St} (E : zEnd p l e rmX1_partialFor s m args below meth c cX1_partialFor D cy B ids A Q (some (.int r)) z' .ireturn True) {N : Nat}  (x0 : Nat) (x1 : Nat) (hx0 : (1, x0) ∈ ids) (hx1 : (7, x1) ∈ ids) {z : St} {H : Heap} {locs : List Loc} {ls : Array Slot} (hr : zRep D cy B ids A s.heap z H locs) (hl : lv_has ls 4 [(0, .ref (B 1 x0)), (1, .ref (B 7 x1))]) (h : fX1_partialFor N x0 x1 z = some (r, z')) : W p l e rmX1_partialFor s m args below meth c H locs 0 0 Q (F0 m 0 ls []) := by
  unfold fX1_partialFor at h
  refine lv_iconst (v := (0 : Int32)) F.1 F.2.1 dX1_partialFor_0 (by decide) ?_
  refine lv_istore_n (lv' := [(2, .int (0 : Int32)), (0, .ref (B 1 x0)), (1, .ref (B 7 x1))]) F.1 F.2.1 dX1_partialFor_1 rfl hl (by decide) rfl (fun ls hl => ?_)
  exact lX1_partialFor_2 hst F hA E  _ x0 x1 (0 : Int32) hx0 hx1 hr (lv_sub hl [1, 2, 0] rfl) h
end SX1_partialFor
set_option maxRecDepth 100000 in
theorem okX1_partialFor (l : Launch) (D : va_G) (cy : Nat → ClassId) (B : Nat → Nat → Nat) (ids : List (Nat × Nat)) (hst : zSt B ids) (N : Nat) (x0 : Nat) (hx0 : (1, x0) ∈ ids) (x1 : Nat) (hx1 : (7, x1) ∈ ids) {z : St} {r : Int32} {z' : St} (hW : zWf ids z) (h : fX1_partialFor N x0 x1 z = some (r, z')) : zM l yX1_partialFor (zws yX1_partialFor cX1_partialFor 4 (some .int)) rmX1_partialFor D cy B ids [.ref (B 1 x0), .ref (B 7 x1)] (some (.int r)) True z z' :=
  zM_of hst hW (by decide +kernel) (Nat.le_of_ble_eq_true rfl) (fun p e s m args below meth c A ls F hA hret hlocks hr hl => bX1_partialFor_0 hst F hA (zEnd_i F hret hlocks) x0 x1 hx0 hx1 hr hl h)
abbrev rmX1_emptyPartial : Room := { frames := 0, cells := 0, slots := 0, locals := 0 }
theorem hdX1_emptyPartial : yX1_emptyPartial.cls ≠ "java/lang/invoke/MethodHandle" ∧ yX1_emptyPartial.cls ≠ "java/lang/invoke/VarHandle" ∧ (parseMethodDescriptor yX1_emptyPartial.desc).map (fun d => d.parameters.length) = some 0 := by decide +kernel
section SX1_emptyPartial
variable {p : Program} {l : Launch} {e : Env} {s : State} {m : MethodId} {args : Array Value} {below : List Frame} {meth : Method} {c : Code} {Q : State → Prop} {D : va_G} {cy : Nat → ClassId} {B : Nat → Nat → Nat} {ids : List (Nat × Nat)} {A : Nat → Prop}
def fX1_emptyPartial_2b (N : Nat) (K2 : Nat → Int32 → St → Option (Int32 × St)) (x0 : Nat) (x1 : Int32) (z : St) : Option (Int32 × St) := if (4 : Int32) ≤ x1 then (some ((-1 : Int32), z)) else (zk x1 4 <| if ¬ (zgA z 118 x0 (Int32.toNatClampNeg x1)) = 0 then (zl (x1 + 1) fun v4 => K2 x0 v4 z) else (some (x1, z)))
def fX1_emptyPartial_2 (N : Nat)  : Nat → Nat → Int32 → St → Option (Int32 × St)
  | 0 => fun _ _ _ => none
  | n + 1 => fX1_emptyPartial_2b N (fX1_emptyPartial_2 N  n)
set_option maxHeartbeats 4000000 in
set_option maxRecDepth 100000 in
theorem bX1_emptyPartial_2 (hst : zSt B ids) (F : zFx p m c cX1_emptyPartial 2 s args RX1 D cy B ids A) (hA : ∀ q : Nat, s.heap.size ≤ q → A q) {r : Int32} {z' : St} (E : zEnd p l e rmX1_emptyPartial s m args below meth c cX1_emptyPartial D cy B ids A Q (some (.int r)) z' .ireturn True) {N : Nat} {K2 : Nat → Int32 → St → Option (Int32 × St)} (hK2 : ∀ (x0 : Nat) (x1 : Int32) (hx0 : (1, x0) ∈ ids) {z : St} {H : Heap} {locs : List Loc} {ls : Array Slot} (hr : zRep D cy B ids A s.heap z H locs) (hl : lv_has ls 2 [(0, .ref (B 1 x0)), (1, .int x1)]), K2 x0 x1 z = some (r, z') → W p l e rmX1_emptyPartial s m args below meth c H locs 0 0 Q (F0 m 2 ls [])) (x0 : Nat) (x1 : Int32) (hx0 : (1, x0) ∈ ids) {z : St} {H : Heap} {locs : List Loc} {ls : Array Slot} (hr : zRep D cy B ids A s.heap z H locs) (hl : lv_has ls 2 [(0, .ref (B 1 x0)), (1, .int x1)]) (h : fX1_emptyPartial_2b N K2 x0 x1 z = some (r, z')) : W p l e rmX1_emptyPartial s m args below meth c H locs 0 0 Q (F0 m 2 ls []) := by
  unfold fX1_emptyPartial_2b at h
  refine lv_iload_n F.1 F.2.1 dX1_emptyPartial_2 rfl (lv_at hl 1 rfl) ?_
  refine lv_iconst (v := (4 : Int32)) F.1 F.2.1 dX1_emptyPartial_3 (by decide) ?_
  refine lv_icmp_ge (tgt := 24) F.1 F.2.1 dX1_emptyPartial_4 (by decide) (fun c1 => ?_) (fun c1 => ?_)
  · replace h := zi_t c1 h
    refine lv_iconst (v := (-1 : Int32)) F.1 F.2.1 dX1_emptyPartial_24 (by decide) ?_
    obtain ⟨rfl, rfl⟩ := zret h
    exact E _ _ _ _ dX1_emptyPartial_25 trivial hr
  · replace h := zi_f c1 h
    refine lv_aload_n F.1 F.2.1 dX1_emptyPartial_7 rfl (lv_at hl 0 rfl) ?_
    refine gf1_35 F hx0 hr dX1_emptyPartial_8 ?_
    refine lv_iload_n F.1 F.2.1 dX1_emptyPartial_11 rfl (lv_at hl 1 rfl) ?_
    replace h := zk_some h
    obtain ⟨c2, h⟩ := h
    refine zr_iald (k := 118) (by decide) rfl (by decide) F (zal_a F hx0 (j := 8) rfl) hr dX1_emptyPartial_12 c2 ?_
    refine lv_if_ne (tgt := 18) F.1 F.2.1 dX1_emptyPartial_13 (by decide) (fun c3 => ?_) (fun c3 => ?_)
    · replace h := zi_t c3 h
      obtain ⟨v4, ev4⟩ : ∃ y : Int32, y = (x1 + 1) := ⟨_, rfl⟩
      replace h := zl_sub ev4 h
      refine lv_iinc (v := v4) (lv' := [(1, .int v4), (0, .ref (B 1 x0))]) F.1 F.2.1 dX1_emptyPartial_18 hl (k := 1) rfl (by rw [ev4]; rfl) (by decide) rfl (fun ls hl => ?_)
      refine lv_goto (tgt := 2) F.1 F.2.1 dX1_emptyPartial_21 (by decide) ?_
      exact hK2 x0 v4 hx0 hr (lv_sub hl [1, 0] rfl) h
    · replace h := zi_f (fun q => q c3) h
      refine lv_iload_n F.1 F.2.1 dX1_emptyPartial_16 rfl (lv_at hl 1 rfl) ?_
      obtain ⟨rfl, rfl⟩ := zret h
      exact E _ _ _ _ dX1_emptyPartial_17 trivial hr
theorem lX1_emptyPartial_2 (hst : zSt B ids) (F : zFx p m c cX1_emptyPartial 2 s args RX1 D cy B ids A) (hA : ∀ q : Nat, s.heap.size ≤ q → A q) {r : Int32} {z' : St} (E : zEnd p l e rmX1_emptyPartial s m args below meth c cX1_emptyPartial D cy B ids A Q (some (.int r)) z' .ireturn True) {N : Nat}  : ∀ (n : Nat) (x0 : Nat) (x1 : Int32) (hx0 : (1, x0) ∈ ids) {z : St} {H : Heap} {locs : List Loc} {ls : Array Slot} (hr : zRep D cy B ids A s.heap z H locs) (hl : lv_has ls 2 [(0, .ref (B 1 x0)), (1, .int x1)]), fX1_emptyPartial_2 N  n x0 x1 z = some (r, z') → W p l e rmX1_emptyPartial s m args below meth c H locs 0 0 Q (F0 m 2 ls []) := by
  intro n
  induction n with
  | zero => intro x0 x1 hx0 z H locs ls hr hl h; cases h
  | succ n ih => intro x0 x1 hx0 z H locs ls hr hl h; exact bX1_emptyPartial_2 hst F hA E ih x0 x1 hx0 hr hl h
def fX1_emptyPartial (N : Nat)  (x0 : Nat) (z : St) : Option (Int32 × St) := fX1_emptyPartial_2 N N x0 (0 : Int32) z
set_option maxHeartbeats 4000000 in
set_option maxRecDepth 100000 in
theorem bX1_emptyPartial_0 (hst : zSt B ids) (F : zFx p m c cX1_emptyPartial 2 s args RX1 D cy B ids A) (hA : ∀ q : Nat, s.heap.size ≤ q → A q) {r : Int32} {z' : St} (E : zEnd p l e rmX1_emptyPartial s m args below meth c cX1_emptyPartial D cy B ids A Q (some (.int r)) z' .ireturn True) {N : Nat}  (x0 : Nat) (hx0 : (1, x0) ∈ ids) {z : St} {H : Heap} {locs : List Loc} {ls : Array Slot} (hr : zRep D cy B ids A s.heap z H locs) (hl : lv_has ls 2 [(0, .ref (B 1 x0))]) (h : fX1_emptyPartial N x0 z = some (r, z')) : W p l e rmX1_emptyPartial s m args below meth c H locs 0 0 Q (F0 m 0 ls []) := by
  unfold fX1_emptyPartial at h
  refine lv_iconst (v := (0 : Int32)) F.1 F.2.1 dX1_emptyPartial_0 (by decide) ?_
  refine lv_istore_n (lv' := [(1, .int (0 : Int32)), (0, .ref (B 1 x0))]) F.1 F.2.1 dX1_emptyPartial_1 rfl hl (by decide) rfl (fun ls hl => ?_)
  exact lX1_emptyPartial_2 hst F hA E  _ x0 (0 : Int32) hx0 hr (lv_sub hl [1, 0] rfl) h
end SX1_emptyPartial
set_option maxRecDepth 100000 in
theorem okX1_emptyPartial (l : Launch) (D : va_G) (cy : Nat → ClassId) (B : Nat → Nat → Nat) (ids : List (Nat × Nat)) (hst : zSt B ids) (N : Nat) (x0 : Nat) (hx0 : (1, x0) ∈ ids) {z : St} {r : Int32} {z' : St} (hW : zWf ids z) (h : fX1_emptyPartial N x0 z = some (r, z')) : zM l yX1_emptyPartial (zws yX1_emptyPartial cX1_emptyPartial 2 (some .int)) rmX1_emptyPartial D cy B ids [.ref (B 1 x0)] (some (.int r)) True z z' :=
  zM_of hst hW (by decide +kernel) (Nat.le_of_ble_eq_true rfl) (fun p e s m args below meth c A ls F hA hret hlocks hr hl => bX1_emptyPartial_0 hst F hA (zEnd_i F hret hlocks) x0 hx0 hr hl h)
abbrev rmX1_earliestPartial : Room := { frames := 0, cells := 0, slots := 0, locals := 0 }
theorem hdX1_earliestPartial : yX1_earliestPartial.cls ≠ "java/lang/invoke/MethodHandle" ∧ yX1_earliestPartial.cls ≠ "java/lang/invoke/VarHandle" ∧ (parseMethodDescriptor yX1_earliestPartial.desc).map (fun d => d.parameters.length) = some 0 := by decide +kernel
section SX1_earliestPartial
variable {p : Program} {l : Launch} {e : Env} {s : State} {m : MethodId} {args : Array Value} {below : List Frame} {meth : Method} {c : Code} {Q : State → Prop} {D : va_G} {cy : Nat → ClassId} {B : Nat → Nat → Nat} {ids : List (Nat × Nat)} {A : Nat → Prop}
def fX1_earliestPartial_26 (N : Nat) (K4 : Nat → Int32 → Int32 → St → Option (Int32 × St)) (x0 : Nat) (x1 : Int32) (x2 : Int32) (z : St) : Option (Int32 × St) := zl (x2 + 1) fun v1 => K4 x0 x1 v1 z
set_option maxHeartbeats 4000000 in
set_option maxRecDepth 100000 in
theorem bX1_earliestPartial_26 (hst : zSt B ids) (F : zFx p m c cX1_earliestPartial 3 s args RX1 D cy B ids A) (hA : ∀ q : Nat, s.heap.size ≤ q → A q) {r : Int32} {z' : St} (E : zEnd p l e rmX1_earliestPartial s m args below meth c cX1_earliestPartial D cy B ids A Q (some (.int r)) z' .ireturn True) {N : Nat} {K4 : Nat → Int32 → Int32 → St → Option (Int32 × St)} (hK4 : ∀ (x0 : Nat) (x1 : Int32) (x2 : Int32) (hx0 : (1, x0) ∈ ids) {z : St} {H : Heap} {locs : List Loc} {ls : Array Slot} (hr : zRep D cy B ids A s.heap z H locs) (hl : lv_has ls 3 [(0, .ref (B 1 x0)), (1, .int x1), (2, .int x2)]), K4 x0 x1 x2 z = some (r, z') → W p l e rmX1_earliestPartial s m args below meth c H locs 0 0 Q (F0 m 4 ls [])) (x0 : Nat) (x1 : Int32) (x2 : Int32) (hx0 : (1, x0) ∈ ids) {z : St} {H : Heap} {locs : List Loc} {ls : Array Slot} (hr : zRep D cy B ids A s.heap z H locs) (hl : lv_has ls 3 [(0, .ref (B 1 x0)), (1, .int x1), (2, .int x2)]) (h : fX1_earliestPartial_26 N K4 x0 x1 x2 z = some (r, z')) : W p l e rmX1_earliestPartial s m args below meth c H locs 0 0 Q (F0 m 26 ls []) := by
  unfold fX1_earliestPartial_26 at h
  obtain ⟨v1, ev1⟩ : ∃ y : Int32, y = (x2 + 1) := ⟨_, rfl⟩
  replace h := zl_sub ev1 h
  refine lv_iinc (v := v1) (lv' := [(2, .int v1), (0, .ref (B 1 x0)), (1, .int x1)]) F.1 F.2.1 dX1_earliestPartial_26 hl (k := 2) rfl (by rw [ev1]; rfl) (by decide) rfl (fun ls hl => ?_)
  refine lv_goto (tgt := 4) F.1 F.2.1 dX1_earliestPartial_29 (by decide) ?_
  exact hK4 x0 x1 v1 hx0 hr (lv_sub hl [1, 2, 0] rfl) h
def fX1_earliestPartial_4b (N : Nat) (K4 : Nat → Int32 → Int32 → St → Option (Int32 × St)) (x0 : Nat) (x1 : Int32) (x2 : Int32) (z : St) : Option (Int32 × St) := if (4 : Int32) ≤ x2 then (some (x1, z)) else (zk x2 4 <| zk x1 4 <| if (zgA z 118 x0 (Int32.toNatClampNeg x1)) ≤ (zgA z 118 x0 (Int32.toNatClampNeg x2)) then (fX1_earliestPartial_26 N K4 x0 x1 x2 z) else (fX1_earliestPartial_26 N K4 x0 x2 x2 z))
def fX1_earliestPartial_4 (N : Nat)  : Nat → Nat → Int32 → Int32 → St → Option (Int32 × St)
  | 0 => fun _ _ _ _ => none
  | n + 1 => fX1_earliestPartial_4b N (fX1_earliestPartial_4 N  n)
set_option maxHeartbeats 4000000 in
set_option maxRecDepth 100000 in
theorem bX1_earliestPartial_4 (hst : zSt B ids) (F : zFx p m c cX1_earliestPartial 3 s args RX1 D cy B ids A) (hA : ∀ q : Nat, s.heap.size ≤ q → A q) {r : Int32} {z' : St} (E : zEnd p l e rmX1_earliestPartial s m args below meth c cX1_earliestPartial D cy B ids A Q (some (.int r)) z' .ireturn True) {N : Nat} {K4 : Nat → Int32 → Int32 → St → Option (Int32 × St)} (hK4 : ∀ (x0 : Nat) (x1 : Int32) (x2 : Int32) (hx0 : (1, x0) ∈ ids) {z : St} {H : Heap} {locs : List Loc} {ls : Array Slot} (hr : zRep D cy B ids A s.heap z H locs) (hl : lv_has ls 3 [(0, .ref (B 1 x0)), (1, .int x1), (2, .int x2)]), K4 x0 x1 x2 z = some (r, z') → W p l e rmX1_earliestPartial s m args below meth c H locs 0 0 Q (F0 m 4 ls [])) (x0 : Nat) (x1 : Int32) (x2 : Int32) (hx0 : (1, x0) ∈ ids) {z : St} {H : Heap} {locs : List Loc} {ls : Array Slot} (hr : zRep D cy B ids A s.heap z H locs) (hl : lv_has ls 3 [(0, .ref (B 1 x0)), (1, .int x1), (2, .int x2)]) (h : fX1_earliestPartial_4b N K4 x0 x1 x2 z = some (r, z')) : W p l e rmX1_earliestPartial s m args below meth c H locs 0 0 Q (F0 m 4 ls []) := by
  unfold fX1_earliestPartial_4b at h
  refine lv_iload_n F.1 F.2.1 dX1_earliestPartial_4 rfl (lv_at hl 2 rfl) ?_
  refine lv_iconst (v := (4 : Int32)) F.1 F.2.1 dX1_earliestPartial_5 (by decide) ?_
  refine lv_icmp_ge (tgt := 32) F.1 F.2.1 dX1_earliestPartial_6 (by decide) (fun c1 => ?_) (fun c1 => ?_)
  · replace h := zi_t c1 h
    refine lv_iload_n F.1 F.2.1 dX1_earliestPartial_32 rfl (lv_at hl 1 rfl) ?_
    obtain ⟨rfl, rfl⟩ := zret h
    exact E _ _ _ _ dX1_earliestPartial_33 trivial hr
  · replace h := zi_f c1 h
    refine lv_aload_n F.1 F.2.1 dX1_earliestPartial_9 rfl (lv_at hl 0 rfl) ?_
    refine gf1_35 F hx0 hr dX1_earliestPartial_10 ?_
    refine lv_iload_n F.1 F.2.1 dX1_earliestPartial_13 rfl (lv_at hl 2 rfl) ?_
    replace h := zk_some h
    obtain ⟨c2, h⟩ := h
    refine zr_iald (k := 118) (by decide) rfl (by decide) F (zal_a F hx0 (j := 8) rfl) hr dX1_earliestPartial_14 c2 ?_
    refine lv_aload_n F.1 F.2.1 dX1_earliestPartial_15 rfl (lv_at hl 0 rfl) ?_
    refine gf1_35 F hx0 hr dX1_earliestPartial_16 ?_
    refine lv_iload_n F.1 F.2.1 dX1_earliestPartial_19 rfl (lv_at hl 1 rfl) ?_
    replace h := zk_some h
    obtain ⟨c3, h⟩ := h
    refine zr_iald (k := 118) (by decide) rfl (by decide) F (zal_a F hx0 (j := 8) rfl) hr dX1_earliestPartial_20 c3 ?_
    refine lv_icmp_ge (tgt := 26) F.1 F.2.1 dX1_earliestPartial_21 (by decide) (fun c4 => ?_) (fun c4 => ?_)
    · replace h := zi_t c4 h
      exact bX1_earliestPartial_26 hst F hA E hK4 x0 x1 x2 hx0 hr (lv_sub hl [0, 1, 2] rfl) h
    · replace h := zi_f c4 h
      refine lv_iload_n F.1 F.2.1 dX1_earliestPartial_24 rfl (lv_at hl 2 rfl) ?_
      refine lv_istore_n (lv' := [(1, .int x2), (0, .ref (B 1 x0)), (2, .int x2)]) F.1 F.2.1 dX1_earliestPartial_25 rfl hl (by decide) rfl (fun ls hl => ?_)
      exact bX1_earliestPartial_26 hst F hA E hK4 x0 x2 x2 hx0 hr (lv_sub hl [1, 0, 2] rfl) h
theorem lX1_earliestPartial_4 (hst : zSt B ids) (F : zFx p m c cX1_earliestPartial 3 s args RX1 D cy B ids A) (hA : ∀ q : Nat, s.heap.size ≤ q → A q) {r : Int32} {z' : St} (E : zEnd p l e rmX1_earliestPartial s m args below meth c cX1_earliestPartial D cy B ids A Q (some (.int r)) z' .ireturn True) {N : Nat}  : ∀ (n : Nat) (x0 : Nat) (x1 : Int32) (x2 : Int32) (hx0 : (1, x0) ∈ ids) {z : St} {H : Heap} {locs : List Loc} {ls : Array Slot} (hr : zRep D cy B ids A s.heap z H locs) (hl : lv_has ls 3 [(0, .ref (B 1 x0)), (1, .int x1), (2, .int x2)]), fX1_earliestPartial_4 N  n x0 x1 x2 z = some (r, z') → W p l e rmX1_earliestPartial s m args below meth c H locs 0 0 Q (F0 m 4 ls []) := by
  intro n
  induction n with
  | zero => intro x0 x1 x2 hx0 z H locs ls hr hl h; cases h
  | succ n ih => intro x0 x1 x2 hx0 z H locs ls hr hl h; exact bX1_earliestPartial_4 hst F hA E ih x0 x1 x2 hx0 hr hl h
def fX1_earliestPartial (N : Nat)  (x0 : Nat) (z : St) : Option (Int32 × St) := fX1_earliestPartial_4 N N x0 (0 : Int32) (1 : Int32) z
set_option maxHeartbeats 4000000 in
set_option maxRecDepth 100000 in
theorem bX1_earliestPartial_0 (hst : zSt B ids) (F : zFx p m c cX1_earliestPartial 3 s args RX1 D cy B ids A) (hA : ∀ q : Nat, s.heap.size ≤ q → A q) {r : Int32} {z' : St} (E : zEnd p l e rmX1_earliestPartial s m args below meth c cX1_earliestPartial D cy B ids A Q (some (.int r)) z' .ireturn True) {N : Nat}  (x0 : Nat) (hx0 : (1, x0) ∈ ids) {z : St} {H : Heap} {locs : List Loc} {ls : Array Slot} (hr : zRep D cy B ids A s.heap z H locs) (hl : lv_has ls 3 [(0, .ref (B 1 x0))]) (h : fX1_earliestPartial N x0 z = some (r, z')) : W p l e rmX1_earliestPartial s m args below meth c H locs 0 0 Q (F0 m 0 ls []) := by
  unfold fX1_earliestPartial at h
  refine lv_iconst (v := (0 : Int32)) F.1 F.2.1 dX1_earliestPartial_0 (by decide) ?_
  refine lv_istore_n (lv' := [(1, .int (0 : Int32)), (0, .ref (B 1 x0))]) F.1 F.2.1 dX1_earliestPartial_1 rfl hl (by decide) rfl (fun ls hl => ?_)
  refine lv_iconst (v := (1 : Int32)) F.1 F.2.1 dX1_earliestPartial_2 (by decide) ?_
  refine lv_istore_n (lv' := [(2, .int (1 : Int32)), (1, .int (0 : Int32)), (0, .ref (B 1 x0))]) F.1 F.2.1 dX1_earliestPartial_3 rfl hl (by decide) rfl (fun ls hl => ?_)
  exact lX1_earliestPartial_4 hst F hA E  _ x0 (0 : Int32) (1 : Int32) hx0 hr (lv_sub hl [2, 1, 0] rfl) h
end SX1_earliestPartial
set_option maxRecDepth 100000 in
theorem okX1_earliestPartial (l : Launch) (D : va_G) (cy : Nat → ClassId) (B : Nat → Nat → Nat) (ids : List (Nat × Nat)) (hst : zSt B ids) (N : Nat) (x0 : Nat) (hx0 : (1, x0) ∈ ids) {z : St} {r : Int32} {z' : St} (hW : zWf ids z) (h : fX1_earliestPartial N x0 z = some (r, z')) : zM l yX1_earliestPartial (zws yX1_earliestPartial cX1_earliestPartial 3 (some .int)) rmX1_earliestPartial D cy B ids [.ref (B 1 x0)] (some (.int r)) True z z' :=
  zM_of hst hW (by decide +kernel) (Nat.le_of_ble_eq_true rfl) (fun p e s m args below meth c A ls F hA hret hlocks hr hl => bX1_earliestPartial_0 hst F hA (zEnd_i F hret hlocks) x0 hx0 hr hl h)
abbrev rmX7_copyPart : Room := { frames := 1, cells := 0, slots := 0, locals := 60 }
theorem hdX7_copyPart : yX7_copyPart.cls ≠ "java/lang/invoke/MethodHandle" ∧ yX7_copyPart.cls ≠ "java/lang/invoke/VarHandle" ∧ (parseMethodDescriptor yX7_copyPart.desc).map (fun d => d.parameters.length) = some 3 := by decide +kernel
section SX7_copyPart
variable {p : Program} {l : Launch} {e : Env} {s : State} {m : MethodId} {args : Array Value} {below : List Frame} {meth : Method} {c : Code} {Q : State → Prop} {D : va_G} {cy : Nat → ClassId} {B : Nat → Nat → Nat} {ids : List (Nat × Nat)} {A : Nat → Prop}
def fX7_copyPart (N : Nat)  (x0 : Nat) (x1 : Nat) (x2 : Int32) (x3 : Int32) (z : St) : Option (Int32 × St) := zl (zsI z 7 0 x0 (zgI z 7 0 x1)) fun z1 => zl (zsI z1 7 1 x0 (zgI z1 7 1 x1)) fun z2 => zl (zsI z2 7 2 x0 (zgI z2 7 2 x1)) fun z3 => zl (zsI z3 7 3 x0 (zgI z3 7 3 x1)) fun z4 => zl (zsI z4 7 4 x0 (zgI z4 7 4 x1)) fun z5 => zl (zsI z5 7 9 x0 (zgI z5 7 9 x1)) fun z6 => zl (zsI z6 7 10 x0 (zgI z6 7 10 x1)) fun z7 => zl (zsI z7 7 7 x0 (zgI z7 7 7 x1)) fun z8 => zl (zsI z8 7 5 x0 ((zgI z8 7 5 x1) + x2)) fun z9 => zl (zsI z9 7 6 x0 x3) fun z10 => if x2 < 0 then (some (0, z10)) else (if x3 ≤ 0 then (some (0, z10)) else (if (1480 : Int32) < (x2 + x3) then (some (0, z10)) else (zq (zcpok x2 (0 : Int32) x3) <| zl (zcp z10 x1 x0 x2 (0 : Int32) x3) fun z15 => some (0, z15))))
set_option maxHeartbeats 4000000 in
set_option maxRecDepth 100000 in
theorem bX7_copyPart_0 (hst : zSt B ids) (F : zFx p m c cX7_copyPart 4 s args RX7 D cy B ids A) (hA : ∀ q : Nat, s.heap.size ≤ q → A q) {r : Int32} {z' : St} (E : zEnd p l e rmX7_copyPart s m args below meth c cX7_copyPart D cy B ids A Q none z' .return_ True) {N : Nat}  (x0 : Nat) (x1 : Nat) (x2 : Int32) (x3 : Int32) (hx0 : (7, x0) ∈ ids) (hx1 : (7, x1) ∈ ids) {z : St} {H : Heap} {locs : List Loc} {ls : Array Slot} (hr : zRep D cy B ids A s.heap z H locs) (hl : lv_has ls 4 [(0, .ref (B 7 x0)), (1, .ref (B 7 x1)), (2, .int x2), (3, .int x3)]) (h : fX7_copyPart N x0 x1 x2 x3 z = some (r, z')) : W p l e rmX7_copyPart s m args below meth c H locs 0 0 Q (F0 m 0 ls []) := by
  unfold fX7_copyPart at h
  refine lv_aload_n F.1 F.2.1 dX7_copyPart_0 rfl (lv_at hl 0 rfl) ?_
  refine lv_aload_n F.1 F.2.1 dX7_copyPart_1 rfl (lv_at hl 1 rfl) ?_
  refine gf7_37 F hx1 hr dX7_copyPart_2 ?_
  refine pf7_37 F hx0 hr dX7_copyPart_5 (zgI z 7 0 x1) (fun H locs z1 ez1 hr => ?_)
  replace h := zl_sub ez1 h
  clear ez1
  refine lv_aload_n F.1 F.2.1 dX7_copyPart_8 rfl (lv_at hl 0 rfl) ?_
  refine lv_aload_n F.1 F.2.1 dX7_copyPart_9 rfl (lv_at hl 1 rfl) ?_
  refine gf7_40 F hx1 hr dX7_copyPart_10 ?_
  refine pf7_40 F hx0 hr dX7_copyPart_13 (zgI z1 7 1 x1) (fun H locs z2 ez2 hr => ?_)
  replace h := zl_sub ez2 h
  clear ez2
  refine lv_aload_n F.1 F.2.1 dX7_copyPart_16 rfl (lv_at hl 0 rfl) ?_
  refine lv_aload_n F.1 F.2.1 dX7_copyPart_17 rfl (lv_at hl 1 rfl) ?_
  refine gf7_15 F hx1 hr dX7_copyPart_18 ?_
  refine pf7_15 F hx0 hr dX7_copyPart_21 (zgI z2 7 2 x1) (fun H locs z3 ez3 hr => ?_)
  replace h := zl_sub ez3 h
  clear ez3
  refine lv_aload_n F.1 F.2.1 dX7_copyPart_24 rfl (lv_at hl 0 rfl) ?_
  refine lv_aload_n F.1 F.2.1 dX7_copyPart_25 rfl (lv_at hl 1 rfl) ?_
  refine gf7_43 F hx1 hr dX7_copyPart_26 ?_
  refine pf7_43 F hx0 hr dX7_copyPart_29 (zgI z3 7 3 x1) (fun H locs z4 ez4 hr => ?_)
  replace h := zl_sub ez4 h
  clear ez4
  refine lv_aload_n F.1 F.2.1 dX7_copyPart_32 rfl (lv_at hl 0 rfl) ?_
  refine lv_aload_n F.1 F.2.1 dX7_copyPart_33 rfl (lv_at hl 1 rfl) ?_
  refine gf7_19 F hx1 hr dX7_copyPart_34 ?_
  refine pf7_19 F hx0 hr dX7_copyPart_37 (zgI z4 7 4 x1) (fun H locs z5 ez5 hr => ?_)
  replace h := zl_sub ez5 h
  clear ez5
  refine lv_aload_n F.1 F.2.1 dX7_copyPart_40 rfl (lv_at hl 0 rfl) ?_
  refine lv_aload_n F.1 F.2.1 dX7_copyPart_41 rfl (lv_at hl 1 rfl) ?_
  refine gf7_25 F hx1 hr dX7_copyPart_42 ?_
  refine pf7_25 F hx0 hr dX7_copyPart_45 (zgI z5 7 9 x1) (fun H locs z6 ez6 hr => ?_)
  replace h := zl_sub ez6 h
  clear ez6
  refine lv_aload_n F.1 F.2.1 dX7_copyPart_48 rfl (lv_at hl 0 rfl) ?_
  refine lv_aload_n F.1 F.2.1 dX7_copyPart_49 rfl (lv_at hl 1 rfl) ?_
  refine gf7_28 F hx1 hr dX7_copyPart_50 ?_
  refine pf7_28 F hx0 hr dX7_copyPart_53 (zgI z6 7 10 x1) (fun H locs z7 ez7 hr => ?_)
  replace h := zl_sub ez7 h
  clear ez7
  refine lv_aload_n F.1 F.2.1 dX7_copyPart_56 rfl (lv_at hl 0 rfl) ?_
  refine lv_aload_n F.1 F.2.1 dX7_copyPart_57 rfl (lv_at hl 1 rfl) ?_
  refine gf7_34 F hx1 hr dX7_copyPart_58 ?_
  refine pf7_34 F hx0 hr dX7_copyPart_61 (zgI z7 7 7 x1) (fun H locs z8 ez8 hr => ?_)
  replace h := zl_sub ez8 h
  clear ez8
  refine lv_aload_n F.1 F.2.1 dX7_copyPart_64 rfl (lv_at hl 0 rfl) ?_
  refine lv_aload_n F.1 F.2.1 dX7_copyPart_65 rfl (lv_at hl 1 rfl) ?_
  refine gf7_22 F hx1 hr dX7_copyPart_66 ?_
  refine lv_iload_n F.1 F.2.1 dX7_copyPart_69 rfl (lv_at hl 2 rfl) ?_
  refine lv_iadd F.1 F.2.1 dX7_copyPart_70 ?_
  refine pf7_22 F hx0 hr dX7_copyPart_71 ((zgI z8 7 5 x1) + x2) (fun H locs z9 ez9 hr => ?_)
  replace h := zl_sub ez9 h
  clear ez9
  refine lv_aload_n F.1 F.2.1 dX7_copyPart_74 rfl (lv_at hl 0 rfl) ?_
  refine lv_iload_n F.1 F.2.1 dX7_copyPart_75 rfl (lv_at hl 3 rfl) ?_
  refine pf7_31 F hx0 hr dX7_copyPart_76 x3 (fun H locs z10 ez10 hr => ?_)
  replace h := zl_sub ez10 h
  clear ez10
  refine lv_iload_n F.1 F.2.1 dX7_copyPart_79 rfl (lv_at hl 2 rfl) ?_
  refine lv_if_lt (tgt := 110) F.1 F.2.1 dX7_copyPart_80 (by decide) (fun c11 => ?_) (fun c11 => ?_)
  · replace h := zi_t c11 h
    obtain ⟨rfl, rfl⟩ := zret h
    exact E _ _ _ _ dX7_copyPart_110 trivial hr
  · replace h := zi_f c11 h
    refine lv_iload_n F.1 F.2.1 dX7_copyPart_83 rfl (lv_at hl 3 rfl) ?_
    refine lv_if_le (tgt := 110) F.1 F.2.1 dX7_copyPart_84 (by decide) (fun c12 => ?_) (fun c12 => ?_)
    · replace h := zi_t c12 h
      obtain ⟨rfl, rfl⟩ := zret h
      exact E _ _ _ _ dX7_copyPart_110 trivial hr
    · replace h := zi_f c12 h
      refine lv_iload_n F.1 F.2.1 dX7_copyPart_87 rfl (lv_at hl 2 rfl) ?_
      refine lv_iload_n F.1 F.2.1 dX7_copyPart_88 rfl (lv_at hl 3 rfl) ?_
      refine lv_iadd F.1 F.2.1 dX7_copyPart_89 ?_
      refine lv_sipush (v := (1480 : Int32)) F.1 F.2.1 dX7_copyPart_90 (by decide) ?_
      refine lv_icmp_gt (tgt := 110) F.1 F.2.1 dX7_copyPart_93 (by decide) (fun c13 => ?_) (fun c13 => ?_)
      · replace h := zi_t c13 h
        obtain ⟨rfl, rfl⟩ := zret h
        exact E _ _ _ _ dX7_copyPart_110 trivial hr
      · replace h := zi_f c13 h
        refine lv_aload_n F.1 F.2.1 dX7_copyPart_96 rfl (lv_at hl 1 rfl) ?_
        refine gf7_9 F hx1 hr dX7_copyPart_97 ?_
        refine lv_iload_n F.1 F.2.1 dX7_copyPart_100 rfl (lv_at hl 2 rfl) ?_
        refine lv_aload_n F.1 F.2.1 dX7_copyPart_101 rfl (lv_at hl 0 rfl) ?_
        refine gf7_9 F hx0 hr dX7_copyPart_102 ?_
        refine lv_iconst (v := (0 : Int32)) F.1 F.2.1 dX7_copyPart_105 (by decide) ?_
        refine lv_iload_n F.1 F.2.1 dX7_copyPart_106 rfl (lv_at hl 3 rfl) ?_
        replace h := zq_some h
        obtain ⟨c14, h⟩ := h
        refine zr_copy (F.2.2.1.trans hl.1.symm) zq_1075 zq_1077 zq_1076 zq_26 F (zal_a F hx1 (j := 8) rfl) (zal_a F hx0 (j := 8) rfl) hr c14 (Nat.le_of_ble_eq_true rfl) (Nat.le_of_ble_eq_true rfl) dX7_copyPart_107 (fun H locs z15 ez15 hr => ?_)
        replace h := zl_sub ez15 h
        clear ez15
        obtain ⟨rfl, rfl⟩ := zret h
        exact E _ _ _ _ dX7_copyPart_110 trivial hr
end SX7_copyPart
set_option maxRecDepth 100000 in
theorem okX7_copyPart (l : Launch) (D : va_G) (cy : Nat → ClassId) (B : Nat → Nat → Nat) (ids : List (Nat × Nat)) (hst : zSt B ids) (N : Nat) (x0 : Nat) (hx0 : (7, x0) ∈ ids) (x1 : Nat) (hx1 : (7, x1) ∈ ids) (x2 : Int32) (x3 : Int32) {z : St} {r : Int32} {z' : St} (hW : zWf ids z) (h : fX7_copyPart N x0 x1 x2 x3 z = some (r, z')) : zM l yX7_copyPart (zws yX7_copyPart cX7_copyPart 4 none) rmX7_copyPart D cy B ids [.ref (B 7 x0), .ref (B 7 x1), .int x2, .int x3] none True z z' :=
  zM_of hst hW (by decide +kernel) (Nat.le_of_ble_eq_true rfl) (fun p e s m args below meth c A ls F hA hret hlocks hr hl => bX7_copyPart_0 hst F hA (zEnd_v F hret hlocks) x0 x1 x2 x3 hx0 hx1 hr hl h)
abbrev rmX1_beginPartial : Room := { frames := 2, cells := 0, slots := 0, locals := 83 }
theorem hdX1_beginPartial : yX1_beginPartial.cls ≠ "java/lang/invoke/MethodHandle" ∧ yX1_beginPartial.cls ≠ "java/lang/invoke/VarHandle" ∧ (parseMethodDescriptor yX1_beginPartial.desc).map (fun d => d.parameters.length) = some 3 := by decide +kernel
theorem hroX1_beginPartial_X7_copyPart : rmX7_copyPart.frames + 1 ≤ rmX1_beginPartial.frames ∧ 8 + (4 + 11) + rmX7_copyPart.locals ≤ rmX1_beginPartial.locals := by decide
section SX1_beginPartial
variable {p : Program} {l : Launch} {e : Env} {s : State} {m : MethodId} {args : Array Value} {below : List Frame} {meth : Method} {c : Code} {Q : State → Prop} {D : va_G} {cy : Nat → ClassId} {B : Nat → Nat → Nat} {ids : List (Nat × Nat)} {A : Nat → Prop}
def fX1_beginPartial_34b (N : Nat) (K34 : Nat → Int32 → Int32 → Int32 → St → Option (Int32 × St)) (x0 : Nat) (x1 : Int32) (x3 : Int32) (x5 : Int32) (z : St) : Option (Int32 × St) := if (3 : Int32) ≤ x5 then (zk x1 4 <| zl (zsA z 117 x0 (Int32.toNatClampNeg x1) x3) fun z3 => zl (zsI z3 1 9 x0 ((zgI z3 1 9 x0) + (1 : Int32))) fun z4 => zk x1 4 <| zl (zsA z4 118 x0 (Int32.toNatClampNeg x1) (zgI z4 1 9 x0)) fun z6 => some (0, z6)) else (zk x1 4 <| zk x5 3 <| zl (zsL z 116 (x0 * 4 + (Int32.toNatClampNeg x1)) (Int32.toNatClampNeg x5) (0 : Int64)) fun z9 => zl (x5 + 1) fun v10 => K34 x0 x1 x3 v10 z9)
def fX1_beginPartial_34 (N : Nat)  : Nat → Nat → Int32 → Int32 → Int32 → St → Option (Int32 × St)
  | 0 => fun _ _ _ _ _ => none
  | n + 1 => fX1_beginPartial_34b N (fX1_beginPartial_34 N  n)
set_option maxHeartbeats 4000000 in
set_option maxRecDepth 100000 in
theorem bX1_beginPartial_34 (hst : zSt B ids) (F : zFx p m c cX1_beginPartial 6 s args RX1 D cy B ids A) (hA : ∀ q : Nat, s.heap.size ≤ q → A q) {r : Int32} {z' : St} (E : zEnd p l e rmX1_beginPartial s m args below meth c cX1_beginPartial D cy B ids A Q none z' .return_ True) {N : Nat} {K34 : Nat → Int32 → Int32 → Int32 → St → Option (Int32 × St)} (hK34 : ∀ (x0 : Nat) (x1 : Int32) (x3 : Int32) (x5 : Int32) (hx0 : (1, x0) ∈ ids) {z : St} {H : Heap} {locs : List Loc} {ls : Array Slot} (hr : zRep D cy B ids A s.heap z H locs) (hl : lv_has ls 6 [(0, .ref (B 1 x0)), (1, .int x1), (3, .int x3), (5, .int x5)]), K34 x0 x1 x3 x5 z = some (r, z') → W p l e rmX1_beginPartial s m args below meth c H locs 0 0 Q (F0 m 34 ls [])) (x0 : Nat) (x1 : Int32) (x3 : Int32) (x5 : Int32) (hx0 : (1, x0) ∈ ids) {z : St} {H : Heap} {locs : List Loc} {ls : Array Slot} (hr : zRep D cy B ids A s.heap z H locs) (hl : lv_has ls 6 [(0, .ref (B 1 x0)), (1, .int x1), (3, .int x3), (5, .int x5)]) (h : fX1_beginPartial_34b N K34 x0 x1 x3 x5 z = some (r, z')) : W p l e rmX1_beginPartial s m args below meth c H locs 0 0 Q (F0 m 34 ls []) := by
  unfold fX1_beginPartial_34b at h
  refine lv_iload F.1 F.2.1 dX1_beginPartial_34 (lv_at hl 3 rfl) ?_
  refine lv_iconst (v := (3 : Int32)) F.1 F.2.1 dX1_beginPartial_36 (by decide) ?_
  refine lv_icmp_ge (tgt := 56) F.1 F.2.1 dX1_beginPartial_37 (by decide) (fun c1 => ?_) (fun c1 => ?_)
  · replace h := zi_t c1 h
    refine lv_aload_n F.1 F.2.1 dX1_beginPartial_56 rfl (lv_at hl 0 rfl) ?_
    refine gf1_32 F hx0 hr dX1_beginPartial_57 ?_
    refine lv_iload_n F.1 F.2.1 dX1_beginPartial_60 rfl (lv_at hl 1 rfl) ?_
    refine lv_iload_n F.1 F.2.1 dX1_beginPartial_61 rfl (lv_at hl 2 rfl) ?_
    replace h := zk_some h
    obtain ⟨c2, h⟩ := h
    refine zr_iast (k := 117) (by decide) rfl (by decide) F (zal_a F hx0 (j := 7) rfl) hr dX1_beginPartial_62 c2 (fun H locs z3 ez3 hr => ?_)
    replace h := zl_sub ez3 h
    clear ez3
    refine lv_aload_n F.1 F.2.1 dX1_beginPartial_63 rfl (lv_at hl 0 rfl) ?_
    refine lv_dup F.1 F.2.1 dX1_beginPartial_64 rfl ?_
    refine gf1_102 F hx0 hr dX1_beginPartial_65 ?_
    refine lv_iconst (v := (1 : Int32)) F.1 F.2.1 dX1_beginPartial_68 (by decide) ?_
    refine lv_iadd F.1 F.2.1 dX1_beginPartial_69 ?_
    refine pf1_102 F hx0 hr dX1_beginPartial_70 ((zgI z3 1 9 x0) + (1 : Int32)) (fun H locs z4 ez4 hr => ?_)
    replace h := zl_sub ez4 h
    clear ez4
    refine lv_aload_n F.1 F.2.1 dX1_beginPartial_73 rfl (lv_at hl 0 rfl) ?_
    refine gf1_35 F hx0 hr dX1_beginPartial_74 ?_
    refine lv_iload_n F.1 F.2.1 dX1_beginPartial_77 rfl (lv_at hl 1 rfl) ?_
    refine lv_aload_n F.1 F.2.1 dX1_beginPartial_78 rfl (lv_at hl 0 rfl) ?_
    refine gf1_102 F hx0 hr dX1_beginPartial_79 ?_
    replace h := zk_some h
    obtain ⟨c5, h⟩ := h
    refine zr_iast (k := 118) (by decide) rfl (by decide) F (zal_a F hx0 (j := 8) rfl) hr dX1_beginPartial_82 c5 (fun H locs z6 ez6 hr => ?_)
    replace h := zl_sub ez6 h
    clear ez6
    obtain ⟨rfl, rfl⟩ := zret h
    exact E _ _ _ _ dX1_beginPartial_83 trivial hr
  · replace h := zi_f c1 h
    refine lv_aload_n F.1 F.2.1 dX1_beginPartial_40 rfl (lv_at hl 0 rfl) ?_
    refine gf1_29 F hx0 hr dX1_beginPartial_41 ?_
    refine lv_iload_n F.1 F.2.1 dX1_beginPartial_44 rfl (lv_at hl 1 rfl) ?_
    replace h := zk_some h
    obtain ⟨c7, h⟩ := h
    refine zr_rald (k := 115) (by decide) rfl (by decide) rfl F (zal_a F hx0 (j := 6) rfl) hr dX1_beginPartial_45 c7 ?_
    refine lv_iload F.1 F.2.1 dX1_beginPartial_46 (lv_at hl 3 rfl) ?_
    refine lv_lconst (v := (0 : Int64)) F.1 F.2.1 dX1_beginPartial_48 (by decide) ?_
    replace h := zk_some h
    obtain ⟨c8, h⟩ := h
    refine zr_last (k := 116) (by decide) rfl (by decide) F (zal_w F (zal_a F hx0 (j := 6) rfl) (k := 115) rfl c7) hr dX1_beginPartial_49 c8 (fun H locs z9 ez9 hr => ?_)
    replace h := zl_sub ez9 h
    clear ez9
    obtain ⟨v10, ev10⟩ : ∃ y : Int32, y = (x5 + 1) := ⟨_, rfl⟩
    replace h := zl_sub ev10 h
    refine lv_iinc (v := v10) (lv' := [(5, .int v10), (0, .ref (B 1 x0)), (1, .int x1), (3, .int x3)]) F.1 F.2.1 dX1_beginPartial_50 hl (k := 3) rfl (by rw [ev10]; rfl) (by decide) rfl (fun ls hl => ?_)
    refine lv_goto (tgt := 34) F.1 F.2.1 dX1_beginPartial_53 (by decide) ?_
    exact hK34 x0 x1 x3 v10 hx0 hr (lv_sub hl [1, 2, 3, 0] rfl) h
theorem lX1_beginPartial_34 (hst : zSt B ids) (F : zFx p m c cX1_beginPartial 6 s args RX1 D cy B ids A) (hA : ∀ q : Nat, s.heap.size ≤ q → A q) {r : Int32} {z' : St} (E : zEnd p l e rmX1_beginPartial s m args below meth c cX1_beginPartial D cy B ids A Q none z' .return_ True) {N : Nat}  : ∀ (n : Nat) (x0 : Nat) (x1 : Int32) (x3 : Int32) (x5 : Int32) (hx0 : (1, x0) ∈ ids) {z : St} {H : Heap} {locs : List Loc} {ls : Array Slot} (hr : zRep D cy B ids A s.heap z H locs) (hl : lv_has ls 6 [(0, .ref (B 1 x0)), (1, .int x1), (3, .int x3), (5, .int x5)]), fX1_beginPartial_34 N  n x0 x1 x3 x5 z = some (r, z') → W p l e rmX1_beginPartial s m args below meth c H locs 0 0 Q (F0 m 34 ls []) := by
  intro n
  induction n with
  | zero => intro x0 x1 x3 x5 hx0 z H locs ls hr hl h; cases h
  | succ n ih => intro x0 x1 x3 x5 hx0 z H locs ls hr hl h; exact bX1_beginPartial_34 hst F hA E ih x0 x1 x3 x5 hx0 hr hl h
def fX1_beginPartial (N : Nat)  (x0 : Nat) (x1 : Int32) (x2 : Nat) (x3 : Int32) (z : St) : Option (Int32 × St) := zk x1 4 <| zl (zgQ z 114 x0 (Int32.toNatClampNeg x1)) fun y2 => zd y2 fun a3 => zc (fX7_copyPart N a3 x2 (0 : Int32) (0 : Int32) z) fun _ z5 => zl (zsI z5 7 5 a3 (0 : Int32)) fun z8 => zl (zsI z8 7 6 a3 (zgI z8 7 7 x2)) fun z9 => fX1_beginPartial_34 N N x0 x1 x3 (0 : Int32) z9
set_option maxHeartbeats 4000000 in
set_option maxRecDepth 100000 in
theorem bX1_beginPartial_0 (hst : zSt B ids) (F : zFx p m c cX1_beginPartial 6 s args RX1 D cy B ids A) (hA : ∀ q : Nat, s.heap.size ≤ q → A q) {r : Int32} {z' : St} (E : zEnd p l e rmX1_beginPartial s m args below meth c cX1_beginPartial D cy B ids A Q none z' .return_ True) {N : Nat}  (x0 : Nat) (x1 : Int32) (x2 : Nat) (x3 : Int32) (hx0 : (1, x0) ∈ ids) (hx2 : (7, x2) ∈ ids) {z : St} {H : Heap} {locs : List Loc} {ls : Array Slot} (hr : zRep D cy B ids A s.heap z H locs) (hl : lv_has ls 6 [(0, .ref (B 1 x0)), (1, .int x1), (2, .ref (B 7 x2)), (3, .int x3)]) (h : fX1_beginPartial N x0 x1 x2 x3 z = some (r, z')) : W p l e rmX1_beginPartial s m args below meth c H locs 0 0 Q (F0 m 0 ls []) := by
  unfold fX1_beginPartial at h
  refine lv_aload_n F.1 F.2.1 dX1_beginPartial_0 rfl (lv_at hl 0 rfl) ?_
  refine gf1_23 F hx0 hr dX1_beginPartial_1 ?_
  refine lv_iload_n F.1 F.2.1 dX1_beginPartial_4 rfl (lv_at hl 1 rfl) ?_
  replace h := zk_some h
  obtain ⟨c1, h⟩ := h
  refine zr_aaldv (k := 114) (by decide) rfl rfl (zlen_d (by decide)) F (zal_a F hx0 (j := 5) rfl) hr dX1_beginPartial_5 c1 (fun y2 ey2 => ?_)
  replace h := zl_sub ey2 h
  have hy2 := zal_q hr (zal_a F hx0 (j := 5) rfl) rfl ey2
  clear ey2
  refine zr_astore (lv' := [(4, va_rf (Option.map (B 7) y2)), (0, .ref (B 1 x0)), (1, .int x1), (2, .ref (B 7 x2)), (3, .int x3)]) F.1 F.2.1 dX1_beginPartial_6 hl (by decide) rfl (fun ls hl => ?_)
  refine zr_aload F.1 F.2.1 dX1_beginPartial_8 (lv_at hl 0 rfl) ?_
  refine lv_aload_n F.1 F.2.1 dX1_beginPartial_10 rfl (lv_at hl 3 rfl) ?_
  refine lv_iconst (v := (0 : Int32)) F.1 F.2.1 dX1_beginPartial_11 (by decide) ?_
  refine lv_iconst (v := (0 : Int32)) F.1 F.2.1 dX1_beginPartial_12 (by decide) ?_
  replace h := zd_some h
  obtain ⟨a3, rfl, h⟩ := h
  replace h := zc_some h
  obtain ⟨r4, z5, hc6, h⟩ := h
  refine zr_callv (zrun_VN (As := [.ref (B 7 x2), .int (0 : Int32), .int (0 : Int32)]) (rest := []) zn_1114 zq_1073 zs_X7_copyPart zq_1074 zq_2 hdX7_copyPart (by decide) (T := TX7) (N := 20) rfl (okX7_copyPart l D cy B ids hst N a3 (hy2 _ rfl) x2 hx2 (0 : Int32)  (0 : Int32)  hr.2.2 hc6) F hr (hy2 _ rfl) hl.1 rfl (by decide) dX1_beginPartial_13 rfl rfl hroX1_beginPartial_X7_copyPart ⟨Nat.zero_le _, Nat.zero_le _⟩) F hA hr (fun H locs hw7 hr => ?_)
  clear hc6
  refine lv_aload F.1 F.2.1 dX1_beginPartial_16 (lv_at hl 0 rfl) ?_
  refine lv_iconst (v := (0 : Int32)) F.1 F.2.1 dX1_beginPartial_18 (by decide) ?_
  refine pf1_93 F (hy2 _ rfl) hr dX1_beginPartial_19 (0 : Int32) (fun H locs z8 ez8 hr => ?_)
  replace h := zl_sub ez8 h
  clear ez8
  refine lv_aload F.1 F.2.1 dX1_beginPartial_22 (lv_at hl 0 rfl) ?_
  refine lv_aload_n F.1 F.2.1 dX1_beginPartial_24 rfl (lv_at hl 3 rfl) ?_
  refine gf1_96 F hx2 hr dX1_beginPartial_25 ?_
  refine pf1_99 F (hy2 _ rfl) hr dX1_beginPartial_28 (zgI z8 7 7 x2) (fun H locs z9 ez9 hr => ?_)
  replace h := zl_sub ez9 h
  clear ez9
  refine lv_iconst (v := (0 : Int32)) F.1 F.2.1 dX1_beginPartial_31 (by decide) ?_
  refine lv_istore (lv' := [(5, .int (0 : Int32)), (4, .ref (B 7 a3)), (0, .ref (B 1 x0)), (1, .int x1), (2, .ref (B 7 x2)), (3, .int x3)]) F.1 F.2.1 dX1_beginPartial_32 hl (by decide) rfl (fun ls hl => ?_)
  exact lX1_beginPartial_34 hst F hA E  _ x0 x1 x3 (0 : Int32) hx0 hr (lv_sub hl [2, 3, 5, 0] rfl) h
end SX1_beginPartial
set_option maxRecDepth 100000 in
theorem okX1_beginPartial (l : Launch) (D : va_G) (cy : Nat → ClassId) (B : Nat → Nat → Nat) (ids : List (Nat × Nat)) (hst : zSt B ids) (N : Nat) (x0 : Nat) (hx0 : (1, x0) ∈ ids) (x1 : Int32) (x2 : Nat) (hx2 : (7, x2) ∈ ids) (x3 : Int32) {z : St} {r : Int32} {z' : St} (hW : zWf ids z) (h : fX1_beginPartial N x0 x1 x2 x3 z = some (r, z')) : zM l yX1_beginPartial (zws yX1_beginPartial cX1_beginPartial 6 none) rmX1_beginPartial D cy B ids [.ref (B 1 x0), .int x1, .ref (B 7 x2), .int x3] none True z z' :=
  zM_of hst hW (by decide +kernel) (Nat.le_of_ble_eq_true rfl) (fun p e s m args below meth c A ls F hA hret hlocks hr hl => bX1_beginPartial_0 hst F hA (zEnd_v F hret hlocks) x0 x1 x2 x3 hx0 hx2 hr hl h)
abbrev rmJ13_bitCount_95d88 : Room := { frames := 0, cells := 0, slots := 0, locals := 0 }
theorem hdJ13_bitCount_95d88 : yJ13_bitCount_95d88.cls ≠ "java/lang/invoke/MethodHandle" ∧ yJ13_bitCount_95d88.cls ≠ "java/lang/invoke/VarHandle" ∧ (parseMethodDescriptor yJ13_bitCount_95d88.desc).map (fun d => d.parameters.length) = some 1 := by decide +kernel
section SJ13_bitCount_95d88
variable {p : Program} {l : Launch} {e : Env} {s : State} {m : MethodId} {args : Array Value} {below : List Frame} {meth : Method} {c : Code} {Q : State → Prop} {D : va_G} {cy : Nat → ClassId} {B : Nat → Nat → Nat} {ids : List (Nat × Nat)} {A : Nat → Prop}
def fJ13_bitCount_95d88 (N : Nat)  (x0 : Int64) (z : St) : Option (Int32 × St) := zl (x0 - ((((x0).toUInt64 >>> (((1 : Int32)).toInt64.toUInt64 &&& Int64.toUInt64 63)).toInt64) &&& (6148914691236517205 : Int64))) fun v1 => zl ((v1 &&& (3689348814741910323 : Int64)) + ((((v1).toUInt64 >>> (((2 : Int32)).toInt64.toUInt64 &&& Int64.toUInt64 63)).toInt64) &&& (3689348814741910323 : Int64))) fun v2 => zl ((v2 + (((v2).toUInt64 >>> (((4 : Int32)).toInt64.toUInt64 &&& Int64.toUInt64 63)).toInt64)) &&& (1085102592571150095 : Int64)) fun v3 => zl (v3 + (((v3).toUInt64 >>> (((8 : Int32)).toInt64.toUInt64 &&& Int64.toUInt64 63)).toInt64)) fun v4 => zl (v4 + (((v4).toUInt64 >>> (((16 : Int32)).toInt64.toUInt64 &&& Int64.toUInt64 63)).toInt64)) fun v5 => zl (v5 + (((v5).toUInt64 >>> (((32 : Int32)).toInt64.toUInt64 &&& Int64.toUInt64 63)).toInt64)) fun v6 => some (((Int64.toInt32 v6) &&& (127 : Int32)), z)
set_option maxHeartbeats 4000000 in
set_option maxRecDepth 100000 in
theorem bJ13_bitCount_95d88_0 (hst : zSt B ids) (F : zFx p m c cJ13_bitCount_95d88 2 s args RJ13 D cy B ids A) (hA : ∀ q : Nat, s.heap.size ≤ q → A q) {r : Int32} {z' : St} (E : zEnd p l e rmJ13_bitCount_95d88 s m args below meth c cJ13_bitCount_95d88 D cy B ids A Q (some (.int r)) z' .ireturn True) {N : Nat}  (x0 : Int64)  {z : St} {H : Heap} {locs : List Loc} {ls : Array Slot} (hr : zRep D cy B ids A s.heap z H locs) (hl : lv_has ls 2 [(0, .long x0)]) (h : fJ13_bitCount_95d88 N x0 z = some (r, z')) : W p l e rmJ13_bitCount_95d88 s m args below meth c H locs 0 0 Q (F0 m 0 ls []) := by
  unfold fJ13_bitCount_95d88 at h
  refine lv_lload_n F.1 F.2.1 dJ13_bitCount_95d88_0 rfl (lv_at hl 0 rfl) ?_
  refine lv_lload_n F.1 F.2.1 dJ13_bitCount_95d88_1 rfl (lv_at hl 0 rfl) ?_
  refine lv_iconst (v := (1 : Int32)) F.1 F.2.1 dJ13_bitCount_95d88_2 (by decide) ?_
  refine lv_lushr F.1 F.2.1 dJ13_bitCount_95d88_3 rfl ?_
  refine lv_ldc2 (v := (6148914691236517205)) F.1 F.2.1 F.2.2.2.1 (F.2.2.2.2.1 _ zq_1125) dJ13_bitCount_95d88_4 ?_
  refine lv_land F.1 F.2.1 dJ13_bitCount_95d88_7 ?_
  refine lv_lsub F.1 F.2.1 dJ13_bitCount_95d88_8 ?_
  refine lv_topl (fun v1 ev1 => ?_)
  replace h := zl_sub ev1 h
  refine lv_lstore_n (lv' := [(0, .long v1)]) F.1 F.2.1 dJ13_bitCount_95d88_9 rfl hl (by decide) rfl (fun ls hl => ?_)
  refine lv_lload_n F.1 F.2.1 dJ13_bitCount_95d88_10 rfl (lv_at hl 0 rfl) ?_
  refine lv_ldc2 (v := (3689348814741910323)) F.1 F.2.1 F.2.2.2.1 (F.2.2.2.2.1 _ zq_1126) dJ13_bitCount_95d88_11 ?_
  refine lv_land F.1 F.2.1 dJ13_bitCount_95d88_14 ?_
  refine lv_lload_n F.1 F.2.1 dJ13_bitCount_95d88_15 rfl (lv_at hl 0 rfl) ?_
  refine lv_iconst (v := (2 : Int32)) F.1 F.2.1 dJ13_bitCount_95d88_16 (by decide) ?_
  refine lv_lushr F.1 F.2.1 dJ13_bitCount_95d88_17 rfl ?_
  refine lv_ldc2 (v := (3689348814741910323)) F.1 F.2.1 F.2.2.2.1 (F.2.2.2.2.1 _ zq_1126) dJ13_bitCount_95d88_18 ?_
  refine lv_land F.1 F.2.1 dJ13_bitCount_95d88_21 ?_
  refine lv_ladd F.1 F.2.1 dJ13_bitCount_95d88_22 ?_
  refine lv_topl (fun v2 ev2 => ?_)
  replace h := zl_sub ev2 h
  refine lv_lstore_n (lv' := [(0, .long v2)]) F.1 F.2.1 dJ13_bitCount_95d88_23 rfl hl (by decide) rfl (fun ls hl => ?_)
  refine lv_lload_n F.1 F.2.1 dJ13_bitCount_95d88_24 rfl (lv_at hl 0 rfl) ?_
  refine lv_lload_n F.1 F.2.1 dJ13_bitCount_95d88_25 rfl (lv_at hl 0 rfl) ?_
  refine lv_iconst (v := (4 : Int32)) F.1 F.2.1 dJ13_bitCount_95d88_26 (by decide) ?_
  refine lv_lushr F.1 F.2.1 dJ13_bitCount_95d88_27 rfl ?_
  refine lv_ladd F.1 F.2.1 dJ13_bitCount_95d88_28 ?_
  refine lv_ldc2 (v := (1085102592571150095)) F.1 F.2.1 F.2.2.2.1 (F.2.2.2.2.1 _ zq_1127) dJ13_bitCount_95d88_29 ?_
  refine lv_land F.1 F.2.1 dJ13_bitCount_95d88_32 ?_
  refine lv_topl (fun v3 ev3 => ?_)
  replace h := zl_sub ev3 h
  refine lv_lstore_n (lv' := [(0, .long v3)]) F.1 F.2.1 dJ13_bitCount_95d88_33 rfl hl (by decide) rfl (fun ls hl => ?_)
  refine lv_lload_n F.1 F.2.1 dJ13_bitCount_95d88_34 rfl (lv_at hl 0 rfl) ?_
  refine lv_lload_n F.1 F.2.1 dJ13_bitCount_95d88_35 rfl (lv_at hl 0 rfl) ?_
  refine lv_bipush (v := (8 : Int32)) F.1 F.2.1 dJ13_bitCount_95d88_36 (by decide) ?_
  refine lv_lushr F.1 F.2.1 dJ13_bitCount_95d88_38 rfl ?_
  refine lv_ladd F.1 F.2.1 dJ13_bitCount_95d88_39 ?_
  refine lv_topl (fun v4 ev4 => ?_)
  replace h := zl_sub ev4 h
  refine lv_lstore_n (lv' := [(0, .long v4)]) F.1 F.2.1 dJ13_bitCount_95d88_40 rfl hl (by decide) rfl (fun ls hl => ?_)
  refine lv_lload_n F.1 F.2.1 dJ13_bitCount_95d88_41 rfl (lv_at hl 0 rfl) ?_
  refine lv_lload_n F.1 F.2.1 dJ13_bitCount_95d88_42 rfl (lv_at hl 0 rfl) ?_
  refine lv_bipush (v := (16 : Int32)) F.1 F.2.1 dJ13_bitCount_95d88_43 (by decide) ?_
  refine lv_lushr F.1 F.2.1 dJ13_bitCount_95d88_45 rfl ?_
  refine lv_ladd F.1 F.2.1 dJ13_bitCount_95d88_46 ?_
  refine lv_topl (fun v5 ev5 => ?_)
  replace h := zl_sub ev5 h
  refine lv_lstore_n (lv' := [(0, .long v5)]) F.1 F.2.1 dJ13_bitCount_95d88_47 rfl hl (by decide) rfl (fun ls hl => ?_)
  refine lv_lload_n F.1 F.2.1 dJ13_bitCount_95d88_48 rfl (lv_at hl 0 rfl) ?_
  refine lv_lload_n F.1 F.2.1 dJ13_bitCount_95d88_49 rfl (lv_at hl 0 rfl) ?_
  refine lv_bipush (v := (32 : Int32)) F.1 F.2.1 dJ13_bitCount_95d88_50 (by decide) ?_
  refine lv_lushr F.1 F.2.1 dJ13_bitCount_95d88_52 rfl ?_
  refine lv_ladd F.1 F.2.1 dJ13_bitCount_95d88_53 ?_
  refine lv_topl (fun v6 ev6 => ?_)
  replace h := zl_sub ev6 h
  refine lv_lstore_n (lv' := [(0, .long v6)]) F.1 F.2.1 dJ13_bitCount_95d88_54 rfl hl (by decide) rfl (fun ls hl => ?_)
  refine lv_lload_n F.1 F.2.1 dJ13_bitCount_95d88_55 rfl (lv_at hl 0 rfl) ?_
  refine lv_l2i F.1 F.2.1 dJ13_bitCount_95d88_56 rfl ?_
  refine lv_bipush (v := (127 : Int32)) F.1 F.2.1 dJ13_bitCount_95d88_57 (by decide) ?_
  refine lv_iand F.1 F.2.1 dJ13_bitCount_95d88_59 ?_
  obtain ⟨rfl, rfl⟩ := zret h
  exact E _ _ _ _ dJ13_bitCount_95d88_60 trivial hr
end SJ13_bitCount_95d88
set_option maxRecDepth 100000 in
theorem okJ13_bitCount_95d88 (l : Launch) (D : va_G) (cy : Nat → ClassId) (B : Nat → Nat → Nat) (ids : List (Nat × Nat)) (hst : zSt B ids) (N : Nat) (x0 : Int64) {z : St} {r : Int32} {z' : St} (hW : zWf ids z) (h : fJ13_bitCount_95d88 N x0 z = some (r, z')) : zM l yJ13_bitCount_95d88 (zws yJ13_bitCount_95d88 cJ13_bitCount_95d88 2 (some .int)) rmJ13_bitCount_95d88 D cy B ids [.long x0] (some (.int r)) True z z' :=
  zM_of hst hW (by decide +kernel) (Nat.le_of_ble_eq_true rfl) (fun p e s m args below meth c A ls F hA hret hlocks hr hl => bJ13_bitCount_95d88_0 hst F hA (zEnd_i F hret hlocks) x0 hr hl h)
abbrev rmX1_addPiece : Room := { frames := 1, cells := 0, slots := 0, locals := 60 }
theorem hdX1_addPiece : yX1_addPiece.cls ≠ "java/lang/invoke/MethodHandle" ∧ yX1_addPiece.cls ≠ "java/lang/invoke/VarHandle" ∧ (parseMethodDescriptor yX1_addPiece.desc).map (fun d => d.parameters.length) = some 2 := by decide +kernel
theorem hroX1_addPiece_J13_bitCount_95d88 : rmJ13_bitCount_95d88.frames + 1 ≤ rmX1_addPiece.frames ∧ 8 + (2 + 11) + rmJ13_bitCount_95d88.locals ≤ rmX1_addPiece.locals := by decide
section SX1_addPiece
variable {p : Program} {l : Launch} {e : Env} {s : State} {m : MethodId} {args : Array Value} {below : List Frame} {meth : Method} {c : Code} {Q : State → Prop} {D : va_G} {cy : Nat → ClassId} {B : Nat → Nat → Nat} {ids : List (Nat × Nat)} {A : Nat → Prop}
def fX1_addPiece_135 (N : Nat) (K41 : Nat → Int32 → Nat → Nat → Int32 → Int32 → St → Option (Int32 × St)) (x0 : Nat) (x1 : Int32) (x2 : Nat) (x3 : Nat) (x4 : Int32) (x5 : Int32) (z : St) : Option (Int32 × St) := zl (x5 + 8) fun v1 => K41 x0 x1 x2 x3 x4 v1 z
set_option maxHeartbeats 4000000 in
set_option maxRecDepth 100000 in
theorem bX1_addPiece_135 (hst : zSt B ids) (F : zFx p m c cX1_addPiece 7 s args RX1 D cy B ids A) (hA : ∀ q : Nat, s.heap.size ≤ q → A q) {r : Int32} {z' : St} (E : zEnd p l e rmX1_addPiece s m args below meth c cX1_addPiece D cy B ids A Q (some (.int r)) z' .ireturn (r = 0 ∨ r = 1)) {N : Nat} {K41 : Nat → Int32 → Nat → Nat → Int32 → Int32 → St → Option (Int32 × St)} (hK41 : ∀ (x0 : Nat) (x1 : Int32) (x2 : Nat) (x3 : Nat) (x4 : Int32) (x5 : Int32) (hx0 : (1, x0) ∈ ids) (hx2 : (7, x2) ∈ ids) (hx3 : (7, x3) ∈ ids) {z : St} {H : Heap} {locs : List Loc} {ls : Array Slot} (hr : zRep D cy B ids A s.heap z H locs) (hl : lv_has ls 7 [(0, .ref (B 1 x0)), (1, .int x1), (2, .ref (B 7 x2)), (3, .ref (B 7 x3)), (4, .int x4), (5, .int x5)]), K41 x0 x1 x2 x3 x4 x5 z = some (r, z') → W p l e rmX1_addPiece s m args below meth c H locs 0 0 Q (F0 m 41 ls [])) (x0 : Nat) (x1 : Int32) (x2 : Nat) (x3 : Nat) (x4 : Int32) (x5 : Int32) (hx0 : (1, x0) ∈ ids) (hx2 : (7, x2) ∈ ids) (hx3 : (7, x3) ∈ ids) {z : St} {H : Heap} {locs : List Loc} {ls : Array Slot} (hr : zRep D cy B ids A s.heap z H locs) (hl : lv_has ls 7 [(0, .ref (B 1 x0)), (1, .int x1), (2, .ref (B 7 x2)), (3, .ref (B 7 x3)), (4, .int x4), (5, .int x5)]) (h : fX1_addPiece_135 N K41 x0 x1 x2 x3 x4 x5 z = some (r, z')) : W p l e rmX1_addPiece s m args below meth c H locs 0 0 Q (F0 m 135 ls []) := by
  unfold fX1_addPiece_135 at h
  obtain ⟨v1, ev1⟩ : ∃ y : Int32, y = (x5 + 8) := ⟨_, rfl⟩
  replace h := zl_sub ev1 h
  refine lv_iinc (v := v1) (lv' := [(5, .int v1), (0, .ref (B 1 x0)), (1, .int x1), (2, .ref (B 7 x2)), (3, .ref (B 7 x3)), (4, .int x4)]) F.1 F.2.1 dX1_addPiece_135 hl (k := 5) rfl (by rw [ev1]; rfl) (by decide) rfl (fun ls hl => ?_)
  refine lv_goto (tgt := 41) F.1 F.2.1 dX1_addPiece_138 (by decide) ?_
  exact hK41 x0 x1 x2 x3 x4 v1 hx0 hx2 hx3 hr (lv_sub hl [1, 2, 3, 4, 5, 0] rfl) h
def fX1_addPiece_147b (N : Nat) (K147 : Nat → Int32 → Nat → Int32 → Int32 → St → Option (Int32 × St)) (x0 : Nat) (x1 : Int32) (x3 : Nat) (x5 : Int32) (x6 : Int32) (z : St) : Option (Int32 × St) := if (3 : Int32) ≤ x6 then (if (x5 * (8 : Int32)) < (zgI z 7 7 x3) then (some ((0 : Int32), z)) else (some ((1 : Int32), z))) else (zk x1 4 <| zk x6 3 <| zc (fJ13_bitCount_95d88 N (zgL z 116 (x0 * 4 + (Int32.toNatClampNeg x1)) (Int32.toNatClampNeg x6)) z) fun r5 z6 => zl (x5 + r5) fun v9 => zl (x6 + 1) fun v10 => K147 x0 x1 x3 v9 v10 z6)
def fX1_addPiece_147 (N : Nat)  : Nat → Nat → Int32 → Nat → Int32 → Int32 → St → Option (Int32 × St)
  | 0 => fun _ _ _ _ _ _ => none
  | n + 1 => fX1_addPiece_147b N (fX1_addPiece_147 N  n)
set_option maxHeartbeats 4000000 in
set_option maxRecDepth 100000 in
theorem bX1_addPiece_147 (hst : zSt B ids) (F : zFx p m c cX1_addPiece 7 s args RX1 D cy B ids A) (hA : ∀ q : Nat, s.heap.size ≤ q → A q) {r : Int32} {z' : St} (E : zEnd p l e rmX1_addPiece s m args below meth c cX1_addPiece D cy B ids A Q (some (.int r)) z' .ireturn (r = 0 ∨ r = 1)) {N : Nat} {K147 : Nat → Int32 → Nat → Int32 → Int32 → St → Option (Int32 × St)} (hK147 : ∀ (x0 : Nat) (x1 : Int32) (x3 : Nat) (x5 : Int32) (x6 : Int32) (hx0 : (1, x0) ∈ ids) (hx3 : (7, x3) ∈ ids) {z : St} {H : Heap} {locs : List Loc} {ls : Array Slot} (hr : zRep D cy B ids A s.heap z H locs) (hl : lv_has ls 7 [(0, .ref (B 1 x0)), (1, .int x1), (3, .ref (B 7 x3)), (5, .int x5), (6, .int x6)]), K147 x0 x1 x3 x5 x6 z = some (r, z') → W p l e rmX1_addPiece s m args below meth c H locs 0 0 Q (F0 m 147 ls [])) (x0 : Nat) (x1 : Int32) (x3 : Nat) (x5 : Int32) (x6 : Int32) (hx0 : (1, x0) ∈ ids) (hx3 : (7, x3) ∈ ids) {z : St} {H : Heap} {locs : List Loc} {ls : Array Slot} (hr : zRep D cy B ids A s.heap z H locs) (hl : lv_has ls 7 [(0, .ref (B 1 x0)), (1, .int x1), (3, .ref (B 7 x3)), (5, .int x5), (6, .int x6)]) (h : fX1_addPiece_147b N K147 x0 x1 x3 x5 x6 z = some (r, z')) : W p l e rmX1_addPiece s m args below meth c H locs 0 0 Q (F0 m 147 ls []) := by
  unfold fX1_addPiece_147b at h
  refine lv_iload F.1 F.2.1 dX1_addPiece_147 (lv_at hl 4 rfl) ?_
  refine lv_iconst (v := (3 : Int32)) F.1 F.2.1 dX1_addPiece_149 (by decide) ?_
  refine lv_icmp_ge (tgt := 176) F.1 F.2.1 dX1_addPiece_150 (by decide) (fun c1 => ?_) (fun c1 => ?_)
  · replace h := zi_t c1 h
    refine lv_iload F.1 F.2.1 dX1_addPiece_176 (lv_at hl 3 rfl) ?_
    refine lv_bipush (v := (8 : Int32)) F.1 F.2.1 dX1_addPiece_178 (by decide) ?_
    refine lv_imul F.1 F.2.1 dX1_addPiece_180 ?_
    refine lv_aload_n F.1 F.2.1 dX1_addPiece_181 rfl (lv_at hl 2 rfl) ?_
    refine gf1_96 F hx3 hr dX1_addPiece_182 ?_
    refine lv_icmp_lt (tgt := 192) F.1 F.2.1 dX1_addPiece_185 (by decide) (fun c2 => ?_) (fun c2 => ?_)
    · replace h := zi_t c2 h
      refine lv_iconst (v := (0 : Int32)) F.1 F.2.1 dX1_addPiece_192 (by decide) ?_
      obtain ⟨rfl, rfl⟩ := zret h
      exact E _ _ _ _ dX1_addPiece_193 (by decide) hr
    · replace h := zi_f c2 h
      refine lv_iconst (v := (1 : Int32)) F.1 F.2.1 dX1_addPiece_188 (by decide) ?_
      refine lv_goto (tgt := 193) F.1 F.2.1 dX1_addPiece_189 (by decide) ?_
      obtain ⟨rfl, rfl⟩ := zret h
      exact E _ _ _ _ dX1_addPiece_193 (by decide) hr
  · replace h := zi_f c1 h
    refine lv_iload F.1 F.2.1 dX1_addPiece_153 (lv_at hl 3 rfl) ?_
    refine lv_aload_n F.1 F.2.1 dX1_addPiece_155 rfl (lv_at hl 0 rfl) ?_
    refine gf1_29 F hx0 hr dX1_addPiece_156 ?_
    refine lv_iload_n F.1 F.2.1 dX1_addPiece_159 rfl (lv_at hl 1 rfl) ?_
    replace h := zk_some h
    obtain ⟨c3, h⟩ := h
    refine zr_rald (k := 115) (by decide) rfl (by decide) rfl F (zal_a F hx0 (j := 6) rfl) hr dX1_addPiece_160 c3 ?_
    refine lv_iload F.1 F.2.1 dX1_addPiece_161 (lv_at hl 4 rfl) ?_
    replace h := zk_some h
    obtain ⟨c4, h⟩ := h
    refine zr_lald (k := 116) (by decide) rfl (by decide) F (zal_w F (zal_a F hx0 (j := 6) rfl) (k := 115) rfl c3) hr dX1_addPiece_163 c4 ?_
    replace h := zc_some h
    obtain ⟨r5, z6, hc7, h⟩ := h
    refine zr_calli (zrun_S (As := [.long (zgL z 116 (x0 * 4 + (Int32.toNatClampNeg x1)) (Int32.toNatClampNeg x6))]) (rest := [.int x5]) zq_1122 zq_1123 zq_1124 zq_28 hdJ13_bitCount_95d88 (okJ13_bitCount_95d88 l D cy B ids hst N (zgL z 116 (x0 * 4 + (Int32.toNatClampNeg x1)) (Int32.toNatClampNeg x6))  hr.2.2 hc7) F hr hl.1 rfl (Nat.le_of_ble_eq_true rfl) dX1_addPiece_164 rfl rfl hroX1_addPiece_J13_bitCount_95d88 ⟨Nat.zero_le _, Nat.zero_le _⟩) F hA hr (fun H locs hw8 hr => ?_)
    clear hc7
    refine lv_iadd F.1 F.2.1 dX1_addPiece_167 ?_
    refine lv_topi (fun v9 ev9 => ?_)
    replace h := zl_sub ev9 h
    refine lv_istore (lv' := [(5, .int v9), (0, .ref (B 1 x0)), (1, .int x1), (3, .ref (B 7 x3)), (6, .int x6)]) F.1 F.2.1 dX1_addPiece_168 hl (by decide) rfl (fun ls hl => ?_)
    obtain ⟨v10, ev10⟩ : ∃ y : Int32, y = (x6 + 1) := ⟨_, rfl⟩
    replace h := zl_sub ev10 h
    refine lv_iinc (v := v10) (lv' := [(6, .int v10), (5, .int v9), (0, .ref (B 1 x0)), (1, .int x1), (3, .ref (B 7 x3))]) F.1 F.2.1 dX1_addPiece_170 hl (k := 4) rfl (by rw [ev10]; rfl) (by decide) rfl (fun ls hl => ?_)
    refine lv_goto (tgt := 147) F.1 F.2.1 dX1_addPiece_173 (by decide) ?_
    exact hK147 x0 x1 x3 v9 v10 hx0 hx3 hr (lv_sub hl [2, 3, 4, 1, 0] rfl) h
theorem lX1_addPiece_147 (hst : zSt B ids) (F : zFx p m c cX1_addPiece 7 s args RX1 D cy B ids A) (hA : ∀ q : Nat, s.heap.size ≤ q → A q) {r : Int32} {z' : St} (E : zEnd p l e rmX1_addPiece s m args below meth c cX1_addPiece D cy B ids A Q (some (.int r)) z' .ireturn (r = 0 ∨ r = 1)) {N : Nat}  : ∀ (n : Nat) (x0 : Nat) (x1 : Int32) (x3 : Nat) (x5 : Int32) (x6 : Int32) (hx0 : (1, x0) ∈ ids) (hx3 : (7, x3) ∈ ids) {z : St} {H : Heap} {locs : List Loc} {ls : Array Slot} (hr : zRep D cy B ids A s.heap z H locs) (hl : lv_has ls 7 [(0, .ref (B 1 x0)), (1, .int x1), (3, .ref (B 7 x3)), (5, .int x5), (6, .int x6)]), fX1_addPiece_147 N  n x0 x1 x3 x5 x6 z = some (r, z') → W p l e rmX1_addPiece s m args below meth c H locs 0 0 Q (F0 m 147 ls []) := by
  intro n
  induction n with
  | zero => intro x0 x1 x3 x5 x6 hx0 hx3 z H locs ls hr hl h; cases h
  | succ n ih => intro x0 x1 x3 x5 x6 hx0 hx3 z H locs ls hr hl h; exact bX1_addPiece_147 hst F hA E ih x0 x1 x3 x5 x6 hx0 hx3 hr hl h
def fX1_addPiece_41b (N : Nat) (K41 : Nat → Int32 → Nat → Nat → Int32 → Int32 → St → Option (Int32 × St)) (x0 : Nat) (x1 : Int32) (x2 : Nat) (x3 : Nat) (x4 : Int32) (x5 : Int32) (z : St) : Option (Int32 × St) := if x4 ≤ x5 then (fX1_addPiece_147 N N x0 x1 x3 (0 : Int32) (0 : Int32) z) else (zl (x5 / (8 : Int32)) fun v2 => zk x1 4 <| zk (v2 / (64 : Int32)) 3 <| if (lg_cmp (((((zgL z 116 (x0 * 4 + (Int32.toNatClampNeg x1)) (Int32.toNatClampNeg (v2 / (64 : Int32))))).toUInt64 >>> (((v2 - v2 / (64 : Int32) * (64 : Int32))).toInt64.toUInt64 &&& Int64.toUInt64 63)).toInt64) &&& (1 : Int64)) (0 : Int64)) = 0 then (zk x1 4 <| zk (v2 / (64 : Int32)) 3 <| zk (v2 / (64 : Int32)) 3 <| zl (zsL z 116 (x0 * 4 + (Int32.toNatClampNeg x1)) (Int32.toNatClampNeg (v2 / (64 : Int32))) ((zgL z 116 (x0 * 4 + (Int32.toNatClampNeg x1)) (Int32.toNatClampNeg (v2 / (64 : Int32)))) ||| ((1 : Int64) <<< (((v2 - v2 / (64 : Int32) * (64 : Int32))).toInt64 &&& 63)))) fun z9 => zq (zcpok (x5 - (zgI z9 7 5 x2)) x5 (if (x4 - x5) < (8 : Int32) then (x4 - x5) else (8 : Int32))) <| zl (zcp z9 x2 x3 (x5 - (zgI z9 7 5 x2)) x5 (if (x4 - x5) < (8 : Int32) then (x4 - x5) else (8 : Int32))) fun z11 => fX1_addPiece_135 N K41 x0 x1 x2 x3 x4 x5 z11) else (fX1_addPiece_135 N K41 x0 x1 x2 x3 x4 x5 z))
def fX1_addPiece_41 (N : Nat)  : Nat → Nat → Int32 → Nat → Nat → Int32 → Int32 → St → Option (Int32 × St)
  | 0 => fun _ _ _ _ _ _ _ => none
  | n + 1 => fX1_addPiece_41b N (fX1_addPiece_41 N  n)
set_option maxHeartbeats 4000000 in
set_option maxRecDepth 100000 in
theorem bX1_addPiece_41 (hst : zSt B ids) (F : zFx p m c cX1_addPiece 7 s args RX1 D cy B ids A) (hA : ∀ q : Nat, s.heap.size ≤ q → A q) {r : Int32} {z' : St} (E : zEnd p l e rmX1_addPiece s m args below meth c cX1_addPiece D cy B ids A Q (some (.int r)) z' .ireturn (r = 0 ∨ r = 1)) {N : Nat} {K41 : Nat → Int32 → Nat → Nat → Int32 → Int32 → St → Option (Int32 × St)} (hK41 : ∀ (x0 : Nat) (x1 : Int32) (x2 : Nat) (x3 : Nat) (x4 : Int32) (x5 : Int32) (hx0 : (1, x0) ∈ ids) (hx2 : (7, x2) ∈ ids) (hx3 : (7, x3) ∈ ids) {z : St} {H : Heap} {locs : List Loc} {ls : Array Slot} (hr : zRep D cy B ids A s.heap z H locs) (hl : lv_has ls 7 [(0, .ref (B 1 x0)), (1, .int x1), (2, .ref (B 7 x2)), (3, .ref (B 7 x3)), (4, .int x4), (5, .int x5)]), K41 x0 x1 x2 x3 x4 x5 z = some (r, z') → W p l e rmX1_addPiece s m args below meth c H locs 0 0 Q (F0 m 41 ls [])) (x0 : Nat) (x1 : Int32) (x2 : Nat) (x3 : Nat) (x4 : Int32) (x5 : Int32) (hx0 : (1, x0) ∈ ids) (hx2 : (7, x2) ∈ ids) (hx3 : (7, x3) ∈ ids) {z : St} {H : Heap} {locs : List Loc} {ls : Array Slot} (hr : zRep D cy B ids A s.heap z H locs) (hl : lv_has ls 7 [(0, .ref (B 1 x0)), (1, .int x1), (2, .ref (B 7 x2)), (3, .ref (B 7 x3)), (4, .int x4), (5, .int x5)]) (h : fX1_addPiece_41b N K41 x0 x1 x2 x3 x4 x5 z = some (r, z')) : W p l e rmX1_addPiece s m args below meth c H locs 0 0 Q (F0 m 41 ls []) := by
  unfold fX1_addPiece_41b at h
  refine lv_iload F.1 F.2.1 dX1_addPiece_41 (lv_at hl 5 rfl) ?_
  refine lv_iload F.1 F.2.1 dX1_addPiece_43 (lv_at hl 4 rfl) ?_
  refine lv_icmp_ge (tgt := 141) F.1 F.2.1 dX1_addPiece_45 (by decide) (fun c1 => ?_) (fun c1 => ?_)
  · replace h := zi_t c1 h
    refine lv_iconst (v := (0 : Int32)) F.1 F.2.1 dX1_addPiece_141 (by decide) ?_
    refine lv_istore (lv' := [(5, .int (0 : Int32)), (0, .ref (B 1 x0)), (1, .int x1), (2, .ref (B 7 x2)), (3, .ref (B 7 x3)), (4, .int x4)]) F.1 F.2.1 dX1_addPiece_142 hl (by decide) rfl (fun ls hl => ?_)
    refine lv_iconst (v := (0 : Int32)) F.1 F.2.1 dX1_addPiece_144 (by decide) ?_
    refine lv_istore (lv' := [(6, .int (0 : Int32)), (5, .int (0 : Int32)), (0, .ref (B 1 x0)), (1, .int x1), (2, .ref (B 7 x2)), (3, .ref (B 7 x3)), (4, .int x4)]) F.1 F.2.1 dX1_addPiece_145 hl (by decide) rfl (fun ls hl => ?_)
    exact lX1_addPiece_147 hst F hA E  _ x0 x1 x3 (0 : Int32) (0 : Int32) hx0 hx3 hr (lv_sub hl [2, 3, 5, 1, 0] rfl) h
  · replace h := zi_f c1 h
    refine lv_iload F.1 F.2.1 dX1_addPiece_48 (lv_at hl 5 rfl) ?_
    refine lv_bipush (v := (8 : Int32)) F.1 F.2.1 dX1_addPiece_50 (by decide) ?_
    refine lv_idiv F.1 F.2.1 dX1_addPiece_52 (by decide) ?_
    refine lv_topi (fun v2 ev2 => ?_)
    replace h := zl_sub ev2 h
    refine lv_istore (lv' := [(6, .int v2), (0, .ref (B 1 x0)), (1, .int x1), (2, .ref (B 7 x2)), (3, .ref (B 7 x3)), (4, .int x4), (5, .int x5)]) F.1 F.2.1 dX1_addPiece_53 hl (by decide) rfl (fun ls hl => ?_)
    refine lv_aload_n F.1 F.2.1 dX1_addPiece_55 rfl (lv_at hl 1 rfl) ?_
    refine gf1_29 F hx0 hr dX1_addPiece_56 ?_
    refine lv_iload_n F.1 F.2.1 dX1_addPiece_59 rfl (lv_at hl 2 rfl) ?_
    replace h := zk_some h
    obtain ⟨c3, h⟩ := h
    refine zr_rald (k := 115) (by decide) rfl (by decide) rfl F (zal_a F hx0 (j := 6) rfl) hr dX1_addPiece_60 c3 ?_
    refine lv_iload F.1 F.2.1 dX1_addPiece_61 (lv_at hl 0 rfl) ?_
    refine lv_bipush (v := (64 : Int32)) F.1 F.2.1 dX1_addPiece_63 (by decide) ?_
    refine lv_idiv F.1 F.2.1 dX1_addPiece_65 (by decide) ?_
    replace h := zk_some h
    obtain ⟨c4, h⟩ := h
    refine zr_lald (k := 116) (by decide) rfl (by decide) F (zal_w F (zal_a F hx0 (j := 6) rfl) (k := 115) rfl c3) hr dX1_addPiece_66 c4 ?_
    refine lv_iload F.1 F.2.1 dX1_addPiece_67 (lv_at hl 0 rfl) ?_
    refine lv_bipush (v := (64 : Int32)) F.1 F.2.1 dX1_addPiece_69 (by decide) ?_
    refine lv_irem F.1 F.2.1 dX1_addPiece_71 (by decide) ?_
    refine lv_lushr F.1 F.2.1 dX1_addPiece_72 rfl ?_
    refine lv_lconst (v := (1 : Int64)) F.1 F.2.1 dX1_addPiece_73 (by decide) ?_
    refine lv_land F.1 F.2.1 dX1_addPiece_74 ?_
    refine lv_lconst (v := (0 : Int64)) F.1 F.2.1 dX1_addPiece_75 (by decide) ?_
    refine W.lcmp F.1 F.2.1 dX1_addPiece_76 ?_
    refine lv_if_eq (tgt := 83) F.1 F.2.1 dX1_addPiece_77 (by decide) (fun c5 => ?_) (fun c5 => ?_)
    · replace h := zi_t c5 h
      refine lv_aload_n F.1 F.2.1 dX1_addPiece_83 rfl (lv_at hl 1 rfl) ?_
      refine gf1_29 F hx0 hr dX1_addPiece_84 ?_
      refine lv_iload_n F.1 F.2.1 dX1_addPiece_87 rfl (lv_at hl 2 rfl) ?_
      replace h := zk_some h
      obtain ⟨c6, h⟩ := h
      refine zr_rald (k := 115) (by decide) rfl (by decide) rfl F (zal_a F hx0 (j := 6) rfl) hr dX1_addPiece_88 c6 ?_
      refine lv_iload F.1 F.2.1 dX1_addPiece_89 (lv_at hl 0 rfl) ?_
      refine lv_bipush (v := (64 : Int32)) F.1 F.2.1 dX1_addPiece_91 (by decide) ?_
      refine lv_idiv F.1 F.2.1 dX1_addPiece_93 (by decide) ?_
      refine lv_dup2_11 F.1 F.2.1 dX1_addPiece_94 rfl rfl ?_
      replace h := zk_some h
      obtain ⟨c7, h⟩ := h
      refine zr_lald (k := 116) (by decide) rfl (by decide) F (zal_w F (zal_a F hx0 (j := 6) rfl) (k := 115) rfl c6) hr dX1_addPiece_95 c7 ?_
      refine lv_lconst (v := (1 : Int64)) F.1 F.2.1 dX1_addPiece_96 (by decide) ?_
      refine lv_iload F.1 F.2.1 dX1_addPiece_97 (lv_at hl 0 rfl) ?_
      refine lv_bipush (v := (64 : Int32)) F.1 F.2.1 dX1_addPiece_99 (by decide) ?_
      refine lv_irem F.1 F.2.1 dX1_addPiece_101 (by decide) ?_
      refine lv_lshl F.1 F.2.1 dX1_addPiece_102 rfl ?_
      refine lv_lor F.1 F.2.1 dX1_addPiece_103 ?_
      replace h := zk_some h
      obtain ⟨c8, h⟩ := h
      refine zr_last (k := 116) (by decide) rfl (by decide) F (zal_w F (zal_a F hx0 (j := 6) rfl) (k := 115) rfl c6) hr dX1_addPiece_104 c8 (fun H locs z9 ez9 hr => ?_)
      replace h := zl_sub ez9 h
      clear ez9
      refine lv_aload_n F.1 F.2.1 dX1_addPiece_105 rfl (lv_at hl 3 rfl) ?_
      refine gf1_114 F hx2 hr dX1_addPiece_106 ?_
      refine lv_iload F.1 F.2.1 dX1_addPiece_109 (lv_at hl 6 rfl) ?_
      refine lv_aload_n F.1 F.2.1 dX1_addPiece_111 rfl (lv_at hl 3 rfl) ?_
      refine gf1_93 F hx2 hr dX1_addPiece_112 ?_
      refine lv_isub F.1 F.2.1 dX1_addPiece_115 ?_
      refine lv_aload_n F.1 F.2.1 dX1_addPiece_116 rfl (lv_at hl 4 rfl) ?_
      refine gf1_114 F hx3 hr dX1_addPiece_117 ?_
      refine lv_iload F.1 F.2.1 dX1_addPiece_120 (lv_at hl 6 rfl) ?_
      refine lv_bipush (v := (8 : Int32)) F.1 F.2.1 dX1_addPiece_122 (by decide) ?_
      refine lv_iload F.1 F.2.1 dX1_addPiece_124 (lv_at hl 5 rfl) ?_
      refine lv_iload F.1 F.2.1 dX1_addPiece_126 (lv_at hl 6 rfl) ?_
      refine lv_isub F.1 F.2.1 dX1_addPiece_128 ?_
      refine va_mmin F.1 F.2.1 (F.2.2.1.trans hl.1.symm) F.2.2.2.1 (F.2.2.2.2.1 _ zq_1119) (F.2.2.2.2.1 _ zq_304) (F.2.2.2.2.1 _ zq_27) (F.2.2.2.2.1 _ zq_305) (Nat.le_of_ble_eq_true rfl) (Nat.le_of_ble_eq_true rfl) (Nat.zero_le _) (Nat.zero_le _) dX1_addPiece_129 ?_
      replace h := zq_some h
      obtain ⟨c10, h⟩ := h
      refine zr_copy (F.2.2.1.trans hl.1.symm) zq_1121 zq_1077 zq_1076 zq_26 F (zal_a F hx2 (j := 8) rfl) (zal_a F hx3 (j := 8) rfl) hr c10 (Nat.le_of_ble_eq_true rfl) (Nat.le_of_ble_eq_true rfl) dX1_addPiece_132 (fun H locs z11 ez11 hr => ?_)
      replace h := zl_sub ez11 h
      clear ez11
      exact bX1_addPiece_135 hst F hA E hK41 x0 x1 x2 x3 x4 x5 hx0 hx2 hx3 hr (lv_sub hl [1, 2, 3, 4, 5, 6] rfl) h
    · replace h := zi_f c5 h
      refine lv_goto (tgt := 135) F.1 F.2.1 dX1_addPiece_80 (by decide) ?_
      exact bX1_addPiece_135 hst F hA E hK41 x0 x1 x2 x3 x4 x5 hx0 hx2 hx3 hr (lv_sub hl [1, 2, 3, 4, 5, 6] rfl) h
theorem lX1_addPiece_41 (hst : zSt B ids) (F : zFx p m c cX1_addPiece 7 s args RX1 D cy B ids A) (hA : ∀ q : Nat, s.heap.size ≤ q → A q) {r : Int32} {z' : St} (E : zEnd p l e rmX1_addPiece s m args below meth c cX1_addPiece D cy B ids A Q (some (.int r)) z' .ireturn (r = 0 ∨ r = 1)) {N : Nat}  : ∀ (n : Nat) (x0 : Nat) (x1 : Int32) (x2 : Nat) (x3 : Nat) (x4 : Int32) (x5 : Int32) (hx0 : (1, x0) ∈ ids) (hx2 : (7, x2) ∈ ids) (hx3 : (7, x3) ∈ ids) {z : St} {H : Heap} {locs : List Loc} {ls : Array Slot} (hr : zRep D cy B ids A s.heap z H locs) (hl : lv_has ls 7 [(0, .ref (B 1 x0)), (1, .int x1), (2, .ref (B 7 x2)), (3, .ref (B 7 x3)), (4, .int x4), (5, .int x5)]), fX1_addPiece_41 N  n x0 x1 x2 x3 x4 x5 z = some (r, z') → W p l e rmX1_addPiece s m args below meth c H locs 0 0 Q (F0 m 41 ls []) := by
  intro n
  induction n with
  | zero => intro x0 x1 x2 x3 x4 x5 hx0 hx2 hx3 z H locs ls hr hl h; cases h
  | succ n ih => intro x0 x1 x2 x3 x4 x5 hx0 hx2 hx3 z H locs ls hr hl h; exact bX1_addPiece_41 hst F hA E ih x0 x1 x2 x3 x4 x5 hx0 hx2 hx3 hr hl h
def fX1_addPiece (N : Nat)  (x0 : Nat) (x1 : Int32) (x2 : Nat) (z : St) : Option (Int32 × St) := zk x1 4 <| zl (zgQ z 114 x0 (Int32.toNatClampNeg x1)) fun y2 => zd y2 fun a3 => zl (if (if (1480 : Int32) < (zgI z 7 7 a3) then (1480 : Int32) else (zgI z 7 7 a3)) < ((zgI z 7 5 x2) + (zgI z 7 6 x2)) then (if (1480 : Int32) < (zgI z 7 7 a3) then (1480 : Int32) else (zgI z 7 7 a3)) else ((zgI z 7 5 x2) + (zgI z 7 6 x2))) fun v4 => zl (if (0 : Int32) < (zgI z 7 5 x2) then (zgI z 7 5 x2) else (0 : Int32)) fun v5 => fX1_addPiece_41 N N x0 x1 x2 a3 v4 v5 z
set_option maxHeartbeats 4000000 in
set_option maxRecDepth 100000 in
theorem bX1_addPiece_0 (hst : zSt B ids) (F : zFx p m c cX1_addPiece 7 s args RX1 D cy B ids A) (hA : ∀ q : Nat, s.heap.size ≤ q → A q) {r : Int32} {z' : St} (E : zEnd p l e rmX1_addPiece s m args below meth c cX1_addPiece D cy B ids A Q (some (.int r)) z' .ireturn (r = 0 ∨ r = 1)) {N : Nat}  (x0 : Nat) (x1 : Int32) (x2 : Nat) (hx0 : (1, x0) ∈ ids) (hx2 : (7, x2) ∈ ids) {z : St} {H : Heap} {locs : List Loc} {ls : Array Slot} (hr : zRep D cy B ids A s.heap z H locs) (hl : lv_has ls 7 [(0, .ref (B 1 x0)), (1, .int x1), (2, .ref (B 7 x2))]) (h : fX1_addPiece N x0 x1 x2 z = some (r, z')) : W p l e rmX1_addPiece s m args below meth c H locs 0 0 Q (F0 m 0 ls []) := by
  unfold fX1_addPiece at h
  refine lv_aload_n F.1 F.2.1 dX1_addPiece_0 rfl (lv_at hl 0 rfl) ?_
  refine gf1_23 F hx0 hr dX1_addPiece_1 ?_
  refine lv_iload_n F.1 F.2.1 dX1_addPiece_4 rfl (lv_at hl 1 rfl) ?_
  replace h := zk_some h
  obtain ⟨c1, h⟩ := h
  refine zr_aaldv (k := 114) (by decide) rfl rfl (zlen_d (by decide)) F (zal_a F hx0 (j := 5) rfl) hr dX1_addPiece_5 c1 (fun y2 ey2 => ?_)
  replace h := zl_sub ey2 h
  have hy2 := zal_q hr (zal_a F hx0 (j := 5) rfl) rfl ey2
  clear ey2
  refine zr_astore_n (lv' := [(3, va_rf (Option.map (B 7) y2)), (0, .ref (B 1 x0)), (1, .int x1), (2, .ref (B 7 x2))]) F.1 F.2.1 dX1_addPiece_6 rfl hl (by decide) rfl (fun ls hl => ?_)
  refine lv_aload_n F.1 F.2.1 dX1_addPiece_7 rfl (lv_at hl 3 rfl) ?_
  refine gf1_93 F hx2 hr dX1_addPiece_8 ?_
  refine lv_aload_n F.1 F.2.1 dX1_addPiece_11 rfl (lv_at hl 3 rfl) ?_
  refine gf1_99 F hx2 hr dX1_addPiece_12 ?_
  refine lv_iadd F.1 F.2.1 dX1_addPiece_15 ?_
  refine zr_aload_n F.1 F.2.1 dX1_addPiece_16 rfl (lv_at hl 0 rfl) ?_
  replace h := zd_some h
  obtain ⟨a3, rfl, h⟩ := h
  refine gf1_96 F (hy2 _ rfl) hr dX1_addPiece_17 ?_
  refine lv_sipush (v := (1480 : Int32)) F.1 F.2.1 dX1_addPiece_20 (by decide) ?_
  refine va_mmin F.1 F.2.1 (F.2.2.1.trans hl.1.symm) F.2.2.2.1 (F.2.2.2.2.1 _ zq_1119) (F.2.2.2.2.1 _ zq_304) (F.2.2.2.2.1 _ zq_27) (F.2.2.2.2.1 _ zq_305) (Nat.le_of_ble_eq_true rfl) (Nat.le_of_ble_eq_true rfl) (Nat.zero_le _) (Nat.zero_le _) dX1_addPiece_23 ?_
  refine va_mmin F.1 F.2.1 (F.2.2.1.trans hl.1.symm) F.2.2.2.1 (F.2.2.2.2.1 _ zq_1119) (F.2.2.2.2.1 _ zq_304) (F.2.2.2.2.1 _ zq_27) (F.2.2.2.2.1 _ zq_305) (Nat.le_of_ble_eq_true rfl) (Nat.le_of_ble_eq_true rfl) (Nat.zero_le _) (Nat.zero_le _) dX1_addPiece_26 ?_
  refine lv_topi (fun v4 ev4 => ?_)
  replace h := zl_sub ev4 h
  refine lv_istore (lv' := [(4, .int v4), (3, .ref (B 7 a3)), (0, .ref (B 1 x0)), (1, .int x1), (2, .ref (B 7 x2))]) F.1 F.2.1 dX1_addPiece_29 hl (by decide) rfl (fun ls hl => ?_)
  refine lv_iconst (v := (0 : Int32)) F.1 F.2.1 dX1_addPiece_31 (by decide) ?_
  refine lv_aload_n F.1 F.2.1 dX1_addPiece_32 rfl (lv_at hl 4 rfl) ?_
  refine gf1_93 F hx2 hr dX1_addPiece_33 ?_
  refine va_mmax F.1 F.2.1 (F.2.2.1.trans hl.1.symm) F.2.2.2.1 (F.2.2.2.2.1 _ zq_1120) (F.2.2.2.2.1 _ zq_275) (F.2.2.2.2.1 _ zq_27) (F.2.2.2.2.1 _ zq_276) (Nat.le_of_ble_eq_true rfl) (Nat.le_of_ble_eq_true rfl) (Nat.zero_le _) (Nat.zero_le _) dX1_addPiece_36 ?_
  refine lv_topi (fun v5 ev5 => ?_)
  replace h := zl_sub ev5 h
  refine lv_istore (lv' := [(5, .int v5), (4, .int v4), (3, .ref (B 7 a3)), (0, .ref (B 1 x0)), (1, .int x1), (2, .ref (B 7 x2))]) F.1 F.2.1 dX1_addPiece_39 hl (by decide) rfl (fun ls hl => ?_)
  exact lX1_addPiece_41 hst F hA E  _ x0 x1 x2 a3 v4 v5 hx0 hx2 (hy2 _ rfl) hr (lv_sub hl [3, 4, 5, 2, 1, 0] rfl) h
end SX1_addPiece
set_option maxRecDepth 100000 in
theorem okX1_addPiece (l : Launch) (D : va_G) (cy : Nat → ClassId) (B : Nat → Nat → Nat) (ids : List (Nat × Nat)) (hst : zSt B ids) (N : Nat) (x0 : Nat) (hx0 : (1, x0) ∈ ids) (x1 : Int32) (x2 : Nat) (hx2 : (7, x2) ∈ ids) {z : St} {r : Int32} {z' : St} (hW : zWf ids z) (h : fX1_addPiece N x0 x1 x2 z = some (r, z')) : zM l yX1_addPiece (zws yX1_addPiece cX1_addPiece 7 (some .boolean)) rmX1_addPiece D cy B ids [.ref (B 1 x0), .int x1, .ref (B 7 x2)] (some (.int r)) (r = 0 ∨ r = 1) z z' :=
  zM_of hst hW (by decide +kernel) (Nat.le_of_ble_eq_true rfl) (fun p e s m args below meth c A ls F hA hret hlocks hr hl => bX1_addPiece_0 hst F hA (zEnd_z F hret hlocks) x0 x1 x2 hx0 hx2 hr hl h)
