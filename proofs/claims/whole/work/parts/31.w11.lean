abbrev rmX11_wrongWays : Room := { frames := 2, cells := 0, slots := 0, locals := 87 }
theorem hdX11_wrongWays : yX11_wrongWays.cls ≠ "java/lang/invoke/MethodHandle" ∧ yX11_wrongWays.cls ≠ "java/lang/invoke/VarHandle" ∧ (parseMethodDescriptor yX11_wrongWays.desc).map (fun d => d.parameters.length) = some 1 := by decide +kernel
theorem hroX11_wrongWays_X11_costFromAbove : rmX11_costFromAbove.frames + 1 ≤ rmX11_wrongWays.frames ∧ 8 + (8 + 11) + rmX11_costFromAbove.locals ≤ rmX11_wrongWays.locals := by decide
section SX11_wrongWays
variable {p : Program} {l : Launch} {e : Env} {s : State} {m : MethodId} {args : Array Value} {below : List Frame} {meth : Method} {c : Code} {Q : State → Prop} {D : va_G} {cy : Nat → ClassId} {B : Nat → Nat → Nat} {ids : List (Nat × Nat)} {A : Nat → Prop}
def fX11_wrongWays_41 (N : Nat) (K4 : Nat → Nat → Int32 → Int32 → St → Option (Int32 × St)) (x0 : Nat) (x1 : Nat) (x2 : Int32) (x3 : Int32) (z : St) : Option (Int32 × St) := zl (x3 + 1) fun v1 => K4 x0 x1 x2 v1 z
set_option maxHeartbeats 4000000 in
set_option maxRecDepth 100000 in
theorem bX11_wrongWays_41 (hst : zSt B ids) (F : zFx p m c cX11_wrongWays 4 s args RX11 D cy B ids A) (hA : ∀ q : Nat, s.heap.size ≤ q → A q) {r : Int32} {z' : St} (E : zEnd p l e rmX11_wrongWays s m args below meth c cX11_wrongWays D cy B ids A Q (some (.int r)) z' .ireturn True) {N : Nat} {K4 : Nat → Nat → Int32 → Int32 → St → Option (Int32 × St)} (hK4 : ∀ (x0 : Nat) (x1 : Nat) (x2 : Int32) (x3 : Int32) (hx0 : (11, x0) ∈ ids) (hx1 : (1, x1) ∈ ids) {z : St} {H : Heap} {locs : List Loc} {ls : Array Slot} (hr : zRep D cy B ids A s.heap z H locs) (hl : lv_has ls 4 [(0, .ref (B 11 x0)), (1, .ref (B 1 x1)), (2, .int x2), (3, .int x3)]), K4 x0 x1 x2 x3 z = some (r, z') → W p l e rmX11_wrongWays s m args below meth c H locs 0 0 Q (F0 m 4 ls [])) (x0 : Nat) (x1 : Nat) (x2 : Int32) (x3 : Int32) (hx0 : (11, x0) ∈ ids) (hx1 : (1, x1) ∈ ids) {z : St} {H : Heap} {locs : List Loc} {ls : Array Slot} (hr : zRep D cy B ids A s.heap z H locs) (hl : lv_has ls 4 [(0, .ref (B 11 x0)), (1, .ref (B 1 x1)), (2, .int x2), (3, .int x3)]) (h : fX11_wrongWays_41 N K4 x0 x1 x2 x3 z = some (r, z')) : W p l e rmX11_wrongWays s m args below meth c H locs 0 0 Q (F0 m 41 ls []) := by
  unfold fX11_wrongWays_41 at h
  obtain ⟨v1, ev1⟩ : ∃ y : Int32, y = (x3 + 1) := ⟨_, rfl⟩
  replace h := zl_sub ev1 h
  refine lv_iinc (v := v1) (lv' := [(3, .int v1), (0, .ref (B 11 x0)), (1, .ref (B 1 x1)), (2, .int x2)]) F.1 F.2.1 dX11_wrongWays_41 hl (k := 3) rfl (by rw [ev1]; rfl) (by decide) rfl (fun ls hl => ?_)
  refine lv_goto (tgt := 4) F.1 F.2.1 dX11_wrongWays_44 (by decide) ?_
  exact hK4 x0 x1 x2 v1 hx0 hx1 hr (lv_sub hl [1, 2, 3, 0] rfl) h
def fX11_wrongWays_4b (N : Nat) (K4 : Nat → Nat → Int32 → Int32 → St → Option (Int32 × St)) (x0 : Nat) (x1 : Nat) (x2 : Int32) (x3 : Int32) (z : St) : Option (Int32 × St) := if (zgI z 11 1 x0) ≤ x3 then (some (x2, z)) else (zl (zgR z 1 10 x1) fun y2 => zd y2 fun a3 => zl (zgR z 9 12 a3) fun y4 => zd y4 fun a5 => zk x3 24 <| zk x3 24 <| zl (zgQ z 139 x0 x3.toNatClampNeg) fun y8 => zd y8 fun a9 => zc (fX11_costFromAbove N x0 x1 a9 z) fun r10 z11 => if (zgA z 106 a5 x3.toNatClampNeg) = r10 then (fX11_wrongWays_41 N K4 x0 x1 x2 x3 z11) else (zl (x2 + 1) fun v15 => fX11_wrongWays_41 N K4 x0 x1 v15 x3 z11))
def fX11_wrongWays_4 (N : Nat)  : Nat → Nat → Nat → Int32 → Int32 → St → Option (Int32 × St)
  | 0 => fun _ _ _ _ _ => none
  | n + 1 => fX11_wrongWays_4b N (fX11_wrongWays_4 N  n)
set_option maxHeartbeats 4000000 in
set_option maxRecDepth 100000 in
theorem bX11_wrongWays_4 (hst : zSt B ids) (F : zFx p m c cX11_wrongWays 4 s args RX11 D cy B ids A) (hA : ∀ q : Nat, s.heap.size ≤ q → A q) {r : Int32} {z' : St} (E : zEnd p l e rmX11_wrongWays s m args below meth c cX11_wrongWays D cy B ids A Q (some (.int r)) z' .ireturn True) {N : Nat} {K4 : Nat → Nat → Int32 → Int32 → St → Option (Int32 × St)} (hK4 : ∀ (x0 : Nat) (x1 : Nat) (x2 : Int32) (x3 : Int32) (hx0 : (11, x0) ∈ ids) (hx1 : (1, x1) ∈ ids) {z : St} {H : Heap} {locs : List Loc} {ls : Array Slot} (hr : zRep D cy B ids A s.heap z H locs) (hl : lv_has ls 4 [(0, .ref (B 11 x0)), (1, .ref (B 1 x1)), (2, .int x2), (3, .int x3)]), K4 x0 x1 x2 x3 z = some (r, z') → W p l e rmX11_wrongWays s m args below meth c H locs 0 0 Q (F0 m 4 ls [])) (x0 : Nat) (x1 : Nat) (x2 : Int32) (x3 : Int32) (hx0 : (11, x0) ∈ ids) (hx1 : (1, x1) ∈ ids) {z : St} {H : Heap} {locs : List Loc} {ls : Array Slot} (hr : zRep D cy B ids A s.heap z H locs) (hl : lv_has ls 4 [(0, .ref (B 11 x0)), (1, .ref (B 1 x1)), (2, .int x2), (3, .int x3)]) (h : fX11_wrongWays_4b N K4 x0 x1 x2 x3 z = some (r, z')) : W p l e rmX11_wrongWays s m args below meth c H locs 0 0 Q (F0 m 4 ls []) := by
  unfold fX11_wrongWays_4b at h
  refine lv_iload_n F.1 F.2.1 dX11_wrongWays_4 rfl (lv_at hl 3 rfl) ?_
  refine lv_aload_n F.1 F.2.1 dX11_wrongWays_5 rfl (lv_at hl 0 rfl) ?_
  refine gf11_85 F hx0 hr dX11_wrongWays_6 ?_
  refine lv_icmp_ge (tgt := 47) F.1 F.2.1 dX11_wrongWays_9 (by decide) (fun c1 => ?_) (fun c1 => ?_)
  · replace h := zi_t c1 h
    refine lv_iload_n F.1 F.2.1 dX11_wrongWays_47 rfl (lv_at hl 2 rfl) ?_
    obtain ⟨rfl, rfl⟩ := zret h
    exact E _ _ _ _ dX11_wrongWays_48 trivial hr
  · replace h := zi_f c1 h
    refine lv_aload_n F.1 F.2.1 dX11_wrongWays_12 rfl (lv_at hl 1 rfl) ?_
    refine gf11_395 F hx1 hr dX11_wrongWays_13 (fun y2 ey2 => ?_)
    replace h := zl_sub ey2 h
    have hy2 := zal_g hr hx1 (j := 10) rfl ey2
    clear ey2
    obtain ⟨a3, rfl, h⟩ := zd_some h
    refine gf11_399 F (hy2 _ rfl) hr dX11_wrongWays_16 (fun y4 ey4 => ?_)
    replace h := zl_sub ey4 h
    have hy4 := zal_g hr (hy2 _ rfl) (j := 12) rfl ey4
    clear ey4
    obtain ⟨a5, rfl, h⟩ := zd_some h
    refine gf11_405 F (hy4 _ rfl) hr dX11_wrongWays_19 ?_
    refine lv_iload_n F.1 F.2.1 dX11_wrongWays_22 rfl (lv_at hl 3 rfl) ?_
    obtain ⟨c6, h⟩ := zk_some h
    refine zr_iald (k := 106) (by decide) rfl (by decide) F (zal_a F (hy4 _ rfl) (j := 10) rfl) hr dX11_wrongWays_23 c6 ?_
    refine lv_aload_n F.1 F.2.1 dX11_wrongWays_24 rfl (lv_at hl 0 rfl) ?_
    refine lv_aload_n F.1 F.2.1 dX11_wrongWays_25 rfl (lv_at hl 1 rfl) ?_
    refine lv_aload_n F.1 F.2.1 dX11_wrongWays_26 rfl (lv_at hl 0 rfl) ?_
    refine gf11_11 F hx0 hr dX11_wrongWays_27 ?_
    refine lv_iload_n F.1 F.2.1 dX11_wrongWays_30 rfl (lv_at hl 3 rfl) ?_
    obtain ⟨c7, h⟩ := zk_some h
    refine zr_aaldv (k := 139) (by decide) rfl rfl (zlen_d (by decide)) F (zal_a F hx0 (j := 0) rfl) hr dX11_wrongWays_31 c7 (fun y8 ey8 => ?_)
    replace h := zl_sub ey8 h
    have hy8 := zal_q hr (zal_a F hx0 (j := 0) rfl) rfl ey8
    clear ey8
    obtain ⟨a9, rfl, h⟩ := zd_some h
    obtain ⟨r10, z11, hc12, h⟩ := zc_some h
    refine zr_calli (zrun_V (As := [.ref (B 1 x1), .ref (B 5 a9)]) (rest := [.int (zgA z 106 a5 x3.toNatClampNeg)]) zq_289 zq_291 zs_X11_costFromAbove zq_292 zq_1 hdX11_costFromAbove (by decide) (T := TX11) (N := 21) rfl (okX11_costFromAbove l D cy B ids hst N x0 hx0 x1 hx1 a9 (hy8 _ rfl) hr.2.2 hc12) F hr hx0 hl.1 rfl (Nat.le_of_ble_eq_true rfl) dX11_wrongWays_32 rfl rfl hroX11_wrongWays_X11_costFromAbove ⟨Nat.zero_le _, Nat.zero_le _⟩) F hA hr (fun H locs hx13 hr => ?_)
    clear hc12
    refine lv_icmp_eq (tgt := 41) F.1 F.2.1 dX11_wrongWays_35 (by decide) (fun c14 => ?_) (fun c14 => ?_)
    · replace h := zi_t c14 h
      exact bX11_wrongWays_41 hst F hA E hK4 x0 x1 x2 x3 hx0 hx1 hr (lv_sub hl [0, 1, 2, 3] rfl) h
    · replace h := zi_f c14 h
      obtain ⟨v15, ev15⟩ : ∃ y : Int32, y = (x2 + 1) := ⟨_, rfl⟩
      replace h := zl_sub ev15 h
      refine lv_iinc (v := v15) (lv' := [(2, .int v15), (0, .ref (B 11 x0)), (1, .ref (B 1 x1)), (3, .int x3)]) F.1 F.2.1 dX11_wrongWays_38 hl (k := 2) rfl (by rw [ev15]; rfl) (by decide) rfl (fun ls hl => ?_)
      exact bX11_wrongWays_41 hst F hA E hK4 x0 x1 v15 x3 hx0 hx1 hr (lv_sub hl [1, 2, 0, 3] rfl) h
theorem lX11_wrongWays_4 (hst : zSt B ids) (F : zFx p m c cX11_wrongWays 4 s args RX11 D cy B ids A) (hA : ∀ q : Nat, s.heap.size ≤ q → A q) {r : Int32} {z' : St} (E : zEnd p l e rmX11_wrongWays s m args below meth c cX11_wrongWays D cy B ids A Q (some (.int r)) z' .ireturn True) {N : Nat}  : ∀ (n : Nat) (x0 : Nat) (x1 : Nat) (x2 : Int32) (x3 : Int32) (hx0 : (11, x0) ∈ ids) (hx1 : (1, x1) ∈ ids) {z : St} {H : Heap} {locs : List Loc} {ls : Array Slot} (hr : zRep D cy B ids A s.heap z H locs) (hl : lv_has ls 4 [(0, .ref (B 11 x0)), (1, .ref (B 1 x1)), (2, .int x2), (3, .int x3)]), fX11_wrongWays_4 N  n x0 x1 x2 x3 z = some (r, z') → W p l e rmX11_wrongWays s m args below meth c H locs 0 0 Q (F0 m 4 ls []) := by
  intro n
  induction n with
  | zero => intro x0 x1 x2 x3 hx0 hx1 z H locs ls hr hl h; cases h
  | succ n ih => intro x0 x1 x2 x3 hx0 hx1 z H locs ls hr hl h; exact bX11_wrongWays_4 hst F hA E ih x0 x1 x2 x3 hx0 hx1 hr hl h
def fX11_wrongWays (N : Nat)  (x0 : Nat) (x1 : Nat) (z : St) : Option (Int32 × St) := fX11_wrongWays_4 N N x0 x1 (0) (0) z
set_option maxHeartbeats 4000000 in
set_option maxRecDepth 100000 in
theorem bX11_wrongWays_0 (hst : zSt B ids) (F : zFx p m c cX11_wrongWays 4 s args RX11 D cy B ids A) (hA : ∀ q : Nat, s.heap.size ≤ q → A q) {r : Int32} {z' : St} (E : zEnd p l e rmX11_wrongWays s m args below meth c cX11_wrongWays D cy B ids A Q (some (.int r)) z' .ireturn True) {N : Nat}  (x0 : Nat) (x1 : Nat) (hx0 : (11, x0) ∈ ids) (hx1 : (1, x1) ∈ ids) {z : St} {H : Heap} {locs : List Loc} {ls : Array Slot} (hr : zRep D cy B ids A s.heap z H locs) (hl : lv_has ls 4 [(0, .ref (B 11 x0)), (1, .ref (B 1 x1))]) (h : fX11_wrongWays N x0 x1 z = some (r, z')) : W p l e rmX11_wrongWays s m args below meth c H locs 0 0 Q (F0 m 0 ls []) := by
  unfold fX11_wrongWays at h
  refine lv_iconst (v := (0)) F.1 F.2.1 dX11_wrongWays_0 (by decide) ?_
  refine lv_istore_n (lv' := [(2, .int (0)), (0, .ref (B 11 x0)), (1, .ref (B 1 x1))]) F.1 F.2.1 dX11_wrongWays_1 rfl hl (by decide) rfl (fun ls hl => ?_)
  refine lv_iconst (v := (0)) F.1 F.2.1 dX11_wrongWays_2 (by decide) ?_
  refine lv_istore_n (lv' := [(3, .int (0)), (2, .int (0)), (0, .ref (B 11 x0)), (1, .ref (B 1 x1))]) F.1 F.2.1 dX11_wrongWays_3 rfl hl (by decide) rfl (fun ls hl => ?_)
  exact lX11_wrongWays_4 hst F hA E  _ x0 x1 (0) (0) hx0 hx1 hr (lv_sub hl [2, 3, 1, 0] rfl) h
end SX11_wrongWays
set_option maxRecDepth 100000 in
theorem okX11_wrongWays (l : Launch) (D : va_G) (cy : Nat → ClassId) (B : Nat → Nat → Nat) (ids : List (Nat × Nat)) (hst : zSt B ids) (N : Nat) (x0 : Nat) (hx0 : (11, x0) ∈ ids) (x1 : Nat) (hx1 : (1, x1) ∈ ids) {z : St} {r : Int32} {z' : St} (hW : zWf ids z) (h : fX11_wrongWays N x0 x1 z = some (r, z')) : zM l yX11_wrongWays (zws yX11_wrongWays cX11_wrongWays 4 (some .int)) rmX11_wrongWays D cy B ids [.ref (B 11 x0), .ref (B 1 x1)] (some (.int r)) True z z' :=
  zM_of hst hW (by decide +kernel) (Nat.le_of_ble_eq_true rfl) (fun p e s m args below meth c A ls F hA hret hlocks hr hl => bX11_wrongWays_0 hst F hA (zEnd_i F hret hlocks) x0 x1 hx0 hx1 hr hl h)
abbrev rmX11_overdue : Room := { frames := 4, cells := 0, slots := 0, locals := 110 }
theorem hdX11_overdue : yX11_overdue.cls ≠ "java/lang/invoke/MethodHandle" ∧ yX11_overdue.cls ≠ "java/lang/invoke/VarHandle" ∧ (parseMethodDescriptor yX11_overdue.desc).map (fun d => d.parameters.length) = some 0 := by decide +kernel
theorem hroX11_overdue_X11_calmBound : rmX11_calmBound.frames + 1 ≤ rmX11_overdue.frames ∧ 8 + (3 + 11) + rmX11_calmBound.locals ≤ rmX11_overdue.locals := by decide
theorem hroX11_overdue_X11_stuckEnds : rmX11_stuckEnds.frames + 1 ≤ rmX11_overdue.frames ∧ 8 + (5 + 11) + rmX11_stuckEnds.locals ≤ rmX11_overdue.locals := by decide
theorem hroX11_overdue_X11_wrongWays : rmX11_wrongWays.frames + 1 ≤ rmX11_overdue.frames ∧ 8 + (4 + 11) + rmX11_wrongWays.locals ≤ rmX11_overdue.locals := by decide
section SX11_overdue
variable {p : Program} {l : Launch} {e : Env} {s : State} {m : MethodId} {args : Array Value} {below : List Frame} {meth : Method} {c : Code} {Q : State → Prop} {D : va_G} {cy : Nat → ClassId} {B : Nat → Nat → Nat} {ids : List (Nat × Nat)} {A : Nat → Prop}
def fX11_overdue_63 (N : Nat) (K22 : Nat → Int32 → Int32 → St → Option (Int32 × St)) (x0 : Nat) (x1 : Int32) (x2 : Int32) (z : St) : Option (Int32 × St) := zl (x2 + 1) fun v1 => K22 x0 x1 v1 z
set_option maxHeartbeats 4000000 in
set_option maxRecDepth 100000 in
theorem bX11_overdue_63 (hst : zSt B ids) (F : zFx p m c cX11_overdue 4 s args RX11 D cy B ids A) (hA : ∀ q : Nat, s.heap.size ≤ q → A q) {r : Int32} {z' : St} (E : zEnd p l e rmX11_overdue s m args below meth c cX11_overdue D cy B ids A Q (some (.int r)) z' .ireturn True) {N : Nat} {K22 : Nat → Int32 → Int32 → St → Option (Int32 × St)} (hK22 : ∀ (x0 : Nat) (x1 : Int32) (x2 : Int32) (hx0 : (11, x0) ∈ ids) {z : St} {H : Heap} {locs : List Loc} {ls : Array Slot} (hr : zRep D cy B ids A s.heap z H locs) (hl : lv_has ls 4 [(0, .ref (B 11 x0)), (1, .int x1), (2, .int x2)]), K22 x0 x1 x2 z = some (r, z') → W p l e rmX11_overdue s m args below meth c H locs 0 0 Q (F0 m 22 ls [])) (x0 : Nat) (x1 : Int32) (x2 : Int32) (hx0 : (11, x0) ∈ ids) {z : St} {H : Heap} {locs : List Loc} {ls : Array Slot} (hr : zRep D cy B ids A s.heap z H locs) (hl : lv_has ls 4 [(0, .ref (B 11 x0)), (1, .int x1), (2, .int x2)]) (h : fX11_overdue_63 N K22 x0 x1 x2 z = some (r, z')) : W p l e rmX11_overdue s m args below meth c H locs 0 0 Q (F0 m 63 ls []) := by
  unfold fX11_overdue_63 at h
  obtain ⟨v1, ev1⟩ : ∃ y : Int32, y = (x2 + 1) := ⟨_, rfl⟩
  replace h := zl_sub ev1 h
  refine lv_iinc (v := v1) (lv' := [(2, .int v1), (0, .ref (B 11 x0)), (1, .int x1)]) F.1 F.2.1 dX11_overdue_63 hl (k := 2) rfl (by rw [ev1]; rfl) (by decide) rfl (fun ls hl => ?_)
  refine lv_goto (tgt := 22) F.1 F.2.1 dX11_overdue_66 (by decide) ?_
  exact hK22 x0 x1 v1 hx0 hr (lv_sub hl [1, 2, 0] rfl) h
def fX11_overdue_22b (N : Nat) (K22 : Nat → Int32 → Int32 → St → Option (Int32 × St)) (x0 : Nat) (x1 : Int32) (x2 : Int32) (z : St) : Option (Int32 × St) := if (zgI z 11 3 x0) ≤ x2 then (some (x1, z)) else (zk x2 16 <| zl (zgQ z 140 x0 x2.toNatClampNeg) fun y3 => zd y3 fun a4 => if (zgI z 1 1 a4) = 0 then (zc (fX11_stuckEnds N x0 a4 z) fun r6 z7 => zl (x1 + r6) fun v10 => fX11_overdue_63 N K22 x0 v10 x2 z7) else (zc (fX11_wrongWays N x0 a4 z) fun r11 z12 => zl (x1 + r11) fun v15 => fX11_overdue_63 N K22 x0 v15 x2 z12))
def fX11_overdue_22 (N : Nat)  : Nat → Nat → Int32 → Int32 → St → Option (Int32 × St)
  | 0 => fun _ _ _ _ => none
  | n + 1 => fX11_overdue_22b N (fX11_overdue_22 N  n)
set_option maxHeartbeats 4000000 in
set_option maxRecDepth 100000 in
theorem bX11_overdue_22 (hst : zSt B ids) (F : zFx p m c cX11_overdue 4 s args RX11 D cy B ids A) (hA : ∀ q : Nat, s.heap.size ≤ q → A q) {r : Int32} {z' : St} (E : zEnd p l e rmX11_overdue s m args below meth c cX11_overdue D cy B ids A Q (some (.int r)) z' .ireturn True) {N : Nat} {K22 : Nat → Int32 → Int32 → St → Option (Int32 × St)} (hK22 : ∀ (x0 : Nat) (x1 : Int32) (x2 : Int32) (hx0 : (11, x0) ∈ ids) {z : St} {H : Heap} {locs : List Loc} {ls : Array Slot} (hr : zRep D cy B ids A s.heap z H locs) (hl : lv_has ls 4 [(0, .ref (B 11 x0)), (1, .int x1), (2, .int x2)]), K22 x0 x1 x2 z = some (r, z') → W p l e rmX11_overdue s m args below meth c H locs 0 0 Q (F0 m 22 ls [])) (x0 : Nat) (x1 : Int32) (x2 : Int32) (hx0 : (11, x0) ∈ ids) {z : St} {H : Heap} {locs : List Loc} {ls : Array Slot} (hr : zRep D cy B ids A s.heap z H locs) (hl : lv_has ls 4 [(0, .ref (B 11 x0)), (1, .int x1), (2, .int x2)]) (h : fX11_overdue_22b N K22 x0 x1 x2 z = some (r, z')) : W p l e rmX11_overdue s m args below meth c H locs 0 0 Q (F0 m 22 ls []) := by
  unfold fX11_overdue_22b at h
  refine lv_iload_n F.1 F.2.1 dX11_overdue_22 rfl (lv_at hl 2 rfl) ?_
  refine lv_aload_n F.1 F.2.1 dX11_overdue_23 rfl (lv_at hl 0 rfl) ?_
  refine gf11_61 F hx0 hr dX11_overdue_24 ?_
  refine lv_icmp_ge (tgt := 69) F.1 F.2.1 dX11_overdue_27 (by decide) (fun c1 => ?_) (fun c1 => ?_)
  · replace h := zi_t c1 h
    refine lv_iload_n F.1 F.2.1 dX11_overdue_69 rfl (lv_at hl 1 rfl) ?_
    obtain ⟨rfl, rfl⟩ := zret h
    exact E _ _ _ _ dX11_overdue_70 trivial hr
  · replace h := zi_f c1 h
    refine lv_aload_n F.1 F.2.1 dX11_overdue_30 rfl (lv_at hl 0 rfl) ?_
    refine gf11_17 F hx0 hr dX11_overdue_31 ?_
    refine lv_iload_n F.1 F.2.1 dX11_overdue_34 rfl (lv_at hl 2 rfl) ?_
    obtain ⟨c2, h⟩ := zk_some h
    refine zr_aaldv (k := 140) (by decide) rfl rfl (zlen_d (by decide)) F (zal_a F hx0 (j := 2) rfl) hr dX11_overdue_35 c2 (fun y3 ey3 => ?_)
    replace h := zl_sub ey3 h
    have hy3 := zal_q hr (zal_a F hx0 (j := 2) rfl) rfl ey3
    clear ey3
    refine zr_astore_n (lv' := [(3, va_rf (Option.map (B 1) y3)), (0, .ref (B 11 x0)), (1, .int x1), (2, .int x2)]) F.1 F.2.1 dX11_overdue_36 rfl hl (by decide) rfl (fun ls hl => ?_)
    refine zr_aload_n F.1 F.2.1 dX11_overdue_37 rfl (lv_at hl 0 rfl) ?_
    obtain ⟨a4, rfl, h⟩ := zd_some h
    refine gf11_109 F (hy3 _ rfl) hr dX11_overdue_38 ?_
    refine lv_if_eq (tgt := 55) F.1 F.2.1 dX11_overdue_41 (by decide) (fun c5 => ?_) (fun c5 => ?_)
    · replace h := zi_t c5 h
      refine lv_iload_n F.1 F.2.1 dX11_overdue_55 rfl (lv_at hl 2 rfl) ?_
      refine lv_aload_n F.1 F.2.1 dX11_overdue_56 rfl (lv_at hl 1 rfl) ?_
      refine lv_aload_n F.1 F.2.1 dX11_overdue_57 rfl (lv_at hl 0 rfl) ?_
      obtain ⟨r6, z7, hc8, h⟩ := zc_some h
      refine zr_calli (zrun_V (As := [.ref (B 1 a4)]) (rest := [.int x1]) zq_306 zq_308 zs_X11_stuckEnds zq_309 zq_1 hdX11_stuckEnds (by decide) (T := TX11) (N := 21) rfl (okX11_stuckEnds l D cy B ids hst N x0 hx0 a4 (hy3 _ rfl) hr.2.2 hc8) F hr hx0 hl.1 rfl (Nat.le_of_ble_eq_true rfl) dX11_overdue_58 rfl rfl hroX11_overdue_X11_stuckEnds ⟨Nat.zero_le _, Nat.zero_le _⟩) F hA hr (fun H locs hx9 hr => ?_)
      clear hc8
      refine lv_iadd F.1 F.2.1 dX11_overdue_61 ?_
      refine lv_topi (fun v10 ev10 => ?_)
      replace h := zl_sub ev10 h
      refine lv_istore_n (lv' := [(1, .int v10), (3, .ref (B 1 a4)), (0, .ref (B 11 x0)), (2, .int x2)]) F.1 F.2.1 dX11_overdue_62 rfl hl (by decide) rfl (fun ls hl => ?_)
      exact bX11_overdue_63 hst F hA E hK22 x0 v10 x2 hx0 hr (lv_sub hl [2, 0, 3] rfl) h
    · replace h := zi_f c5 h
      refine lv_iload_n F.1 F.2.1 dX11_overdue_44 rfl (lv_at hl 2 rfl) ?_
      refine lv_aload_n F.1 F.2.1 dX11_overdue_45 rfl (lv_at hl 1 rfl) ?_
      refine lv_aload_n F.1 F.2.1 dX11_overdue_46 rfl (lv_at hl 0 rfl) ?_
      obtain ⟨r11, z12, hc13, h⟩ := zc_some h
      refine zr_calli (zrun_V (As := [.ref (B 1 a4)]) (rest := [.int x1]) zq_285 zq_287 zs_X11_wrongWays zq_288 zq_1 hdX11_wrongWays (by decide) (T := TX11) (N := 21) rfl (okX11_wrongWays l D cy B ids hst N x0 hx0 a4 (hy3 _ rfl) hr.2.2 hc13) F hr hx0 hl.1 rfl (Nat.le_of_ble_eq_true rfl) dX11_overdue_47 rfl rfl hroX11_overdue_X11_wrongWays ⟨Nat.zero_le _, Nat.zero_le _⟩) F hA hr (fun H locs hx14 hr => ?_)
      clear hc13
      refine lv_iadd F.1 F.2.1 dX11_overdue_50 ?_
      refine lv_topi (fun v15 ev15 => ?_)
      replace h := zl_sub ev15 h
      refine lv_istore_n (lv' := [(1, .int v15), (3, .ref (B 1 a4)), (0, .ref (B 11 x0)), (2, .int x2)]) F.1 F.2.1 dX11_overdue_51 rfl hl (by decide) rfl (fun ls hl => ?_)
      refine lv_goto (tgt := 63) F.1 F.2.1 dX11_overdue_52 (by decide) ?_
      exact bX11_overdue_63 hst F hA E hK22 x0 v15 x2 hx0 hr (lv_sub hl [2, 0, 3] rfl) h
theorem lX11_overdue_22 (hst : zSt B ids) (F : zFx p m c cX11_overdue 4 s args RX11 D cy B ids A) (hA : ∀ q : Nat, s.heap.size ≤ q → A q) {r : Int32} {z' : St} (E : zEnd p l e rmX11_overdue s m args below meth c cX11_overdue D cy B ids A Q (some (.int r)) z' .ireturn True) {N : Nat}  : ∀ (n : Nat) (x0 : Nat) (x1 : Int32) (x2 : Int32) (hx0 : (11, x0) ∈ ids) {z : St} {H : Heap} {locs : List Loc} {ls : Array Slot} (hr : zRep D cy B ids A s.heap z H locs) (hl : lv_has ls 4 [(0, .ref (B 11 x0)), (1, .int x1), (2, .int x2)]), fX11_overdue_22 N  n x0 x1 x2 z = some (r, z') → W p l e rmX11_overdue s m args below meth c H locs 0 0 Q (F0 m 22 ls []) := by
  intro n
  induction n with
  | zero => intro x0 x1 x2 hx0 z H locs ls hr hl h; cases h
  | succ n ih => intro x0 x1 x2 hx0 z H locs ls hr hl h; exact bX11_overdue_22 hst F hA E ih x0 x1 x2 hx0 hr hl h
def fX11_overdue (N : Nat)  (x0 : Nat) (z : St) : Option (Int32 × St) := zc (fX11_calmBound N x0 z) fun r1 z2 => if r1 ≤ ((zgI z 11 4 x0) - (zgI z 11 5 x0)) then (fX11_overdue_22 N N x0 (0) (0) z2) else (some ((0), z2))
set_option maxHeartbeats 4000000 in
set_option maxRecDepth 100000 in
theorem bX11_overdue_0 (hst : zSt B ids) (F : zFx p m c cX11_overdue 4 s args RX11 D cy B ids A) (hA : ∀ q : Nat, s.heap.size ≤ q → A q) {r : Int32} {z' : St} (E : zEnd p l e rmX11_overdue s m args below meth c cX11_overdue D cy B ids A Q (some (.int r)) z' .ireturn True) {N : Nat}  (x0 : Nat) (hx0 : (11, x0) ∈ ids) {z : St} {H : Heap} {locs : List Loc} {ls : Array Slot} (hr : zRep D cy B ids A s.heap z H locs) (hl : lv_has ls 4 [(0, .ref (B 11 x0))]) (h : fX11_overdue N x0 z = some (r, z')) : W p l e rmX11_overdue s m args below meth c H locs 0 0 Q (F0 m 0 ls []) := by
  unfold fX11_overdue at h
  refine lv_aload_n F.1 F.2.1 dX11_overdue_0 rfl (lv_at hl 0 rfl) ?_
  refine gf11_176 F hx0 hr dX11_overdue_1 ?_
  refine lv_aload_n F.1 F.2.1 dX11_overdue_4 rfl (lv_at hl 0 rfl) ?_
  refine gf11_455 F hx0 hr dX11_overdue_5 ?_
  refine lv_isub F.1 F.2.1 dX11_overdue_8 ?_
  refine lv_aload_n F.1 F.2.1 dX11_overdue_9 rfl (lv_at hl 0 rfl) ?_
  obtain ⟨r1, z2, hc3, h⟩ := zc_some h
  refine zr_calli (zrun_V (As := []) (rest := [.int ((zgI z 11 4 x0) - (zgI z 11 5 x0))]) zq_270 zq_272 zs_X11_calmBound zq_273 zq_1 hdX11_calmBound (by decide) (T := TX11) (N := 21) rfl (okX11_calmBound l D cy B ids hst N x0 hx0 hr.2.2 hc3) F hr hx0 hl.1 rfl (Nat.le_of_ble_eq_true rfl) dX11_overdue_10 rfl rfl hroX11_overdue_X11_calmBound ⟨Nat.zero_le _, Nat.zero_le _⟩) F hA hr (fun H locs hx4 hr => ?_)
  clear hc3
  refine lv_icmp_ge (tgt := 18) F.1 F.2.1 dX11_overdue_13 (by decide) (fun c5 => ?_) (fun c5 => ?_)
  · replace h := zi_t c5 h
    refine lv_iconst (v := (0)) F.1 F.2.1 dX11_overdue_18 (by decide) ?_
    refine lv_istore_n (lv' := [(1, .int (0)), (0, .ref (B 11 x0))]) F.1 F.2.1 dX11_overdue_19 rfl hl (by decide) rfl (fun ls hl => ?_)
    refine lv_iconst (v := (0)) F.1 F.2.1 dX11_overdue_20 (by decide) ?_
    refine lv_istore_n (lv' := [(2, .int (0)), (1, .int (0)), (0, .ref (B 11 x0))]) F.1 F.2.1 dX11_overdue_21 rfl hl (by decide) rfl (fun ls hl => ?_)
    exact lX11_overdue_22 hst F hA E  _ x0 (0) (0) hx0 hr (lv_sub hl [2, 1, 0] rfl) h
  · replace h := zi_f c5 h
    refine lv_iconst (v := (0)) F.1 F.2.1 dX11_overdue_16 (by decide) ?_
    obtain ⟨rfl, rfl⟩ := zret h
    exact E _ _ _ _ dX11_overdue_17 trivial hr
end SX11_overdue
set_option maxRecDepth 100000 in
theorem okX11_overdue (l : Launch) (D : va_G) (cy : Nat → ClassId) (B : Nat → Nat → Nat) (ids : List (Nat × Nat)) (hst : zSt B ids) (N : Nat) (x0 : Nat) (hx0 : (11, x0) ∈ ids) {z : St} {r : Int32} {z' : St} (hW : zWf ids z) (h : fX11_overdue N x0 z = some (r, z')) : zM l yX11_overdue (zws yX11_overdue cX11_overdue 4 (some .int)) rmX11_overdue D cy B ids [.ref (B 11 x0)] (some (.int r)) True z z' :=
  zM_of hst hW (by decide +kernel) (Nat.le_of_ble_eq_true rfl) (fun p e s m args below meth c A ls F hA hret hlocks hr hl => bX11_overdue_0 hst F hA (zEnd_i F hret hlocks) x0 hx0 hr hl h)
abbrev rmX11_boxOf : Room := { frames := 0, cells := 0, slots := 0, locals := 0 }
theorem hdX11_boxOf : yX11_boxOf.cls ≠ "java/lang/invoke/MethodHandle" ∧ yX11_boxOf.cls ≠ "java/lang/invoke/VarHandle" ∧ (parseMethodDescriptor yX11_boxOf.desc).map (fun d => d.parameters.length) = some 1 := by decide +kernel
section SX11_boxOf
variable {p : Program} {l : Launch} {e : Env} {s : State} {m : MethodId} {args : Array Value} {below : List Frame} {meth : Method} {c : Code} {Q : State → Prop} {D : va_G} {cy : Nat → ClassId} {B : Nat → Nat → Nat} {ids : List (Nat × Nat)} {A : Nat → Prop}
def fX11_boxOf (N : Nat)  (x0 : Nat) (x1 : Int32) (z : St) : Option (Option Nat × St) := if x1 < 0 then (some (none, z)) else (if (zgI z 11 3 x0) ≤ x1 then (some (none, z)) else (zk x1 16 <| zl (zgQ z 140 x0 x1.toNatClampNeg) fun y4 => some (y4, z)))
set_option maxHeartbeats 4000000 in
set_option maxRecDepth 100000 in
theorem bX11_boxOf_0 (hst : zSt B ids) (F : zFx p m c cX11_boxOf 2 s args RX11 D cy B ids A) (hA : ∀ q : Nat, s.heap.size ≤ q → A q) {r : Option Nat} {z' : St} (E : zEnd p l e rmX11_boxOf s m args below meth c cX11_boxOf D cy B ids A Q (some (va_rf (r.map (B 1)))) z' .areturn (∀ i, r = some i → (1, i) ∈ ids)) {N : Nat}  (x0 : Nat) (x1 : Int32) (hx0 : (11, x0) ∈ ids) {z : St} {H : Heap} {locs : List Loc} {ls : Array Slot} (hr : zRep D cy B ids A s.heap z H locs) (hl : lv_has ls 2 [(0, .ref (B 11 x0)), (1, .int x1)]) (h : fX11_boxOf N x0 x1 z = some (r, z')) : W p l e rmX11_boxOf s m args below meth c H locs 0 0 Q (F0 m 0 ls []) := by
  unfold fX11_boxOf at h
  refine lv_iload_n F.1 F.2.1 dX11_boxOf_0 rfl (lv_at hl 1 rfl) ?_
  refine lv_if_lt (tgt := 21) F.1 F.2.1 dX11_boxOf_1 (by decide) (fun c1 => ?_) (fun c1 => ?_)
  · replace h := zi_t c1 h
    refine lv_null F.1 F.2.1 dX11_boxOf_21 ?_
    obtain ⟨rfl, rfl⟩ := zret h
    exact E _ _ _ _ dX11_boxOf_22 zal_0 hr
  · replace h := zi_f c1 h
    refine lv_iload_n F.1 F.2.1 dX11_boxOf_4 rfl (lv_at hl 1 rfl) ?_
    refine lv_aload_n F.1 F.2.1 dX11_boxOf_5 rfl (lv_at hl 0 rfl) ?_
    refine gf11_61 F hx0 hr dX11_boxOf_6 ?_
    refine lv_icmp_ge (tgt := 21) F.1 F.2.1 dX11_boxOf_9 (by decide) (fun c2 => ?_) (fun c2 => ?_)
    · replace h := zi_t c2 h
      refine lv_null F.1 F.2.1 dX11_boxOf_21 ?_
      obtain ⟨rfl, rfl⟩ := zret h
      exact E _ _ _ _ dX11_boxOf_22 zal_0 hr
    · replace h := zi_f c2 h
      refine lv_aload_n F.1 F.2.1 dX11_boxOf_12 rfl (lv_at hl 0 rfl) ?_
      refine gf11_17 F hx0 hr dX11_boxOf_13 ?_
      refine lv_iload_n F.1 F.2.1 dX11_boxOf_16 rfl (lv_at hl 1 rfl) ?_
      obtain ⟨c3, h⟩ := zk_some h
      refine zr_aaldv (k := 140) (by decide) rfl rfl (zlen_d (by decide)) F (zal_a F hx0 (j := 2) rfl) hr dX11_boxOf_17 c3 (fun y4 ey4 => ?_)
      replace h := zl_sub ey4 h
      have hy4 := zal_q hr (zal_a F hx0 (j := 2) rfl) rfl ey4
      clear ey4
      refine lv_goto (tgt := 22) F.1 F.2.1 dX11_boxOf_18 (by decide) ?_
      obtain ⟨rfl, rfl⟩ := zret h
      exact E _ _ _ _ dX11_boxOf_22 hy4 hr
end SX11_boxOf
set_option maxRecDepth 100000 in
theorem okX11_boxOf (l : Launch) (D : va_G) (cy : Nat → ClassId) (B : Nat → Nat → Nat) (ids : List (Nat × Nat)) (hst : zSt B ids) (N : Nat) (x0 : Nat) (hx0 : (11, x0) ∈ ids) (x1 : Int32) {z : St} {r : Option Nat} {z' : St} (hW : zWf ids z) (h : fX11_boxOf N x0 x1 z = some (r, z')) : zM l yX11_boxOf (zws yX11_boxOf cX11_boxOf 2 (some (.object "WholeInternet$Box"))) rmX11_boxOf D cy B ids [.ref (B 11 x0), .int x1] (some (va_rf (r.map (B 1)))) (∀ i, r = some i → (1, i) ∈ ids) z z' :=
  zM_of hst hW (by decide +kernel) (Nat.le_of_ble_eq_true rfl) (fun p e s m args below meth c A ls F hA hret hlocks hr hl => bX11_boxOf_0 hst F hA (zEnd_r F hret hlocks) x0 x1 hx0 hr hl h)
abbrev rmX11_hostOf : Room := { frames := 1, cells := 0, slots := 0, locals := 21 }
theorem hdX11_hostOf : yX11_hostOf.cls ≠ "java/lang/invoke/MethodHandle" ∧ yX11_hostOf.cls ≠ "java/lang/invoke/VarHandle" ∧ (parseMethodDescriptor yX11_hostOf.desc).map (fun d => d.parameters.length) = some 1 := by decide +kernel
theorem hroX11_hostOf_X11_boxOf : rmX11_boxOf.frames + 1 ≤ rmX11_hostOf.frames ∧ 8 + (2 + 11) + rmX11_boxOf.locals ≤ rmX11_hostOf.locals := by decide
section SX11_hostOf
variable {p : Program} {l : Launch} {e : Env} {s : State} {m : MethodId} {args : Array Value} {below : List Frame} {meth : Method} {c : Code} {Q : State → Prop} {D : va_G} {cy : Nat → ClassId} {B : Nat → Nat → Nat} {ids : List (Nat × Nat)} {A : Nat → Prop}
def fX11_hostOf_17 (N : Nat)   (z : St) : Option (Option Nat × St) := some (none, z)
set_option maxHeartbeats 4000000 in
set_option maxRecDepth 100000 in
theorem bX11_hostOf_17 (hst : zSt B ids) (F : zFx p m c cX11_hostOf 3 s args RX11 D cy B ids A) (hA : ∀ q : Nat, s.heap.size ≤ q → A q) {r : Option Nat} {z' : St} (E : zEnd p l e rmX11_hostOf s m args below meth c cX11_hostOf D cy B ids A Q (some (va_rf (r.map (B 1)))) z' .areturn (∀ i, r = some i → (1, i) ∈ ids)) {N : Nat}    {z : St} {H : Heap} {locs : List Loc} {ls : Array Slot} (hr : zRep D cy B ids A s.heap z H locs) (hl : lv_has ls 3 []) (h : fX11_hostOf_17 N z = some (r, z')) : W p l e rmX11_hostOf s m args below meth c H locs 0 0 Q (F0 m 17 ls []) := by
  unfold fX11_hostOf_17 at h
  refine lv_null F.1 F.2.1 dX11_hostOf_17 ?_
  refine lv_goto (tgt := 22) F.1 F.2.1 dX11_hostOf_18 (by decide) ?_
  obtain ⟨rfl, rfl⟩ := zret h
  exact E _ _ _ _ dX11_hostOf_22 zal_0 hr
def fX11_hostOf (N : Nat)  (x0 : Nat) (x1 : Int32) (z : St) : Option (Option Nat × St) := zc (fX11_boxOf N x0 x1 z) fun r1 z2 => zo r1 (fX11_hostOf_17 N z2) fun a6 => if (zgI z2 1 1 a6) = 0 then (some ((some a6), z2)) else (fX11_hostOf_17 N z2)
set_option maxHeartbeats 4000000 in
set_option maxRecDepth 100000 in
theorem bX11_hostOf_0 (hst : zSt B ids) (F : zFx p m c cX11_hostOf 3 s args RX11 D cy B ids A) (hA : ∀ q : Nat, s.heap.size ≤ q → A q) {r : Option Nat} {z' : St} (E : zEnd p l e rmX11_hostOf s m args below meth c cX11_hostOf D cy B ids A Q (some (va_rf (r.map (B 1)))) z' .areturn (∀ i, r = some i → (1, i) ∈ ids)) {N : Nat}  (x0 : Nat) (x1 : Int32) (hx0 : (11, x0) ∈ ids) {z : St} {H : Heap} {locs : List Loc} {ls : Array Slot} (hr : zRep D cy B ids A s.heap z H locs) (hl : lv_has ls 3 [(0, .ref (B 11 x0)), (1, .int x1)]) (h : fX11_hostOf N x0 x1 z = some (r, z')) : W p l e rmX11_hostOf s m args below meth c H locs 0 0 Q (F0 m 0 ls []) := by
  unfold fX11_hostOf at h
  refine lv_aload_n F.1 F.2.1 dX11_hostOf_0 rfl (lv_at hl 0 rfl) ?_
  refine lv_iload_n F.1 F.2.1 dX11_hostOf_1 rfl (lv_at hl 1 rfl) ?_
  obtain ⟨r1, z2, hc3, h⟩ := zc_some h
  refine zr_callr (zrun_V (As := [.int x1]) (rest := []) zq_899 zq_901 zs_X11_boxOf zq_902 zq_1 hdX11_boxOf (by decide) (T := TX11) (N := 21) rfl (okX11_boxOf l D cy B ids hst N x0 hx0 x1  hr.2.2 hc3) F hr hx0 hl.1 rfl (by decide) dX11_hostOf_2 rfl rfl hroX11_hostOf_X11_boxOf ⟨Nat.zero_le _, Nat.zero_le _⟩) F hA hr (fun H locs hx4 hr => ?_)
  clear hc3
  refine zr_astore_n (lv' := [(2, va_rf (Option.map (B 1) r1)), (0, .ref (B 11 x0)), (1, .int x1)]) F.1 F.2.1 dX11_hostOf_5 rfl hl (by decide) rfl (fun ls hl => ?_)
  refine zr_aload_n F.1 F.2.1 dX11_hostOf_6 rfl (lv_at hl 0 rfl) ?_
  refine zr_ifnull (tgt := 17) F.1 F.2.1 dX11_hostOf_7 (by decide) (fun e5 => ?_) (fun a6 e5 => ?_)
  · replace h := zo_n e5 h
    subst e5
    exact bX11_hostOf_17 hst F hA E   hr (lv_sub hl [] rfl) h
  · replace h := zo_s e5 h
    subst e5
    refine lv_aload_n F.1 F.2.1 dX11_hostOf_10 rfl (lv_at hl 0 rfl) ?_
    refine gf11_109 F (hx4 _ rfl) hr dX11_hostOf_11 ?_
    refine lv_if_eq (tgt := 21) F.1 F.2.1 dX11_hostOf_14 (by decide) (fun c7 => ?_) (fun c7 => ?_)
    · replace h := zi_t c7 h
      refine lv_aload_n F.1 F.2.1 dX11_hostOf_21 rfl (lv_at hl 0 rfl) ?_
      obtain ⟨rfl, rfl⟩ := zret h
      exact E _ _ _ _ dX11_hostOf_22 (zal_s (hx4 _ rfl)) hr
    · replace h := zi_f c7 h
      exact bX11_hostOf_17 hst F hA E   hr (lv_sub hl [] rfl) h
end SX11_hostOf
set_option maxRecDepth 100000 in
theorem okX11_hostOf (l : Launch) (D : va_G) (cy : Nat → ClassId) (B : Nat → Nat → Nat) (ids : List (Nat × Nat)) (hst : zSt B ids) (N : Nat) (x0 : Nat) (hx0 : (11, x0) ∈ ids) (x1 : Int32) {z : St} {r : Option Nat} {z' : St} (hW : zWf ids z) (h : fX11_hostOf N x0 x1 z = some (r, z')) : zM l yX11_hostOf (zws yX11_hostOf cX11_hostOf 3 (some (.object "WholeInternet$Box"))) rmX11_hostOf D cy B ids [.ref (B 11 x0), .int x1] (some (va_rf (r.map (B 1)))) (∀ i, r = some i → (1, i) ∈ ids) z z' :=
  zM_of hst hW (by decide +kernel) (Nat.le_of_ble_eq_true rfl) (fun p e s m args below meth c A ls F hA hret hlocks hr hl => bX11_hostOf_0 hst F hA (zEnd_r F hret hlocks) x0 x1 hx0 hr hl h)
abbrev rmX11_routerOf : Room := { frames := 1, cells := 0, slots := 0, locals := 21 }
theorem hdX11_routerOf : yX11_routerOf.cls ≠ "java/lang/invoke/MethodHandle" ∧ yX11_routerOf.cls ≠ "java/lang/invoke/VarHandle" ∧ (parseMethodDescriptor yX11_routerOf.desc).map (fun d => d.parameters.length) = some 1 := by decide +kernel
theorem hroX11_routerOf_X11_boxOf : rmX11_boxOf.frames + 1 ≤ rmX11_routerOf.frames ∧ 8 + (2 + 11) + rmX11_boxOf.locals ≤ rmX11_routerOf.locals := by decide
section SX11_routerOf
variable {p : Program} {l : Launch} {e : Env} {s : State} {m : MethodId} {args : Array Value} {below : List Frame} {meth : Method} {c : Code} {Q : State → Prop} {D : va_G} {cy : Nat → ClassId} {B : Nat → Nat → Nat} {ids : List (Nat × Nat)} {A : Nat → Prop}
def fX11_routerOf_17 (N : Nat)   (z : St) : Option (Option Nat × St) := some (none, z)
set_option maxHeartbeats 4000000 in
set_option maxRecDepth 100000 in
theorem bX11_routerOf_17 (hst : zSt B ids) (F : zFx p m c cX11_routerOf 3 s args RX11 D cy B ids A) (hA : ∀ q : Nat, s.heap.size ≤ q → A q) {r : Option Nat} {z' : St} (E : zEnd p l e rmX11_routerOf s m args below meth c cX11_routerOf D cy B ids A Q (some (va_rf (r.map (B 1)))) z' .areturn (∀ i, r = some i → (1, i) ∈ ids)) {N : Nat}    {z : St} {H : Heap} {locs : List Loc} {ls : Array Slot} (hr : zRep D cy B ids A s.heap z H locs) (hl : lv_has ls 3 []) (h : fX11_routerOf_17 N z = some (r, z')) : W p l e rmX11_routerOf s m args below meth c H locs 0 0 Q (F0 m 17 ls []) := by
  unfold fX11_routerOf_17 at h
  refine lv_null F.1 F.2.1 dX11_routerOf_17 ?_
  refine lv_goto (tgt := 22) F.1 F.2.1 dX11_routerOf_18 (by decide) ?_
  obtain ⟨rfl, rfl⟩ := zret h
  exact E _ _ _ _ dX11_routerOf_22 zal_0 hr
def fX11_routerOf (N : Nat)  (x0 : Nat) (x1 : Int32) (z : St) : Option (Option Nat × St) := zc (fX11_boxOf N x0 x1 z) fun r1 z2 => zo r1 (fX11_routerOf_17 N z2) fun a6 => if ¬ (zgI z2 1 1 a6) = 0 then (some ((some a6), z2)) else (fX11_routerOf_17 N z2)
set_option maxHeartbeats 4000000 in
set_option maxRecDepth 100000 in
theorem bX11_routerOf_0 (hst : zSt B ids) (F : zFx p m c cX11_routerOf 3 s args RX11 D cy B ids A) (hA : ∀ q : Nat, s.heap.size ≤ q → A q) {r : Option Nat} {z' : St} (E : zEnd p l e rmX11_routerOf s m args below meth c cX11_routerOf D cy B ids A Q (some (va_rf (r.map (B 1)))) z' .areturn (∀ i, r = some i → (1, i) ∈ ids)) {N : Nat}  (x0 : Nat) (x1 : Int32) (hx0 : (11, x0) ∈ ids) {z : St} {H : Heap} {locs : List Loc} {ls : Array Slot} (hr : zRep D cy B ids A s.heap z H locs) (hl : lv_has ls 3 [(0, .ref (B 11 x0)), (1, .int x1)]) (h : fX11_routerOf N x0 x1 z = some (r, z')) : W p l e rmX11_routerOf s m args below meth c H locs 0 0 Q (F0 m 0 ls []) := by
  unfold fX11_routerOf at h
  refine lv_aload_n F.1 F.2.1 dX11_routerOf_0 rfl (lv_at hl 0 rfl) ?_
  refine lv_iload_n F.1 F.2.1 dX11_routerOf_1 rfl (lv_at hl 1 rfl) ?_
  obtain ⟨r1, z2, hc3, h⟩ := zc_some h
  refine zr_callr (zrun_V (As := [.int x1]) (rest := []) zq_899 zq_901 zs_X11_boxOf zq_902 zq_1 hdX11_boxOf (by decide) (T := TX11) (N := 21) rfl (okX11_boxOf l D cy B ids hst N x0 hx0 x1  hr.2.2 hc3) F hr hx0 hl.1 rfl (by decide) dX11_routerOf_2 rfl rfl hroX11_routerOf_X11_boxOf ⟨Nat.zero_le _, Nat.zero_le _⟩) F hA hr (fun H locs hx4 hr => ?_)
  clear hc3
  refine zr_astore_n (lv' := [(2, va_rf (Option.map (B 1) r1)), (0, .ref (B 11 x0)), (1, .int x1)]) F.1 F.2.1 dX11_routerOf_5 rfl hl (by decide) rfl (fun ls hl => ?_)
  refine zr_aload_n F.1 F.2.1 dX11_routerOf_6 rfl (lv_at hl 0 rfl) ?_
  refine zr_ifnull (tgt := 17) F.1 F.2.1 dX11_routerOf_7 (by decide) (fun e5 => ?_) (fun a6 e5 => ?_)
  · replace h := zo_n e5 h
    subst e5
    exact bX11_routerOf_17 hst F hA E   hr (lv_sub hl [] rfl) h
  · replace h := zo_s e5 h
    subst e5
    refine lv_aload_n F.1 F.2.1 dX11_routerOf_10 rfl (lv_at hl 0 rfl) ?_
    refine gf11_109 F (hx4 _ rfl) hr dX11_routerOf_11 ?_
    refine lv_if_ne (tgt := 21) F.1 F.2.1 dX11_routerOf_14 (by decide) (fun c7 => ?_) (fun c7 => ?_)
    · replace h := zi_t c7 h
      refine lv_aload_n F.1 F.2.1 dX11_routerOf_21 rfl (lv_at hl 0 rfl) ?_
      obtain ⟨rfl, rfl⟩ := zret h
      exact E _ _ _ _ dX11_routerOf_22 (zal_s (hx4 _ rfl)) hr
    · replace h := zi_f (fun q => q c7) h
      exact bX11_routerOf_17 hst F hA E   hr (lv_sub hl [] rfl) h
end SX11_routerOf
set_option maxRecDepth 100000 in
theorem okX11_routerOf (l : Launch) (D : va_G) (cy : Nat → ClassId) (B : Nat → Nat → Nat) (ids : List (Nat × Nat)) (hst : zSt B ids) (N : Nat) (x0 : Nat) (hx0 : (11, x0) ∈ ids) (x1 : Int32) {z : St} {r : Option Nat} {z' : St} (hW : zWf ids z) (h : fX11_routerOf N x0 x1 z = some (r, z')) : zM l yX11_routerOf (zws yX11_routerOf cX11_routerOf 3 (some (.object "WholeInternet$Box"))) rmX11_routerOf D cy B ids [.ref (B 11 x0), .int x1] (some (va_rf (r.map (B 1)))) (∀ i, r = some i → (1, i) ∈ ids) z z' :=
  zM_of hst hW (by decide +kernel) (Nat.le_of_ble_eq_true rfl) (fun p e s m args below meth c A ls F hA hret hlocks hr hl => bX11_routerOf_0 hst F hA (zEnd_r F hret hlocks) x0 x1 hx0 hr hl h)
abbrev rmX11_netOf : Room := { frames := 0, cells := 0, slots := 0, locals := 0 }
theorem hdX11_netOf : yX11_netOf.cls ≠ "java/lang/invoke/MethodHandle" ∧ yX11_netOf.cls ≠ "java/lang/invoke/VarHandle" ∧ (parseMethodDescriptor yX11_netOf.desc).map (fun d => d.parameters.length) = some 1 := by decide +kernel
section SX11_netOf
variable {p : Program} {l : Launch} {e : Env} {s : State} {m : MethodId} {args : Array Value} {below : List Frame} {meth : Method} {c : Code} {Q : State → Prop} {D : va_G} {cy : Nat → ClassId} {B : Nat → Nat → Nat} {ids : List (Nat × Nat)} {A : Nat → Prop}
def fX11_netOf (N : Nat)  (x0 : Nat) (x1 : Int32) (z : St) : Option (Option Nat × St) := if x1 < 0 then (some (none, z)) else (if (zgI z 11 1 x0) ≤ x1 then (some (none, z)) else (zk x1 24 <| zl (zgQ z 139 x0 x1.toNatClampNeg) fun y4 => some (y4, z)))
set_option maxHeartbeats 4000000 in
set_option maxRecDepth 100000 in
theorem bX11_netOf_0 (hst : zSt B ids) (F : zFx p m c cX11_netOf 2 s args RX11 D cy B ids A) (hA : ∀ q : Nat, s.heap.size ≤ q → A q) {r : Option Nat} {z' : St} (E : zEnd p l e rmX11_netOf s m args below meth c cX11_netOf D cy B ids A Q (some (va_rf (r.map (B 5)))) z' .areturn (∀ i, r = some i → (5, i) ∈ ids)) {N : Nat}  (x0 : Nat) (x1 : Int32) (hx0 : (11, x0) ∈ ids) {z : St} {H : Heap} {locs : List Loc} {ls : Array Slot} (hr : zRep D cy B ids A s.heap z H locs) (hl : lv_has ls 2 [(0, .ref (B 11 x0)), (1, .int x1)]) (h : fX11_netOf N x0 x1 z = some (r, z')) : W p l e rmX11_netOf s m args below meth c H locs 0 0 Q (F0 m 0 ls []) := by
  unfold fX11_netOf at h
  refine lv_iload_n F.1 F.2.1 dX11_netOf_0 rfl (lv_at hl 1 rfl) ?_
  refine lv_if_lt (tgt := 21) F.1 F.2.1 dX11_netOf_1 (by decide) (fun c1 => ?_) (fun c1 => ?_)
  · replace h := zi_t c1 h
    refine lv_null F.1 F.2.1 dX11_netOf_21 ?_
    obtain ⟨rfl, rfl⟩ := zret h
    exact E _ _ _ _ dX11_netOf_22 zal_0 hr
  · replace h := zi_f c1 h
    refine lv_iload_n F.1 F.2.1 dX11_netOf_4 rfl (lv_at hl 1 rfl) ?_
    refine lv_aload_n F.1 F.2.1 dX11_netOf_5 rfl (lv_at hl 0 rfl) ?_
    refine gf11_85 F hx0 hr dX11_netOf_6 ?_
    refine lv_icmp_ge (tgt := 21) F.1 F.2.1 dX11_netOf_9 (by decide) (fun c2 => ?_) (fun c2 => ?_)
    · replace h := zi_t c2 h
      refine lv_null F.1 F.2.1 dX11_netOf_21 ?_
      obtain ⟨rfl, rfl⟩ := zret h
      exact E _ _ _ _ dX11_netOf_22 zal_0 hr
    · replace h := zi_f c2 h
      refine lv_aload_n F.1 F.2.1 dX11_netOf_12 rfl (lv_at hl 0 rfl) ?_
      refine gf11_11 F hx0 hr dX11_netOf_13 ?_
      refine lv_iload_n F.1 F.2.1 dX11_netOf_16 rfl (lv_at hl 1 rfl) ?_
      obtain ⟨c3, h⟩ := zk_some h
      refine zr_aaldv (k := 139) (by decide) rfl rfl (zlen_d (by decide)) F (zal_a F hx0 (j := 0) rfl) hr dX11_netOf_17 c3 (fun y4 ey4 => ?_)
      replace h := zl_sub ey4 h
      have hy4 := zal_q hr (zal_a F hx0 (j := 0) rfl) rfl ey4
      clear ey4
      refine lv_goto (tgt := 22) F.1 F.2.1 dX11_netOf_18 (by decide) ?_
      obtain ⟨rfl, rfl⟩ := zret h
      exact E _ _ _ _ dX11_netOf_22 hy4 hr
end SX11_netOf
set_option maxRecDepth 100000 in
theorem okX11_netOf (l : Launch) (D : va_G) (cy : Nat → ClassId) (B : Nat → Nat → Nat) (ids : List (Nat × Nat)) (hst : zSt B ids) (N : Nat) (x0 : Nat) (hx0 : (11, x0) ∈ ids) (x1 : Int32) {z : St} {r : Option Nat} {z' : St} (hW : zWf ids z) (h : fX11_netOf N x0 x1 z = some (r, z')) : zM l yX11_netOf (zws yX11_netOf cX11_netOf 2 (some (.object "WholeInternet$Net"))) rmX11_netOf D cy B ids [.ref (B 11 x0), .int x1] (some (va_rf (r.map (B 5)))) (∀ i, r = some i → (5, i) ∈ ids) z z' :=
  zM_of hst hW (by decide +kernel) (Nat.le_of_ble_eq_true rfl) (fun p e s m args below meth c A ls F hA hret hlocks hr hl => bX11_netOf_0 hst F hA (zEnd_r F hret hlocks) x0 x1 hx0 hr hl h)
abbrev rmX11_doorOf : Room := { frames := 2, cells := 0, slots := 0, locals := 43 }
theorem hdX11_doorOf : yX11_doorOf.cls ≠ "java/lang/invoke/MethodHandle" ∧ yX11_doorOf.cls ≠ "java/lang/invoke/VarHandle" ∧ (parseMethodDescriptor yX11_doorOf.desc).map (fun d => d.parameters.length) = some 2 := by decide +kernel
theorem hroX11_doorOf_X11_hostOf : rmX11_hostOf.frames + 1 ≤ rmX11_doorOf.frames ∧ 8 + (3 + 11) + rmX11_hostOf.locals ≤ rmX11_doorOf.locals := by decide
section SX11_doorOf
variable {p : Program} {l : Launch} {e : Env} {s : State} {m : MethodId} {args : Array Value} {below : List Frame} {meth : Method} {c : Code} {Q : State → Prop} {D : va_G} {cy : Nat → ClassId} {B : Nat → Nat → Nat} {ids : List (Nat × Nat)} {A : Nat → Prop}
def fX11_doorOf_20 (N : Nat)   (z : St) : Option (Option Nat × St) := some (none, z)
set_option maxHeartbeats 4000000 in
set_option maxRecDepth 100000 in
theorem bX11_doorOf_20 (hst : zSt B ids) (F : zFx p m c cX11_doorOf 4 s args RX11 D cy B ids A) (hA : ∀ q : Nat, s.heap.size ≤ q → A q) {r : Option Nat} {z' : St} (E : zEnd p l e rmX11_doorOf s m args below meth c cX11_doorOf D cy B ids A Q (some (va_rf (r.map (B 2)))) z' .areturn (∀ i, r = some i → (2, i) ∈ ids)) {N : Nat}    {z : St} {H : Heap} {locs : List Loc} {ls : Array Slot} (hr : zRep D cy B ids A s.heap z H locs) (hl : lv_has ls 4 []) (h : fX11_doorOf_20 N z = some (r, z')) : W p l e rmX11_doorOf s m args below meth c H locs 0 0 Q (F0 m 20 ls []) := by
  unfold fX11_doorOf_20 at h
  refine lv_null F.1 F.2.1 dX11_doorOf_20 ?_
  refine lv_goto (tgt := 30) F.1 F.2.1 dX11_doorOf_21 (by decide) ?_
  obtain ⟨rfl, rfl⟩ := zret h
  exact E _ _ _ _ dX11_doorOf_30 zal_0 hr
def fX11_doorOf (N : Nat)  (x0 : Nat) (x1 : Int32) (x2 : Int32) (z : St) : Option (Option Nat × St) := zc (fX11_hostOf N x0 x1 z) fun r1 z2 => zo r1 (fX11_doorOf_20 N z2) fun a6 => if x2 < 0 then (fX11_doorOf_20 N z2) else (if x2 < (6) then (zk x2 (zlen z2 119 a6) <| zl (zgQ z2 119 a6 x2.toNatClampNeg) fun y10 => some (y10, z2)) else (fX11_doorOf_20 N z2))
set_option maxHeartbeats 4000000 in
set_option maxRecDepth 100000 in
theorem bX11_doorOf_0 (hst : zSt B ids) (F : zFx p m c cX11_doorOf 4 s args RX11 D cy B ids A) (hA : ∀ q : Nat, s.heap.size ≤ q → A q) {r : Option Nat} {z' : St} (E : zEnd p l e rmX11_doorOf s m args below meth c cX11_doorOf D cy B ids A Q (some (va_rf (r.map (B 2)))) z' .areturn (∀ i, r = some i → (2, i) ∈ ids)) {N : Nat}  (x0 : Nat) (x1 : Int32) (x2 : Int32) (hx0 : (11, x0) ∈ ids) {z : St} {H : Heap} {locs : List Loc} {ls : Array Slot} (hr : zRep D cy B ids A s.heap z H locs) (hl : lv_has ls 4 [(0, .ref (B 11 x0)), (1, .int x1), (2, .int x2)]) (h : fX11_doorOf N x0 x1 x2 z = some (r, z')) : W p l e rmX11_doorOf s m args below meth c H locs 0 0 Q (F0 m 0 ls []) := by
  unfold fX11_doorOf at h
  refine lv_aload_n F.1 F.2.1 dX11_doorOf_0 rfl (lv_at hl 0 rfl) ?_
  refine lv_iload_n F.1 F.2.1 dX11_doorOf_1 rfl (lv_at hl 1 rfl) ?_
  obtain ⟨r1, z2, hc3, h⟩ := zc_some h
  refine zr_callr (zrun_V (As := [.int x1]) (rest := []) zq_1684 zq_1686 zs_X11_hostOf zq_1687 zq_1 hdX11_hostOf (by decide) (T := TX11) (N := 21) rfl (okX11_hostOf l D cy B ids hst N x0 hx0 x1  hr.2.2 hc3) F hr hx0 hl.1 rfl (by decide) dX11_doorOf_2 rfl rfl hroX11_doorOf_X11_hostOf ⟨Nat.zero_le _, Nat.zero_le _⟩) F hA hr (fun H locs hx4 hr => ?_)
  clear hc3
  refine zr_astore_n (lv' := [(3, va_rf (Option.map (B 1) r1)), (0, .ref (B 11 x0)), (1, .int x1), (2, .int x2)]) F.1 F.2.1 dX11_doorOf_5 rfl hl (by decide) rfl (fun ls hl => ?_)
  refine zr_aload_n F.1 F.2.1 dX11_doorOf_6 rfl (lv_at hl 0 rfl) ?_
  refine zr_ifnull (tgt := 20) F.1 F.2.1 dX11_doorOf_7 (by decide) (fun e5 => ?_) (fun a6 e5 => ?_)
  · replace h := zo_n e5 h
    subst e5
    exact bX11_doorOf_20 hst F hA E   hr (lv_sub hl [] rfl) h
  · replace h := zo_s e5 h
    subst e5
    refine lv_iload_n F.1 F.2.1 dX11_doorOf_10 rfl (lv_at hl 3 rfl) ?_
    refine lv_if_lt (tgt := 20) F.1 F.2.1 dX11_doorOf_11 (by decide) (fun c7 => ?_) (fun c7 => ?_)
    · replace h := zi_t c7 h
      exact bX11_doorOf_20 hst F hA E   hr (lv_sub hl [] rfl) h
    · replace h := zi_f c7 h
      refine lv_iload_n F.1 F.2.1 dX11_doorOf_14 rfl (lv_at hl 3 rfl) ?_
      refine lv_bipush (v := (6)) F.1 F.2.1 dX11_doorOf_15 (by decide) ?_
      refine lv_icmp_lt (tgt := 24) F.1 F.2.1 dX11_doorOf_17 (by decide) (fun c8 => ?_) (fun c8 => ?_)
      · replace h := zi_t c8 h
        refine lv_aload_n F.1 F.2.1 dX11_doorOf_24 rfl (lv_at hl 0 rfl) ?_
        refine gf11_220 F (hx4 _ rfl) hr dX11_doorOf_25 ?_
        refine lv_iload_n F.1 F.2.1 dX11_doorOf_28 rfl (lv_at hl 3 rfl) ?_
        obtain ⟨c9, h⟩ := zk_some h
        refine zr_aaldv (k := 119) (by decide) rfl rfl rfl F (zal_a F (hx4 _ rfl) (j := 11) rfl) hr dX11_doorOf_29 c9 (fun y10 ey10 => ?_)
        replace h := zl_sub ey10 h
        have hy10 := zal_q hr (zal_a F (hx4 _ rfl) (j := 11) rfl) rfl ey10
        clear ey10
        obtain ⟨rfl, rfl⟩ := zret h
        exact E _ _ _ _ dX11_doorOf_30 hy10 hr
      · replace h := zi_f c8 h
        exact bX11_doorOf_20 hst F hA E   hr (lv_sub hl [] rfl) h
end SX11_doorOf
set_option maxRecDepth 100000 in
theorem okX11_doorOf (l : Launch) (D : va_G) (cy : Nat → ClassId) (B : Nat → Nat → Nat) (ids : List (Nat × Nat)) (hst : zSt B ids) (N : Nat) (x0 : Nat) (hx0 : (11, x0) ∈ ids) (x1 : Int32) (x2 : Int32) {z : St} {r : Option Nat} {z' : St} (hW : zWf ids z) (h : fX11_doorOf N x0 x1 x2 z = some (r, z')) : zM l yX11_doorOf (zws yX11_doorOf cX11_doorOf 4 (some (.object "WholeInternet$Door"))) rmX11_doorOf D cy B ids [.ref (B 11 x0), .int x1, .int x2] (some (va_rf (r.map (B 2)))) (∀ i, r = some i → (2, i) ∈ ids) z z' :=
  zM_of hst hW (by decide +kernel) (Nat.le_of_ble_eq_true rfl) (fun p e s m args below meth c A ls F hA hret hlocks hr hl => bX11_doorOf_0 hst F hA (zEnd_r F hret hlocks) x0 x1 x2 hx0 hr hl h)
abbrev rmX11_keyOf : Room := { frames := 0, cells := 0, slots := 0, locals := 0 }
theorem hdX11_keyOf : yX11_keyOf.cls ≠ "java/lang/invoke/MethodHandle" ∧ yX11_keyOf.cls ≠ "java/lang/invoke/VarHandle" ∧ (parseMethodDescriptor yX11_keyOf.desc).map (fun d => d.parameters.length) = some 2 := by decide +kernel
section SX11_keyOf
variable {p : Program} {l : Launch} {e : Env} {s : State} {m : MethodId} {args : Array Value} {below : List Frame} {meth : Method} {c : Code} {Q : State → Prop} {D : va_G} {cy : Nat → ClassId} {B : Nat → Nat → Nat} {ids : List (Nat × Nat)} {A : Nat → Prop}
def fX11_keyOf (N : Nat)  (x0 : Nat) (x1 : Int32) (z : St) : Option (Int32 × St) := some ((((zgI z 8 2 x0) * (16)) + x1), z)
set_option maxHeartbeats 4000000 in
set_option maxRecDepth 100000 in
theorem bX11_keyOf_0 (hst : zSt B ids) (F : zFx p m c cX11_keyOf 2 s args RX11 D cy B ids A) (hA : ∀ q : Nat, s.heap.size ≤ q → A q) {r : Int32} {z' : St} (E : zEnd p l e rmX11_keyOf s m args below meth c cX11_keyOf D cy B ids A Q (some (.int r)) z' .ireturn True) {N : Nat}  (x0 : Nat) (x1 : Int32) (hx0 : (8, x0) ∈ ids) {z : St} {H : Heap} {locs : List Loc} {ls : Array Slot} (hr : zRep D cy B ids A s.heap z H locs) (hl : lv_has ls 2 [(0, .ref (B 8 x0)), (1, .int x1)]) (h : fX11_keyOf N x0 x1 z = some (r, z')) : W p l e rmX11_keyOf s m args below meth c H locs 0 0 Q (F0 m 0 ls []) := by
  unfold fX11_keyOf at h
  refine lv_aload_n F.1 F.2.1 dX11_keyOf_0 rfl (lv_at hl 0 rfl) ?_
  refine gf11_494 F hx0 hr dX11_keyOf_1 ?_
  refine lv_bipush (v := (16)) F.1 F.2.1 dX11_keyOf_4 (by decide) ?_
  refine lv_imul F.1 F.2.1 dX11_keyOf_6 ?_
  refine lv_iload_n F.1 F.2.1 dX11_keyOf_7 rfl (lv_at hl 1 rfl) ?_
  refine lv_iadd F.1 F.2.1 dX11_keyOf_8 ?_
  obtain ⟨rfl, rfl⟩ := zret h
  exact E _ _ _ _ dX11_keyOf_9 trivial hr
end SX11_keyOf
set_option maxRecDepth 100000 in
theorem okX11_keyOf (l : Launch) (D : va_G) (cy : Nat → ClassId) (B : Nat → Nat → Nat) (ids : List (Nat × Nat)) (hst : zSt B ids) (N : Nat) (x0 : Nat) (hx0 : (8, x0) ∈ ids) (x1 : Int32) {z : St} {r : Int32} {z' : St} (hW : zWf ids z) (h : fX11_keyOf N x0 x1 z = some (r, z')) : zM l yX11_keyOf (zws yX11_keyOf cX11_keyOf 2 (some .int)) rmX11_keyOf D cy B ids [.ref (B 8 x0), .int x1] (some (.int r)) True z z' :=
  zM_of hst hW (by decide +kernel) (Nat.le_of_ble_eq_true rfl) (fun p e s m args below meth c A ls F hA hret hlocks hr hl => bX11_keyOf_0 hst F hA (zEnd_i F hret hlocks) x0 x1 hx0 hr hl h)
abbrev rmX11_firstNumber : Room := { frames := 0, cells := 0, slots := 0, locals := 0 }
theorem hdX11_firstNumber : yX11_firstNumber.cls ≠ "java/lang/invoke/MethodHandle" ∧ yX11_firstNumber.cls ≠ "java/lang/invoke/VarHandle" ∧ (parseMethodDescriptor yX11_firstNumber.desc).map (fun d => d.parameters.length) = some 1 := by decide +kernel
section SX11_firstNumber
variable {p : Program} {l : Launch} {e : Env} {s : State} {m : MethodId} {args : Array Value} {below : List Frame} {meth : Method} {c : Code} {Q : State → Prop} {D : va_G} {cy : Nat → ClassId} {B : Nat → Nat → Nat} {ids : List (Nat × Nat)} {A : Nat → Prop}
def fX11_firstNumber (N : Nat)  (x0 : Nat) (x1 : Nat) (z : St) : Option (Int32 × St) := some ((((64000) * (zgI z 11 4 x0)) + ((977) * (zgI z 1 0 x1))), z)
set_option maxHeartbeats 4000000 in
set_option maxRecDepth 100000 in
theorem bX11_firstNumber_0 (hst : zSt B ids) (F : zFx p m c cX11_firstNumber 2 s args RX11 D cy B ids A) (hA : ∀ q : Nat, s.heap.size ≤ q → A q) {r : Int32} {z' : St} (E : zEnd p l e rmX11_firstNumber s m args below meth c cX11_firstNumber D cy B ids A Q (some (.int r)) z' .ireturn True) {N : Nat}  (x0 : Nat) (x1 : Nat) (hx0 : (11, x0) ∈ ids) (hx1 : (1, x1) ∈ ids) {z : St} {H : Heap} {locs : List Loc} {ls : Array Slot} (hr : zRep D cy B ids A s.heap z H locs) (hl : lv_has ls 2 [(0, .ref (B 11 x0)), (1, .ref (B 1 x1))]) (h : fX11_firstNumber N x0 x1 z = some (r, z')) : W p l e rmX11_firstNumber s m args below meth c H locs 0 0 Q (F0 m 0 ls []) := by
  unfold fX11_firstNumber at h
  refine lv_ldcw (v := (64000)) F.1 F.2.1 F.2.2.2.1 (F.2.2.2.2.1 _ zq_1249) dX11_firstNumber_0 ?_
  refine lv_aload_n F.1 F.2.1 dX11_firstNumber_3 rfl (lv_at hl 0 rfl) ?_
  refine gf11_176 F hx0 hr dX11_firstNumber_4 ?_
  refine lv_imul F.1 F.2.1 dX11_firstNumber_7 ?_
  refine lv_sipush (v := (977)) F.1 F.2.1 dX11_firstNumber_8 (by decide) ?_
  refine lv_aload_n F.1 F.2.1 dX11_firstNumber_11 rfl (lv_at hl 1 rfl) ?_
  refine gf11_484 F hx1 hr dX11_firstNumber_12 ?_
  refine lv_imul F.1 F.2.1 dX11_firstNumber_15 ?_
  refine lv_iadd F.1 F.2.1 dX11_firstNumber_16 ?_
  obtain ⟨rfl, rfl⟩ := zret h
  exact E _ _ _ _ dX11_firstNumber_17 trivial hr
end SX11_firstNumber
set_option maxRecDepth 100000 in
theorem okX11_firstNumber (l : Launch) (D : va_G) (cy : Nat → ClassId) (B : Nat → Nat → Nat) (ids : List (Nat × Nat)) (hst : zSt B ids) (N : Nat) (x0 : Nat) (hx0 : (11, x0) ∈ ids) (x1 : Nat) (hx1 : (1, x1) ∈ ids) {z : St} {r : Int32} {z' : St} (hW : zWf ids z) (h : fX11_firstNumber N x0 x1 z = some (r, z')) : zM l yX11_firstNumber (zws yX11_firstNumber cX11_firstNumber 2 (some .int)) rmX11_firstNumber D cy B ids [.ref (B 11 x0), .ref (B 1 x1)] (some (.int r)) True z z' :=
  zM_of hst hW (by decide +kernel) (Nat.le_of_ble_eq_true rfl) (fun p e s m args below meth c A ls F hA hret hlocks hr hl => bX11_firstNumber_0 hst F hA (zEnd_i F hret hlocks) x0 x1 hx0 hx1 hr hl h)
abbrev rmX11_stir : Room := { frames := 0, cells := 0, slots := 0, locals := 0 }
theorem hdX11_stir : yX11_stir.cls ≠ "java/lang/invoke/MethodHandle" ∧ yX11_stir.cls ≠ "java/lang/invoke/VarHandle" ∧ (parseMethodDescriptor yX11_stir.desc).map (fun d => d.parameters.length) = some 0 := by decide +kernel
section SX11_stir
variable {p : Program} {l : Launch} {e : Env} {s : State} {m : MethodId} {args : Array Value} {below : List Frame} {meth : Method} {c : Code} {Q : State → Prop} {D : va_G} {cy : Nat → ClassId} {B : Nat → Nat → Nat} {ids : List (Nat × Nat)} {A : Nat → Prop}
def fX11_stir (N : Nat)  (x0 : Nat) (z : St) : Option (Int32 × St) := zl (zsI z 11 5 x0 (zgI z 11 4 x0)) fun z1 => some (0, z1)
set_option maxHeartbeats 4000000 in
set_option maxRecDepth 100000 in
theorem bX11_stir_0 (hst : zSt B ids) (F : zFx p m c cX11_stir 1 s args RX11 D cy B ids A) (hA : ∀ q : Nat, s.heap.size ≤ q → A q) {r : Int32} {z' : St} (E : zEnd p l e rmX11_stir s m args below meth c cX11_stir D cy B ids A Q none z' .return_ True) {N : Nat}  (x0 : Nat) (hx0 : (11, x0) ∈ ids) {z : St} {H : Heap} {locs : List Loc} {ls : Array Slot} (hr : zRep D cy B ids A s.heap z H locs) (hl : lv_has ls 1 [(0, .ref (B 11 x0))]) (h : fX11_stir N x0 z = some (r, z')) : W p l e rmX11_stir s m args below meth c H locs 0 0 Q (F0 m 0 ls []) := by
  unfold fX11_stir at h
  refine lv_aload_n F.1 F.2.1 dX11_stir_0 rfl (lv_at hl 0 rfl) ?_
  refine lv_aload_n F.1 F.2.1 dX11_stir_1 rfl (lv_at hl 0 rfl) ?_
  refine gf11_176 F hx0 hr dX11_stir_2 ?_
  refine pf11_455 F hx0 hr dX11_stir_5 (zgI z 11 4 x0) (fun H locs z1 ez1 hr => ?_)
  replace h := zl_sub ez1 h
  clear ez1
  obtain ⟨rfl, rfl⟩ := zret h
  exact E _ _ _ _ dX11_stir_8 trivial hr
end SX11_stir
set_option maxRecDepth 100000 in
theorem okX11_stir (l : Launch) (D : va_G) (cy : Nat → ClassId) (B : Nat → Nat → Nat) (ids : List (Nat × Nat)) (hst : zSt B ids) (N : Nat) (x0 : Nat) (hx0 : (11, x0) ∈ ids) {z : St} {r : Int32} {z' : St} (hW : zWf ids z) (h : fX11_stir N x0 z = some (r, z')) : zM l yX11_stir (zws yX11_stir cX11_stir 1 none) rmX11_stir D cy B ids [.ref (B 11 x0)] none True z z' :=
  zM_of hst hW (by decide +kernel) (Nat.le_of_ble_eq_true rfl) (fun p e s m args below meth c A ls F hA hret hlocks hr hl => bX11_stir_0 hst F hA (zEnd_v F hret hlocks) x0 hx0 hr hl h)
abbrev rmX11_changeWorld : Room := { frames := 1, cells := 0, slots := 0, locals := 20 }
theorem hdX11_changeWorld : yX11_changeWorld.cls ≠ "java/lang/invoke/MethodHandle" ∧ yX11_changeWorld.cls ≠ "java/lang/invoke/VarHandle" ∧ (parseMethodDescriptor yX11_changeWorld.desc).map (fun d => d.parameters.length) = some 0 := by decide +kernel
theorem hroX11_changeWorld_X11_stir : rmX11_stir.frames + 1 ≤ rmX11_changeWorld.frames ∧ 8 + (1 + 11) + rmX11_stir.locals ≤ rmX11_changeWorld.locals := by decide
section SX11_changeWorld
variable {p : Program} {l : Launch} {e : Env} {s : State} {m : MethodId} {args : Array Value} {below : List Frame} {meth : Method} {c : Code} {Q : State → Prop} {D : va_G} {cy : Nat → ClassId} {B : Nat → Nat → Nat} {ids : List (Nat × Nat)} {A : Nat → Prop}
def fX11_changeWorld (N : Nat)  (x0 : Nat) (z : St) : Option (Int32 × St) := zl (zsI z 11 6 x0 ((zgI z 11 6 x0) + (1))) fun z1 => zc (fX11_stir N x0 z1) fun _ z3 => some (0, z3)
set_option maxHeartbeats 4000000 in
set_option maxRecDepth 100000 in
theorem bX11_changeWorld_0 (hst : zSt B ids) (F : zFx p m c cX11_changeWorld 1 s args RX11 D cy B ids A) (hA : ∀ q : Nat, s.heap.size ≤ q → A q) {r : Int32} {z' : St} (E : zEnd p l e rmX11_changeWorld s m args below meth c cX11_changeWorld D cy B ids A Q none z' .return_ True) {N : Nat}  (x0 : Nat) (hx0 : (11, x0) ∈ ids) {z : St} {H : Heap} {locs : List Loc} {ls : Array Slot} (hr : zRep D cy B ids A s.heap z H locs) (hl : lv_has ls 1 [(0, .ref (B 11 x0))]) (h : fX11_changeWorld N x0 z = some (r, z')) : W p l e rmX11_changeWorld s m args below meth c H locs 0 0 Q (F0 m 0 ls []) := by
  unfold fX11_changeWorld at h
  refine lv_aload_n F.1 F.2.1 dX11_changeWorld_0 rfl (lv_at hl 0 rfl) ?_
  refine lv_dup F.1 F.2.1 dX11_changeWorld_1 rfl ?_
  refine gf11_498 F hx0 hr dX11_changeWorld_2 ?_
  refine lv_iconst (v := (1)) F.1 F.2.1 dX11_changeWorld_5 (by decide) ?_
  refine lv_iadd F.1 F.2.1 dX11_changeWorld_6 ?_
  refine pf11_498 F hx0 hr dX11_changeWorld_7 ((zgI z 11 6 x0) + (1)) (fun H locs z1 ez1 hr => ?_)
  replace h := zl_sub ez1 h
  clear ez1
  refine lv_aload_n F.1 F.2.1 dX11_changeWorld_10 rfl (lv_at hl 0 rfl) ?_
  obtain ⟨r2, z3, hc4, h⟩ := zc_some h
  refine zr_callv (zrun_V (As := []) (rest := []) zq_858 zq_860 zs_X11_stir zq_861 zq_1 hdX11_stir (by decide) (T := TX11) (N := 21) rfl (okX11_stir l D cy B ids hst N x0 hx0 hr.2.2 hc4) F hr hx0 hl.1 rfl (by decide) dX11_changeWorld_11 rfl rfl hroX11_changeWorld_X11_stir ⟨Nat.zero_le _, Nat.zero_le _⟩) F hA hr (fun H locs hx5 hr => ?_)
  clear hc4
  obtain ⟨rfl, rfl⟩ := zret h
  exact E _ _ _ _ dX11_changeWorld_14 trivial hr
end SX11_changeWorld
set_option maxRecDepth 100000 in
theorem okX11_changeWorld (l : Launch) (D : va_G) (cy : Nat → ClassId) (B : Nat → Nat → Nat) (ids : List (Nat × Nat)) (hst : zSt B ids) (N : Nat) (x0 : Nat) (hx0 : (11, x0) ∈ ids) {z : St} {r : Int32} {z' : St} (hW : zWf ids z) (h : fX11_changeWorld N x0 z = some (r, z')) : zM l yX11_changeWorld (zws yX11_changeWorld cX11_changeWorld 1 none) rmX11_changeWorld D cy B ids [.ref (B 11 x0)] none True z z' :=
  zM_of hst hW (by decide +kernel) (Nat.le_of_ble_eq_true rfl) (fun p e s m args below meth c A ls F hA hret hlocks hr hl => bX11_changeWorld_0 hst F hA (zEnd_v F hret hlocks) x0 hx0 hr hl h)
abbrev rmX11_giveBack : Room := { frames := 0, cells := 0, slots := 0, locals := 0 }
theorem hdX11_giveBack : yX11_giveBack.cls ≠ "java/lang/invoke/MethodHandle" ∧ yX11_giveBack.cls ≠ "java/lang/invoke/VarHandle" ∧ (parseMethodDescriptor yX11_giveBack.desc).map (fun d => d.parameters.length) = some 1 := by decide +kernel
section SX11_giveBack
variable {p : Program} {l : Launch} {e : Env} {s : State} {m : MethodId} {args : Array Value} {below : List Frame} {meth : Method} {c : Code} {Q : State → Prop} {D : va_G} {cy : Nat → ClassId} {B : Nat → Nat → Nat} {ids : List (Nat × Nat)} {A : Nat → Prop}
def fX11_giveBack (N : Nat)  (x0 : Nat) (x1 : Nat) (z : St) : Option (Int32 × St) := zl (zgR z 11 11 x0) fun y1 => zl (zsR z 7 14 x1 y1) fun z2 => zl (zsR z2 11 11 x0 (some x1)) fun z3 => some (0, z3)
set_option maxHeartbeats 4000000 in
set_option maxRecDepth 100000 in
theorem bX11_giveBack_0 (hst : zSt B ids) (F : zFx p m c cX11_giveBack 2 s args RX11 D cy B ids A) (hA : ∀ q : Nat, s.heap.size ≤ q → A q) {r : Int32} {z' : St} (E : zEnd p l e rmX11_giveBack s m args below meth c cX11_giveBack D cy B ids A Q none z' .return_ True) {N : Nat}  (x0 : Nat) (x1 : Nat) (hx0 : (11, x0) ∈ ids) (hx1 : (7, x1) ∈ ids) {z : St} {H : Heap} {locs : List Loc} {ls : Array Slot} (hr : zRep D cy B ids A s.heap z H locs) (hl : lv_has ls 2 [(0, .ref (B 11 x0)), (1, .ref (B 7 x1))]) (h : fX11_giveBack N x0 x1 z = some (r, z')) : W p l e rmX11_giveBack s m args below meth c H locs 0 0 Q (F0 m 0 ls []) := by
  unfold fX11_giveBack at h
  refine lv_aload_n F.1 F.2.1 dX11_giveBack_0 rfl (lv_at hl 1 rfl) ?_
  refine lv_aload_n F.1 F.2.1 dX11_giveBack_1 rfl (lv_at hl 0 rfl) ?_
  refine gf11_55 F hx0 hr dX11_giveBack_2 (fun y1 ey1 => ?_)
  replace h := zl_sub ey1 h
  have hy1 := zal_g hr hx0 (j := 11) rfl ey1
  clear ey1
  refine pf11_58 F hx1 hr dX11_giveBack_5 y1 hy1 (fun H locs z2 ez2 hr => ?_)
  replace h := zl_sub ez2 h
  clear ez2
  refine lv_aload_n F.1 F.2.1 dX11_giveBack_8 rfl (lv_at hl 0 rfl) ?_
  refine lv_aload_n F.1 F.2.1 dX11_giveBack_9 rfl (lv_at hl 1 rfl) ?_
  refine pf11_55 F hx0 hr dX11_giveBack_10 (some x1) (zal_s hx1) (fun H locs z3 ez3 hr => ?_)
  replace h := zl_sub ez3 h
  clear ez3
  obtain ⟨rfl, rfl⟩ := zret h
  exact E _ _ _ _ dX11_giveBack_13 trivial hr
end SX11_giveBack
set_option maxRecDepth 100000 in
theorem okX11_giveBack (l : Launch) (D : va_G) (cy : Nat → ClassId) (B : Nat → Nat → Nat) (ids : List (Nat × Nat)) (hst : zSt B ids) (N : Nat) (x0 : Nat) (hx0 : (11, x0) ∈ ids) (x1 : Nat) (hx1 : (7, x1) ∈ ids) {z : St} {r : Int32} {z' : St} (hW : zWf ids z) (h : fX11_giveBack N x0 x1 z = some (r, z')) : zM l yX11_giveBack (zws yX11_giveBack cX11_giveBack 2 none) rmX11_giveBack D cy B ids [.ref (B 11 x0), .ref (B 7 x1)] none True z z' :=
  zM_of hst hW (by decide +kernel) (Nat.le_of_ble_eq_true rfl) (fun p e s m args below meth c A ls F hA hret hlocks hr hl => bX11_giveBack_0 hst F hA (zEnd_v F hret hlocks) x0 x1 hx0 hx1 hr hl h)
abbrev rmX11_hangIn : Room := { frames := 0, cells := 0, slots := 0, locals := 0 }
theorem hdX11_hangIn : yX11_hangIn.cls ≠ "java/lang/invoke/MethodHandle" ∧ yX11_hangIn.cls ≠ "java/lang/invoke/VarHandle" ∧ (parseMethodDescriptor yX11_hangIn.desc).map (fun d => d.parameters.length) = some 2 := by decide +kernel
section SX11_hangIn
variable {p : Program} {l : Launch} {e : Env} {s : State} {m : MethodId} {args : Array Value} {below : List Frame} {meth : Method} {c : Code} {Q : State → Prop} {D : va_G} {cy : Nat → ClassId} {B : Nat → Nat → Nat} {ids : List (Nat × Nat)} {A : Nat → Prop}
def fX11_hangIn_31 (N : Nat)  (x0 : Nat) (x1 : Nat) (x2 : Int32) (z : St) : Option (Int32 × St) := zk x2 256 <| zl (zsQ z 142 x0 x2.toNatClampNeg (some x1)) fun z2 => some (0, z2)
set_option maxHeartbeats 4000000 in
set_option maxRecDepth 100000 in
theorem bX11_hangIn_31 (hst : zSt B ids) (F : zFx p m c cX11_hangIn 4 s args RX11 D cy B ids A) (hA : ∀ q : Nat, s.heap.size ≤ q → A q) {r : Int32} {z' : St} (E : zEnd p l e rmX11_hangIn s m args below meth c cX11_hangIn D cy B ids A Q none z' .return_ True) {N : Nat}  (x0 : Nat) (x1 : Nat) (x2 : Int32) (hx0 : (11, x0) ∈ ids) (hx1 : (7, x1) ∈ ids) {z : St} {H : Heap} {locs : List Loc} {ls : Array Slot} (hr : zRep D cy B ids A s.heap z H locs) (hl : lv_has ls 4 [(0, .ref (B 11 x0)), (1, .ref (B 7 x1)), (2, .int x2)]) (h : fX11_hangIn_31 N x0 x1 x2 z = some (r, z')) : W p l e rmX11_hangIn s m args below meth c H locs 0 0 Q (F0 m 31 ls []) := by
  unfold fX11_hangIn_31 at h
  refine lv_aload_n F.1 F.2.1 dX11_hangIn_31 rfl (lv_at hl 0 rfl) ?_
  refine gf11_27 F hx0 hr dX11_hangIn_32 ?_
  refine lv_iload_n F.1 F.2.1 dX11_hangIn_35 rfl (lv_at hl 2 rfl) ?_
  refine lv_aload_n F.1 F.2.1 dX11_hangIn_36 rfl (lv_at hl 1 rfl) ?_
  obtain ⟨c1, h⟩ := zk_some h
  refine zr_aast (k := 142) (v := (some x1)) (T := TX7) (N := 20) (by decide) rfl (by decide) rfl rfl F (zal_a F hx0 (j := 10) rfl) hr dX11_hangIn_37 (by rw [zlen_d (by decide)]; exact c1) (zal_s hx1) (fun H locs z2 ez2 hr => ?_)
  replace h := zl_sub ez2 h
  clear ez2
  obtain ⟨rfl, rfl⟩ := zret h
  exact E _ _ _ _ dX11_hangIn_38 trivial hr
def fX11_hangIn (N : Nat)  (x0 : Nat) (x1 : Nat) (x2 : Int32) (z : St) : Option (Int32 × St) := zl (zsR z 7 14 x1 none) fun z1 => zk x2 256 <| zl (zgQ z1 142 x0 x2.toNatClampNeg) fun y3 => zo y3 (zk x2 256 <| zl (zsQ z1 141 x0 x2.toNatClampNeg (some x1)) fun z7 => fX11_hangIn_31 N x0 x1 x2 z7) fun a5 => zl (zsR z1 7 14 a5 (some x1)) fun z8 => fX11_hangIn_31 N x0 x1 x2 z8
set_option maxHeartbeats 4000000 in
set_option maxRecDepth 100000 in
theorem bX11_hangIn_0 (hst : zSt B ids) (F : zFx p m c cX11_hangIn 4 s args RX11 D cy B ids A) (hA : ∀ q : Nat, s.heap.size ≤ q → A q) {r : Int32} {z' : St} (E : zEnd p l e rmX11_hangIn s m args below meth c cX11_hangIn D cy B ids A Q none z' .return_ True) {N : Nat}  (x0 : Nat) (x1 : Nat) (x2 : Int32) (hx0 : (11, x0) ∈ ids) (hx1 : (7, x1) ∈ ids) {z : St} {H : Heap} {locs : List Loc} {ls : Array Slot} (hr : zRep D cy B ids A s.heap z H locs) (hl : lv_has ls 4 [(0, .ref (B 11 x0)), (1, .ref (B 7 x1)), (2, .int x2)]) (h : fX11_hangIn N x0 x1 x2 z = some (r, z')) : W p l e rmX11_hangIn s m args below meth c H locs 0 0 Q (F0 m 0 ls []) := by
  unfold fX11_hangIn at h
  refine lv_aload_n F.1 F.2.1 dX11_hangIn_0 rfl (lv_at hl 1 rfl) ?_
  refine lv_null F.1 F.2.1 dX11_hangIn_1 ?_
  refine pf11_58 F hx1 hr dX11_hangIn_2 none zal_0 (fun H locs z1 ez1 hr => ?_)
  replace h := zl_sub ez1 h
  clear ez1
  refine lv_aload_n F.1 F.2.1 dX11_hangIn_5 rfl (lv_at hl 0 rfl) ?_
  refine gf11_27 F hx0 hr dX11_hangIn_6 ?_
  refine lv_iload_n F.1 F.2.1 dX11_hangIn_9 rfl (lv_at hl 2 rfl) ?_
  obtain ⟨c2, h⟩ := zk_some h
  refine zr_aaldv (k := 142) (by decide) rfl rfl (zlen_d (by decide)) F (zal_a F hx0 (j := 10) rfl) hr dX11_hangIn_10 c2 (fun y3 ey3 => ?_)
  replace h := zl_sub ey3 h
  have hy3 := zal_q hr (zal_a F hx0 (j := 10) rfl) rfl ey3
  clear ey3
  refine zr_astore_n (lv' := [(3, va_rf (Option.map (B 7) y3)), (0, .ref (B 11 x0)), (1, .ref (B 7 x1)), (2, .int x2)]) F.1 F.2.1 dX11_hangIn_11 rfl hl (by decide) rfl (fun ls hl => ?_)
  refine zr_aload_n F.1 F.2.1 dX11_hangIn_12 rfl (lv_at hl 0 rfl) ?_
  refine zr_ifnonnull (tgt := 26) F.1 F.2.1 dX11_hangIn_13 (by decide) (fun e4 => ?_) (fun a5 e4 => ?_)
  · replace h := zo_n e4 h
    subst e4
    refine lv_aload_n F.1 F.2.1 dX11_hangIn_16 rfl (lv_at hl 1 rfl) ?_
    refine gf11_23 F hx0 hr dX11_hangIn_17 ?_
    refine lv_iload_n F.1 F.2.1 dX11_hangIn_20 rfl (lv_at hl 3 rfl) ?_
    refine lv_aload_n F.1 F.2.1 dX11_hangIn_21 rfl (lv_at hl 2 rfl) ?_
    obtain ⟨c6, h⟩ := zk_some h
    refine zr_aast (k := 141) (v := (some x1)) (T := TX7) (N := 20) (by decide) rfl (by decide) rfl rfl F (zal_a F hx0 (j := 9) rfl) hr dX11_hangIn_22 (by rw [zlen_d (by decide)]; exact c6) (zal_s hx1) (fun H locs z7 ez7 hr => ?_)
    replace h := zl_sub ez7 h
    clear ez7
    refine lv_goto (tgt := 31) F.1 F.2.1 dX11_hangIn_23 (by decide) ?_
    exact bX11_hangIn_31 hst F hA E  x0 x1 x2 hx0 hx1 hr (lv_sub hl [1, 2, 3] rfl) h
  · replace h := zo_s e4 h
    subst e4
    refine lv_aload_n F.1 F.2.1 dX11_hangIn_26 rfl (lv_at hl 0 rfl) ?_
    refine lv_aload_n F.1 F.2.1 dX11_hangIn_27 rfl (lv_at hl 2 rfl) ?_
    refine pf11_58 F (hy3 _ rfl) hr dX11_hangIn_28 (some x1) (zal_s hx1) (fun H locs z8 ez8 hr => ?_)
    replace h := zl_sub ez8 h
    clear ez8
    exact bX11_hangIn_31 hst F hA E  x0 x1 x2 hx0 hx1 hr (lv_sub hl [1, 2, 3] rfl) h
end SX11_hangIn
set_option maxRecDepth 100000 in
theorem okX11_hangIn (l : Launch) (D : va_G) (cy : Nat → ClassId) (B : Nat → Nat → Nat) (ids : List (Nat × Nat)) (hst : zSt B ids) (N : Nat) (x0 : Nat) (hx0 : (11, x0) ∈ ids) (x1 : Nat) (hx1 : (7, x1) ∈ ids) (x2 : Int32) {z : St} {r : Int32} {z' : St} (hW : zWf ids z) (h : fX11_hangIn N x0 x1 x2 z = some (r, z')) : zM l yX11_hangIn (zws yX11_hangIn cX11_hangIn 4 none) rmX11_hangIn D cy B ids [.ref (B 11 x0), .ref (B 7 x1), .int x2] none True z z' :=
  zM_of hst hW (by decide +kernel) (Nat.le_of_ble_eq_true rfl) (fun p e s m args below meth c A ls F hA hret hlocks hr hl => bX11_hangIn_0 hst F hA (zEnd_v F hret hlocks) x0 x1 x2 hx0 hx1 hr hl h)
abbrev rmX11_loseAllOn : Room := { frames := 1, cells := 0, slots := 0, locals := 23 }
theorem hdX11_loseAllOn : yX11_loseAllOn.cls ≠ "java/lang/invoke/MethodHandle" ∧ yX11_loseAllOn.cls ≠ "java/lang/invoke/VarHandle" ∧ (parseMethodDescriptor yX11_loseAllOn.desc).map (fun d => d.parameters.length) = some 1 := by decide +kernel
theorem hroX11_loseAllOn_X11_giveBack : rmX11_giveBack.frames + 1 ≤ rmX11_loseAllOn.frames ∧ 8 + (2 + 11) + rmX11_giveBack.locals ≤ rmX11_loseAllOn.locals := by decide
theorem hroX11_loseAllOn_X11_hangIn : rmX11_hangIn.frames + 1 ≤ rmX11_loseAllOn.frames ∧ 8 + (4 + 11) + rmX11_hangIn.locals ≤ rmX11_loseAllOn.locals := by decide
section SX11_loseAllOn
variable {p : Program} {l : Launch} {e : Env} {s : State} {m : MethodId} {args : Array Value} {below : List Frame} {meth : Method} {c : Code} {Q : State → Prop} {D : va_G} {cy : Nat → ClassId} {B : Nat → Nat → Nat} {ids : List (Nat × Nat)} {A : Nat → Prop}
def fX11_loseAllOn_2b (N : Nat) (K2 : Nat → Int32 → Int32 → St → Option (Int32 × St)) (K33 : Nat → Int32 → Int32 → Option Nat → Int32 → St → Option (Int32 × St)) (x0 : Nat) (x1 : Int32) (x2 : Int32) (z : St) : Option (Int32 × St) := if (256) ≤ x2 then (some (0, z)) else (zk x2 256 <| zl (zgQ z 141 x0 x2.toNatClampNeg) fun y3 => zk x2 256 <| zl (zsQ z 141 x0 x2.toNatClampNeg none) fun z5 => zk x2 256 <| zl (zsQ z5 142 x0 x2.toNatClampNeg none) fun z7 => K33 x0 x1 x2 y3 (0) z7)
def fX11_loseAllOn_2 (N : Nat) (K33 : Nat → Int32 → Int32 → Option Nat → Int32 → St → Option (Int32 × St)) : Nat → Nat → Int32 → Int32 → St → Option (Int32 × St)
  | 0 => fun _ _ _ _ => none
  | n + 1 => fX11_loseAllOn_2b N (fX11_loseAllOn_2 N K33 n) K33
set_option maxHeartbeats 4000000 in
set_option maxRecDepth 100000 in
theorem bX11_loseAllOn_2 (hst : zSt B ids) (F : zFx p m c cX11_loseAllOn 6 s args RX11 D cy B ids A) (hA : ∀ q : Nat, s.heap.size ≤ q → A q) {r : Int32} {z' : St} (E : zEnd p l e rmX11_loseAllOn s m args below meth c cX11_loseAllOn D cy B ids A Q none z' .return_ True) {N : Nat} {K2 : Nat → Int32 → Int32 → St → Option (Int32 × St)} {K33 : Nat → Int32 → Int32 → Option Nat → Int32 → St → Option (Int32 × St)} (hK2 : ∀ (x0 : Nat) (x1 : Int32) (x2 : Int32) (hx0 : (11, x0) ∈ ids) {z : St} {H : Heap} {locs : List Loc} {ls : Array Slot} (hr : zRep D cy B ids A s.heap z H locs) (hl : lv_has ls 6 [(0, .ref (B 11 x0)), (1, .int x1), (2, .int x2)]), K2 x0 x1 x2 z = some (r, z') → W p l e rmX11_loseAllOn s m args below meth c H locs 0 0 Q (F0 m 2 ls [])) (hK33 : ∀ (x0 : Nat) (x1 : Int32) (x2 : Int32) (x3 : Option Nat) (x4 : Int32) (hx0 : (11, x0) ∈ ids) (hx3 : ∀ t, x3 = some t → (7, t) ∈ ids) {z : St} {H : Heap} {locs : List Loc} {ls : Array Slot} (hr : zRep D cy B ids A s.heap z H locs) (hl : lv_has ls 6 [(0, .ref (B 11 x0)), (1, .int x1), (2, .int x2), (3, va_rf (Option.map (B 7) x3)), (4, .int x4)]), K33 x0 x1 x2 x3 x4 z = some (r, z') → W p l e rmX11_loseAllOn s m args below meth c H locs 0 0 Q (F0 m 33 ls [])) (x0 : Nat) (x1 : Int32) (x2 : Int32) (hx0 : (11, x0) ∈ ids) {z : St} {H : Heap} {locs : List Loc} {ls : Array Slot} (hr : zRep D cy B ids A s.heap z H locs) (hl : lv_has ls 6 [(0, .ref (B 11 x0)), (1, .int x1), (2, .int x2)]) (h : fX11_loseAllOn_2b N K2 K33 x0 x1 x2 z = some (r, z')) : W p l e rmX11_loseAllOn s m args below meth c H locs 0 0 Q (F0 m 2 ls []) := by
  unfold fX11_loseAllOn_2b at h
  refine lv_iload_n F.1 F.2.1 dX11_loseAllOn_2 rfl (lv_at hl 2 rfl) ?_
  refine lv_sipush (v := (256)) F.1 F.2.1 dX11_loseAllOn_3 (by decide) ?_
  refine lv_icmp_ge (tgt := 98) F.1 F.2.1 dX11_loseAllOn_6 (by decide) (fun c1 => ?_) (fun c1 => ?_)
  · replace h := zi_t c1 h
    obtain ⟨rfl, rfl⟩ := zret h
    exact E _ _ _ _ dX11_loseAllOn_98 trivial hr
  · replace h := zi_f c1 h
    refine lv_aload_n F.1 F.2.1 dX11_loseAllOn_9 rfl (lv_at hl 0 rfl) ?_
    refine gf11_23 F hx0 hr dX11_loseAllOn_10 ?_
    refine lv_iload_n F.1 F.2.1 dX11_loseAllOn_13 rfl (lv_at hl 2 rfl) ?_
    obtain ⟨c2, h⟩ := zk_some h
    refine zr_aaldv (k := 141) (by decide) rfl rfl (zlen_d (by decide)) F (zal_a F hx0 (j := 9) rfl) hr dX11_loseAllOn_14 c2 (fun y3 ey3 => ?_)
    replace h := zl_sub ey3 h
    have hy3 := zal_q hr (zal_a F hx0 (j := 9) rfl) rfl ey3
    clear ey3
    refine zr_astore_n (lv' := [(3, va_rf (Option.map (B 7) y3)), (0, .ref (B 11 x0)), (1, .int x1), (2, .int x2)]) F.1 F.2.1 dX11_loseAllOn_15 rfl hl (by decide) rfl (fun ls hl => ?_)
    refine lv_aload_n F.1 F.2.1 dX11_loseAllOn_16 rfl (lv_at hl 1 rfl) ?_
    refine gf11_23 F hx0 hr dX11_loseAllOn_17 ?_
    refine lv_iload_n F.1 F.2.1 dX11_loseAllOn_20 rfl (lv_at hl 3 rfl) ?_
    refine lv_null F.1 F.2.1 dX11_loseAllOn_21 ?_
    obtain ⟨c4, h⟩ := zk_some h
    refine zr_aast (k := 141) (v := none) (T := TX7) (N := 20) (by decide) rfl (by decide) rfl rfl F (zal_a F hx0 (j := 9) rfl) hr dX11_loseAllOn_22 (by rw [zlen_d (by decide)]; exact c4) zal_0 (fun H locs z5 ez5 hr => ?_)
    replace h := zl_sub ez5 h
    clear ez5
    refine lv_aload_n F.1 F.2.1 dX11_loseAllOn_23 rfl (lv_at hl 1 rfl) ?_
    refine gf11_27 F hx0 hr dX11_loseAllOn_24 ?_
    refine lv_iload_n F.1 F.2.1 dX11_loseAllOn_27 rfl (lv_at hl 3 rfl) ?_
    refine lv_null F.1 F.2.1 dX11_loseAllOn_28 ?_
    obtain ⟨c6, h⟩ := zk_some h
    refine zr_aast (k := 142) (v := none) (T := TX7) (N := 20) (by decide) rfl (by decide) rfl rfl F (zal_a F hx0 (j := 10) rfl) hr dX11_loseAllOn_29 (by rw [zlen_d (by decide)]; exact c6) zal_0 (fun H locs z7 ez7 hr => ?_)
    replace h := zl_sub ez7 h
    clear ez7
    refine lv_iconst (v := (0)) F.1 F.2.1 dX11_loseAllOn_30 (by decide) ?_
    refine lv_istore (lv' := [(4, .int (0)), (3, va_rf (Option.map (B 7) y3)), (0, .ref (B 11 x0)), (1, .int x1), (2, .int x2)]) F.1 F.2.1 dX11_loseAllOn_31 hl (by decide) (by simp only [List.filter, zrf_cat]; rfl) (fun ls hl => ?_)
    exact hK33 x0 x1 x2 y3 (0) hx0 hy3 hr (lv_sub hl [2, 3, 4, 1, 0] rfl) h
theorem lX11_loseAllOn_2 (hst : zSt B ids) (F : zFx p m c cX11_loseAllOn 6 s args RX11 D cy B ids A) (hA : ∀ q : Nat, s.heap.size ≤ q → A q) {r : Int32} {z' : St} (E : zEnd p l e rmX11_loseAllOn s m args below meth c cX11_loseAllOn D cy B ids A Q none z' .return_ True) {N : Nat} {K33 : Nat → Int32 → Int32 → Option Nat → Int32 → St → Option (Int32 × St)} (hK33 : ∀ (x0 : Nat) (x1 : Int32) (x2 : Int32) (x3 : Option Nat) (x4 : Int32) (hx0 : (11, x0) ∈ ids) (hx3 : ∀ t, x3 = some t → (7, t) ∈ ids) {z : St} {H : Heap} {locs : List Loc} {ls : Array Slot} (hr : zRep D cy B ids A s.heap z H locs) (hl : lv_has ls 6 [(0, .ref (B 11 x0)), (1, .int x1), (2, .int x2), (3, va_rf (Option.map (B 7) x3)), (4, .int x4)]), K33 x0 x1 x2 x3 x4 z = some (r, z') → W p l e rmX11_loseAllOn s m args below meth c H locs 0 0 Q (F0 m 33 ls [])) : ∀ (n : Nat) (x0 : Nat) (x1 : Int32) (x2 : Int32) (hx0 : (11, x0) ∈ ids) {z : St} {H : Heap} {locs : List Loc} {ls : Array Slot} (hr : zRep D cy B ids A s.heap z H locs) (hl : lv_has ls 6 [(0, .ref (B 11 x0)), (1, .int x1), (2, .int x2)]), fX11_loseAllOn_2 N K33 n x0 x1 x2 z = some (r, z') → W p l e rmX11_loseAllOn s m args below meth c H locs 0 0 Q (F0 m 2 ls []) := by
  intro n
  induction n with
  | zero => intro x0 x1 x2 hx0 z H locs ls hr hl h; cases h
  | succ n ih => intro x0 x1 x2 hx0 z H locs ls hr hl h; exact bX11_loseAllOn_2 hst F hA E ih hK33 x0 x1 x2 hx0 hr hl h
def fX11_loseAllOn (N : Nat) (K33 : Nat → Int32 → Int32 → Option Nat → Int32 → St → Option (Int32 × St)) (x0 : Nat) (x1 : Int32) (z : St) : Option (Int32 × St) := fX11_loseAllOn_2 N K33 N x0 x1 (0) z
set_option maxHeartbeats 4000000 in
set_option maxRecDepth 100000 in
theorem bX11_loseAllOn_0 (hst : zSt B ids) (F : zFx p m c cX11_loseAllOn 6 s args RX11 D cy B ids A) (hA : ∀ q : Nat, s.heap.size ≤ q → A q) {r : Int32} {z' : St} (E : zEnd p l e rmX11_loseAllOn s m args below meth c cX11_loseAllOn D cy B ids A Q none z' .return_ True) {N : Nat} {K33 : Nat → Int32 → Int32 → Option Nat → Int32 → St → Option (Int32 × St)} (hK33 : ∀ (x0 : Nat) (x1 : Int32) (x2 : Int32) (x3 : Option Nat) (x4 : Int32) (hx0 : (11, x0) ∈ ids) (hx3 : ∀ t, x3 = some t → (7, t) ∈ ids) {z : St} {H : Heap} {locs : List Loc} {ls : Array Slot} (hr : zRep D cy B ids A s.heap z H locs) (hl : lv_has ls 6 [(0, .ref (B 11 x0)), (1, .int x1), (2, .int x2), (3, va_rf (Option.map (B 7) x3)), (4, .int x4)]), K33 x0 x1 x2 x3 x4 z = some (r, z') → W p l e rmX11_loseAllOn s m args below meth c H locs 0 0 Q (F0 m 33 ls [])) (x0 : Nat) (x1 : Int32) (hx0 : (11, x0) ∈ ids) {z : St} {H : Heap} {locs : List Loc} {ls : Array Slot} (hr : zRep D cy B ids A s.heap z H locs) (hl : lv_has ls 6 [(0, .ref (B 11 x0)), (1, .int x1)]) (h : fX11_loseAllOn N K33 x0 x1 z = some (r, z')) : W p l e rmX11_loseAllOn s m args below meth c H locs 0 0 Q (F0 m 0 ls []) := by
  unfold fX11_loseAllOn at h
  refine lv_iconst (v := (0)) F.1 F.2.1 dX11_loseAllOn_0 (by decide) ?_
  refine lv_istore_n (lv' := [(2, .int (0)), (0, .ref (B 11 x0)), (1, .int x1)]) F.1 F.2.1 dX11_loseAllOn_1 rfl hl (by decide) rfl (fun ls hl => ?_)
  exact lX11_loseAllOn_2 hst F hA E hK33 _ x0 x1 (0) hx0 hr (lv_sub hl [1, 2, 0] rfl) h
end SX11_loseAllOn
set_option maxRecDepth 100000 in
theorem okX11_loseAllOn (l : Launch) (D : va_G) (cy : Nat → ClassId) (B : Nat → Nat → Nat) (ids : List (Nat × Nat)) (hst : zSt B ids) (N : Nat) (x0 : Nat) (hx0 : (11, x0) ∈ ids) (x1 : Int32) {z : St} {r : Int32} {z' : St} (hW : zWf ids z) (h : fX11_loseAllOn N x0 x1 z = some (r, z')) : zM l yX11_loseAllOn (zws yX11_loseAllOn cX11_loseAllOn 6 none) rmX11_loseAllOn D cy B ids [.ref (B 11 x0), .int x1] none True z z' :=
  zM_of hst hW (by decide +kernel) (Nat.le_of_ble_eq_true rfl) (fun p e s m args below meth c A ls F hA hret hlocks hr hl => bX11_loseAllOn_0 hst F hA (zEnd_v F hret hlocks) x0 x1 hx0 hr hl h)
abbrev rmX11_putFrame : Room := { frames := 2, cells := 0, slots := 0, locals := 83 }
theorem hdX11_putFrame : yX11_putFrame.cls ≠ "java/lang/invoke/MethodHandle" ∧ yX11_putFrame.cls ≠ "java/lang/invoke/VarHandle" ∧ (parseMethodDescriptor yX11_putFrame.desc).map (fun d => d.parameters.length) = some 5 := by decide +kernel
theorem hroX11_putFrame_X11_hangIn : rmX11_hangIn.frames + 1 ≤ rmX11_putFrame.frames ∧ 8 + (4 + 11) + rmX11_hangIn.locals ≤ rmX11_putFrame.locals := by decide
theorem hroX11_putFrame_X11_stir : rmX11_stir.frames + 1 ≤ rmX11_putFrame.frames ∧ 8 + (1 + 11) + rmX11_stir.locals ≤ rmX11_putFrame.locals := by decide
theorem hroX11_putFrame_X5_nextFate : rmX5_nextFate.frames + 1 ≤ rmX11_putFrame.frames ∧ 8 + (2 + 11) + rmX5_nextFate.locals ≤ rmX11_putFrame.locals := by decide
theorem hroX11_putFrame_X7_copyPart : rmX7_copyPart.frames + 1 ≤ rmX11_putFrame.frames ∧ 8 + (4 + 11) + rmX7_copyPart.locals ≤ rmX11_putFrame.locals := by decide
section SX11_putFrame
variable {p : Program} {l : Launch} {e : Env} {s : State} {m : MethodId} {args : Array Value} {below : List Frame} {meth : Method} {c : Code} {Q : State → Prop} {D : va_G} {cy : Nat → ClassId} {B : Nat → Nat → Nat} {ids : List (Nat × Nat)} {A : Nat → Prop}
def fX11_putFrame_106b (N : Nat) (K106 : Nat → Nat → Int32 → Nat → Int32 → Int32 → Nat → Int32 → Int32 → Int32 → St → Option (Int32 × St)) (x0 : Nat) (x1 : Nat) (x2 : Int32) (x3 : Nat) (x4 : Int32) (x5 : Int32) (x6 : Nat) (x8 : Int32) (x9 : Int32) (x10 : Int32) (z : St) : Option (Int32 × St) := if x8 ≤ x10 then (some (0, z)) else (zl (zgR z 11 11 x0) fun y2 => zo y2 (some (0, z)) fun a4 => zl (zgR z 11 11 x0) fun y5 => zd y5 fun a6 => zl (zgR z 7 14 a6) fun y7 => zl (zsR z 11 11 x0 y7) fun z8 => zc (fX7_copyPart N a6 x3 x4 x5 z8) fun _ z10 => zl (zsI z10 7 12 a6 (zgI z10 5 0 x6)) fun z13 => zl (zsI z13 7 13 a6 (zgI z13 8 3 x1)) fun z14 => zl (zsI z14 7 11 a6 x2) fun z15 => zc (fX11_hangIn N x0 a6 (((zgI z15 11 4 x0) + x9) &&& (255)) z15) fun _ z17 => zl (zsI z17 11 12 x0 ((zgI z17 11 12 x0) + (1))) fun z20 => zl ((3) * (zgI z20 5 2 x6)) fun v21 => zl (x10 + 1) fun v22 => K106 x0 x1 x2 x3 x4 x5 x6 x8 v21 v22 z20)
def fX11_putFrame_106 (N : Nat)  : Nat → Nat → Nat → Int32 → Nat → Int32 → Int32 → Nat → Int32 → Int32 → Int32 → St → Option (Int32 × St)
  | 0 => fun _ _ _ _ _ _ _ _ _ _ _ => none
  | n + 1 => fX11_putFrame_106b N (fX11_putFrame_106 N  n)
set_option maxHeartbeats 4000000 in
set_option maxRecDepth 100000 in
theorem bX11_putFrame_106 (hst : zSt B ids) (F : zFx p m c cX11_putFrame 12 s args RX11 D cy B ids A) (hA : ∀ q : Nat, s.heap.size ≤ q → A q) {r : Int32} {z' : St} (E : zEnd p l e rmX11_putFrame s m args below meth c cX11_putFrame D cy B ids A Q none z' .return_ True) {N : Nat} {K106 : Nat → Nat → Int32 → Nat → Int32 → Int32 → Nat → Int32 → Int32 → Int32 → St → Option (Int32 × St)} (hK106 : ∀ (x0 : Nat) (x1 : Nat) (x2 : Int32) (x3 : Nat) (x4 : Int32) (x5 : Int32) (x6 : Nat) (x8 : Int32) (x9 : Int32) (x10 : Int32) (hx0 : (11, x0) ∈ ids) (hx1 : (8, x1) ∈ ids) (hx3 : (7, x3) ∈ ids) (hx6 : (5, x6) ∈ ids) {z : St} {H : Heap} {locs : List Loc} {ls : Array Slot} (hr : zRep D cy B ids A s.heap z H locs) (hl : lv_has ls 12 [(0, .ref (B 11 x0)), (1, .ref (B 8 x1)), (2, .int x2), (3, .ref (B 7 x3)), (4, .int x4), (5, .int x5), (6, .ref (B 5 x6)), (8, .int x8), (9, .int x9), (10, .int x10)]), K106 x0 x1 x2 x3 x4 x5 x6 x8 x9 x10 z = some (r, z') → W p l e rmX11_putFrame s m args below meth c H locs 0 0 Q (F0 m 106 ls [])) (x0 : Nat) (x1 : Nat) (x2 : Int32) (x3 : Nat) (x4 : Int32) (x5 : Int32) (x6 : Nat) (x8 : Int32) (x9 : Int32) (x10 : Int32) (hx0 : (11, x0) ∈ ids) (hx1 : (8, x1) ∈ ids) (hx3 : (7, x3) ∈ ids) (hx6 : (5, x6) ∈ ids) {z : St} {H : Heap} {locs : List Loc} {ls : Array Slot} (hr : zRep D cy B ids A s.heap z H locs) (hl : lv_has ls 12 [(0, .ref (B 11 x0)), (1, .ref (B 8 x1)), (2, .int x2), (3, .ref (B 7 x3)), (4, .int x4), (5, .int x5), (6, .ref (B 5 x6)), (8, .int x8), (9, .int x9), (10, .int x10)]) (h : fX11_putFrame_106b N K106 x0 x1 x2 x3 x4 x5 x6 x8 x9 x10 z = some (r, z')) : W p l e rmX11_putFrame s m args below meth c H locs 0 0 Q (F0 m 106 ls []) := by
  unfold fX11_putFrame_106b at h
  refine lv_iload F.1 F.2.1 dX11_putFrame_106 (lv_at hl 9 rfl) ?_
  refine lv_iload F.1 F.2.1 dX11_putFrame_108 (lv_at hl 7 rfl) ?_
  refine lv_icmp_ge (tgt := 212) F.1 F.2.1 dX11_putFrame_110 (by decide) (fun c1 => ?_) (fun c1 => ?_)
  · replace h := zi_t c1 h
    obtain ⟨rfl, rfl⟩ := zret h
    exact E _ _ _ _ dX11_putFrame_212 trivial hr
  · replace h := zi_f c1 h
    refine lv_aload_n F.1 F.2.1 dX11_putFrame_113 rfl (lv_at hl 0 rfl) ?_
    refine gf11_55 F hx0 hr dX11_putFrame_114 (fun y2 ey2 => ?_)
    replace h := zl_sub ey2 h
    have hy2 := zal_g hr hx0 (j := 11) rfl ey2
    clear ey2
    refine zr_ifnull (tgt := 212) F.1 F.2.1 dX11_putFrame_117 (by decide) (fun e3 => ?_) (fun a4 e3 => ?_)
    · replace h := zo_n e3 h
      subst e3
      obtain ⟨rfl, rfl⟩ := zret h
      exact E _ _ _ _ dX11_putFrame_212 trivial hr
    · replace h := zo_s e3 h
      subst e3
      refine lv_aload_n F.1 F.2.1 dX11_putFrame_120 rfl (lv_at hl 0 rfl) ?_
      refine gf11_55 F hx0 hr dX11_putFrame_121 (fun y5 ey5 => ?_)
      replace h := zl_sub ey5 h
      have hy5 := zal_g hr hx0 (j := 11) rfl ey5
      clear ey5
      refine zr_astore (lv' := [(11, va_rf (Option.map (B 7) y5)), (0, .ref (B 11 x0)), (1, .ref (B 8 x1)), (2, .int x2), (3, .ref (B 7 x3)), (4, .int x4), (5, .int x5), (6, .ref (B 5 x6)), (8, .int x8), (9, .int x9), (10, .int x10)]) F.1 F.2.1 dX11_putFrame_124 hl (by decide) rfl (fun ls hl => ?_)
      refine lv_aload_n F.1 F.2.1 dX11_putFrame_126 rfl (lv_at hl 1 rfl) ?_
      refine zr_aload F.1 F.2.1 dX11_putFrame_127 (lv_at hl 0 rfl) ?_
      obtain ⟨a6, rfl, h⟩ := zd_some h
      refine gf11_58 F (hy5 _ rfl) hr dX11_putFrame_129 (fun y7 ey7 => ?_)
      replace h := zl_sub ey7 h
      have hy7 := zal_g hr (hy5 _ rfl) (j := 14) rfl ey7
      clear ey7
      refine pf11_55 F hx0 hr dX11_putFrame_132 y7 hy7 (fun H locs z8 ez8 hr => ?_)
      replace h := zl_sub ez8 h
      clear ez8
      refine lv_aload F.1 F.2.1 dX11_putFrame_135 (lv_at hl 0 rfl) ?_
      refine lv_aload_n F.1 F.2.1 dX11_putFrame_137 rfl (lv_at hl 4 rfl) ?_
      refine lv_iload F.1 F.2.1 dX11_putFrame_138 (lv_at hl 5 rfl) ?_
      refine lv_iload F.1 F.2.1 dX11_putFrame_140 (lv_at hl 6 rfl) ?_
      obtain ⟨r9, z10, hc11, h⟩ := zc_some h
      refine zr_callv (zrun_VN (As := [.ref (B 7 x3), .int x4, .int x5]) (rest := []) zn_1071 zq_1073 zs_X7_copyPart zq_1074 zq_2 hdX7_copyPart (by decide) (T := TX7) (N := 20) rfl (okX7_copyPart l D cy B ids hst N a6 (hy5 _ rfl) x3 hx3 x4  x5  hr.2.2 hc11) F hr (hy5 _ rfl) hl.1 rfl (by decide) dX11_putFrame_142 rfl rfl hroX11_putFrame_X7_copyPart ⟨Nat.zero_le _, Nat.zero_le _⟩) F hA hr (fun H locs hx12 hr => ?_)
      clear hc11
      refine lv_aload F.1 F.2.1 dX11_putFrame_145 (lv_at hl 0 rfl) ?_
      refine lv_aload F.1 F.2.1 dX11_putFrame_147 (lv_at hl 7 rfl) ?_
      refine gf11_478 F hx6 hr dX11_putFrame_149 ?_
      refine pf11_501 F (hy5 _ rfl) hr dX11_putFrame_152 (zgI z10 5 0 x6) (fun H locs z13 ez13 hr => ?_)
      replace h := zl_sub ez13 h
      clear ez13
      refine lv_aload F.1 F.2.1 dX11_putFrame_155 (lv_at hl 0 rfl) ?_
      refine lv_aload_n F.1 F.2.1 dX11_putFrame_157 rfl (lv_at hl 2 rfl) ?_
      refine gf11_519 F hx1 hr dX11_putFrame_158 ?_
      refine pf11_522 F (hy5 _ rfl) hr dX11_putFrame_161 (zgI z13 8 3 x1) (fun H locs z14 ez14 hr => ?_)
      replace h := zl_sub ez14 h
      clear ez14
      refine lv_aload F.1 F.2.1 dX11_putFrame_164 (lv_at hl 0 rfl) ?_
      refine lv_iload_n F.1 F.2.1 dX11_putFrame_166 rfl (lv_at hl 3 rfl) ?_
      refine pf11_525 F (hy5 _ rfl) hr dX11_putFrame_167 x2 (fun H locs z15 ez15 hr => ?_)
      replace h := zl_sub ez15 h
      clear ez15
      refine lv_aload_n F.1 F.2.1 dX11_putFrame_170 rfl (lv_at hl 1 rfl) ?_
      refine lv_aload F.1 F.2.1 dX11_putFrame_171 (lv_at hl 0 rfl) ?_
      refine lv_aload_n F.1 F.2.1 dX11_putFrame_173 rfl (lv_at hl 1 rfl) ?_
      refine gf11_176 F hx0 hr dX11_putFrame_174 ?_
      refine lv_iload F.1 F.2.1 dX11_putFrame_177 (lv_at hl 9 rfl) ?_
      refine lv_iadd F.1 F.2.1 dX11_putFrame_179 ?_
      refine lv_sipush (v := (255)) F.1 F.2.1 dX11_putFrame_180 (by decide) ?_
      refine lv_iand F.1 F.2.1 dX11_putFrame_183 ?_
      obtain ⟨r16, z17, hc18, h⟩ := zc_some h
      refine zr_callv (zrun_V (As := [.ref (B 7 a6), .int (((zgI z15 11 4 x0) + x9) &&& (255))]) (rest := []) zq_1008 zq_1010 zs_X11_hangIn zq_1011 zq_1 hdX11_hangIn (by decide) (T := TX11) (N := 21) rfl (okX11_hangIn l D cy B ids hst N x0 hx0 a6 (hy5 _ rfl) (((zgI z15 11 4 x0) + x9) &&& (255))  hr.2.2 hc18) F hr hx0 hl.1 rfl (by decide) dX11_putFrame_184 rfl rfl hroX11_putFrame_X11_hangIn ⟨Nat.zero_le _, Nat.zero_le _⟩) F hA hr (fun H locs hx19 hr => ?_)
      clear hc18
      refine lv_aload_n F.1 F.2.1 dX11_putFrame_187 rfl (lv_at hl 1 rfl) ?_
      refine lv_dup F.1 F.2.1 dX11_putFrame_188 rfl ?_
      refine gf11_442 F hx0 hr dX11_putFrame_189 ?_
      refine lv_iconst (v := (1)) F.1 F.2.1 dX11_putFrame_192 (by decide) ?_
      refine lv_iadd F.1 F.2.1 dX11_putFrame_193 ?_
      refine pf11_442 F hx0 hr dX11_putFrame_194 ((zgI z17 11 12 x0) + (1)) (fun H locs z20 ez20 hr => ?_)
      replace h := zl_sub ez20 h
      clear ez20
      refine lv_iconst (v := (3)) F.1 F.2.1 dX11_putFrame_197 (by decide) ?_
      refine lv_aload F.1 F.2.1 dX11_putFrame_198 (lv_at hl 7 rfl) ?_
      refine gf11_93 F hx6 hr dX11_putFrame_200 ?_
      refine lv_imul F.1 F.2.1 dX11_putFrame_203 ?_
      refine lv_topi (fun v21 ev21 => ?_)
      replace h := zl_sub ev21 h
      refine lv_istore (lv' := [(9, .int v21), (11, .ref (B 7 a6)), (0, .ref (B 11 x0)), (1, .ref (B 8 x1)), (2, .int x2), (3, .ref (B 7 x3)), (4, .int x4), (5, .int x5), (6, .ref (B 5 x6)), (8, .int x8), (10, .int x10)]) F.1 F.2.1 dX11_putFrame_204 hl (by decide) rfl (fun ls hl => ?_)
      obtain ⟨v22, ev22⟩ : ∃ y : Int32, y = (x10 + 1) := ⟨_, rfl⟩
      replace h := zl_sub ev22 h
      refine lv_iinc (v := v22) (lv' := [(10, .int v22), (9, .int v21), (11, .ref (B 7 a6)), (0, .ref (B 11 x0)), (1, .ref (B 8 x1)), (2, .int x2), (3, .ref (B 7 x3)), (4, .int x4), (5, .int x5), (6, .ref (B 5 x6)), (8, .int x8)]) F.1 F.2.1 dX11_putFrame_206 hl (k := 10) rfl (by rw [ev22]; rfl) (by decide) rfl (fun ls hl => ?_)
      refine lv_goto (tgt := 106) F.1 F.2.1 dX11_putFrame_209 (by decide) ?_
      exact hK106 x0 x1 x2 x3 x4 x5 x6 x8 v21 v22 hx0 hx1 hx3 hx6 hr (lv_sub hl [3, 4, 5, 6, 7, 8, 9, 10, 1, 0] rfl) h
theorem lX11_putFrame_106 (hst : zSt B ids) (F : zFx p m c cX11_putFrame 12 s args RX11 D cy B ids A) (hA : ∀ q : Nat, s.heap.size ≤ q → A q) {r : Int32} {z' : St} (E : zEnd p l e rmX11_putFrame s m args below meth c cX11_putFrame D cy B ids A Q none z' .return_ True) {N : Nat}  : ∀ (n : Nat) (x0 : Nat) (x1 : Nat) (x2 : Int32) (x3 : Nat) (x4 : Int32) (x5 : Int32) (x6 : Nat) (x8 : Int32) (x9 : Int32) (x10 : Int32) (hx0 : (11, x0) ∈ ids) (hx1 : (8, x1) ∈ ids) (hx3 : (7, x3) ∈ ids) (hx6 : (5, x6) ∈ ids) {z : St} {H : Heap} {locs : List Loc} {ls : Array Slot} (hr : zRep D cy B ids A s.heap z H locs) (hl : lv_has ls 12 [(0, .ref (B 11 x0)), (1, .ref (B 8 x1)), (2, .int x2), (3, .ref (B 7 x3)), (4, .int x4), (5, .int x5), (6, .ref (B 5 x6)), (8, .int x8), (9, .int x9), (10, .int x10)]), fX11_putFrame_106 N  n x0 x1 x2 x3 x4 x5 x6 x8 x9 x10 z = some (r, z') → W p l e rmX11_putFrame s m args below meth c H locs 0 0 Q (F0 m 106 ls []) := by
  intro n
  induction n with
  | zero => intro x0 x1 x2 x3 x4 x5 x6 x8 x9 x10 hx0 hx1 hx3 hx6 z H locs ls hr hl h; cases h
  | succ n ih => intro x0 x1 x2 x3 x4 x5 x6 x8 x9 x10 hx0 hx1 hx3 hx6 z H locs ls hr hl h; exact bX11_putFrame_106 hst F hA E ih x0 x1 x2 x3 x4 x5 x6 x8 x9 x10 hx0 hx1 hx3 hx6 hr hl h
def fX11_putFrame_101 (N : Nat)  (x0 : Nat) (x1 : Nat) (x2 : Int32) (x3 : Nat) (x4 : Int32) (x5 : Int32) (x6 : Nat) (x8 : Int32) (s0 : Int32) (z : St) : Option (Int32 × St) := fX11_putFrame_106 N N x0 x1 x2 x3 x4 x5 x6 x8 s0 (0) z
set_option maxHeartbeats 4000000 in
set_option maxRecDepth 100000 in
theorem bX11_putFrame_101 (hst : zSt B ids) (F : zFx p m c cX11_putFrame 12 s args RX11 D cy B ids A) (hA : ∀ q : Nat, s.heap.size ≤ q → A q) {r : Int32} {z' : St} (E : zEnd p l e rmX11_putFrame s m args below meth c cX11_putFrame D cy B ids A Q none z' .return_ True) {N : Nat}  (x0 : Nat) (x1 : Nat) (x2 : Int32) (x3 : Nat) (x4 : Int32) (x5 : Int32) (x6 : Nat) (x8 : Int32) (s0 : Int32) (hx0 : (11, x0) ∈ ids) (hx1 : (8, x1) ∈ ids) (hx3 : (7, x3) ∈ ids) (hx6 : (5, x6) ∈ ids) {z : St} {H : Heap} {locs : List Loc} {ls : Array Slot} (hr : zRep D cy B ids A s.heap z H locs) (hl : lv_has ls 12 [(0, .ref (B 11 x0)), (1, .ref (B 8 x1)), (2, .int x2), (3, .ref (B 7 x3)), (4, .int x4), (5, .int x5), (6, .ref (B 5 x6)), (8, .int x8)]) (h : fX11_putFrame_101 N x0 x1 x2 x3 x4 x5 x6 x8 s0 z = some (r, z')) : W p l e rmX11_putFrame s m args below meth c H locs 0 0 Q (F0 m 101 ls [.int s0]) := by
  unfold fX11_putFrame_101 at h
  refine lv_istore (lv' := [(9, .int s0), (0, .ref (B 11 x0)), (1, .ref (B 8 x1)), (2, .int x2), (3, .ref (B 7 x3)), (4, .int x4), (5, .int x5), (6, .ref (B 5 x6)), (8, .int x8)]) F.1 F.2.1 dX11_putFrame_101 hl (by decide) rfl (fun ls hl => ?_)
  refine lv_iconst (v := (0)) F.1 F.2.1 dX11_putFrame_103 (by decide) ?_
  refine lv_istore (lv' := [(10, .int (0)), (9, .int s0), (0, .ref (B 11 x0)), (1, .ref (B 8 x1)), (2, .int x2), (3, .ref (B 7 x3)), (4, .int x4), (5, .int x5), (6, .ref (B 5 x6)), (8, .int x8)]) F.1 F.2.1 dX11_putFrame_104 hl (by decide) rfl (fun ls hl => ?_)
  exact lX11_putFrame_106 hst F hA E  _ x0 x1 x2 x3 x4 x5 x6 x8 s0 (0) hx0 hx1 hx3 hx6 hr (lv_sub hl [2, 3, 4, 5, 6, 7, 8, 9, 1, 0] rfl) h
def fX11_putFrame_60 (N : Nat)  (x0 : Nat) (x1 : Nat) (x2 : Int32) (x3 : Nat) (x4 : Int32) (x5 : Int32) (x6 : Nat) (x7 : Int32) (s0 : Int32) (z : St) : Option (Int32 × St) := if ((zgI z 11 12 x0) + s0) ≤ (512) then (if ¬ x7 = (3) then (fX11_putFrame_101 N x0 x1 x2 x3 x4 x5 x6 s0 (zgI z 5 2 x6) z) else (fX11_putFrame_101 N x0 x1 x2 x3 x4 x5 x6 s0 ((4) * (zgI z 5 2 x6)) z)) else (zc (fX11_stir N x0 z) fun _ z4 => some (0, z4))
set_option maxHeartbeats 4000000 in
set_option maxRecDepth 100000 in
theorem bX11_putFrame_60 (hst : zSt B ids) (F : zFx p m c cX11_putFrame 12 s args RX11 D cy B ids A) (hA : ∀ q : Nat, s.heap.size ≤ q → A q) {r : Int32} {z' : St} (E : zEnd p l e rmX11_putFrame s m args below meth c cX11_putFrame D cy B ids A Q none z' .return_ True) {N : Nat}  (x0 : Nat) (x1 : Nat) (x2 : Int32) (x3 : Nat) (x4 : Int32) (x5 : Int32) (x6 : Nat) (x7 : Int32) (s0 : Int32) (hx0 : (11, x0) ∈ ids) (hx1 : (8, x1) ∈ ids) (hx3 : (7, x3) ∈ ids) (hx6 : (5, x6) ∈ ids) {z : St} {H : Heap} {locs : List Loc} {ls : Array Slot} (hr : zRep D cy B ids A s.heap z H locs) (hl : lv_has ls 12 [(0, .ref (B 11 x0)), (1, .ref (B 8 x1)), (2, .int x2), (3, .ref (B 7 x3)), (4, .int x4), (5, .int x5), (6, .ref (B 5 x6)), (7, .int x7)]) (h : fX11_putFrame_60 N x0 x1 x2 x3 x4 x5 x6 x7 s0 z = some (r, z')) : W p l e rmX11_putFrame s m args below meth c H locs 0 0 Q (F0 m 60 ls [.int s0]) := by
  unfold fX11_putFrame_60 at h
  refine lv_istore (lv' := [(8, .int s0), (0, .ref (B 11 x0)), (1, .ref (B 8 x1)), (2, .int x2), (3, .ref (B 7 x3)), (4, .int x4), (5, .int x5), (6, .ref (B 5 x6)), (7, .int x7)]) F.1 F.2.1 dX11_putFrame_60 hl (by decide) rfl (fun ls hl => ?_)
  refine lv_aload_n F.1 F.2.1 dX11_putFrame_62 rfl (lv_at hl 1 rfl) ?_
  refine gf11_442 F hx0 hr dX11_putFrame_63 ?_
  refine lv_iload F.1 F.2.1 dX11_putFrame_66 (lv_at hl 0 rfl) ?_
  refine lv_iadd F.1 F.2.1 dX11_putFrame_68 ?_
  refine lv_sipush (v := (512)) F.1 F.2.1 dX11_putFrame_69 (by decide) ?_
  refine lv_icmp_le (tgt := 80) F.1 F.2.1 dX11_putFrame_72 (by decide) (fun c1 => ?_) (fun c1 => ?_)
  · replace h := zi_t c1 h
    refine lv_iload F.1 F.2.1 dX11_putFrame_80 (lv_at hl 8 rfl) ?_
    refine lv_iconst (v := (3)) F.1 F.2.1 dX11_putFrame_82 (by decide) ?_
    refine lv_icmp_ne (tgt := 96) F.1 F.2.1 dX11_putFrame_83 (by decide) (fun c2 => ?_) (fun c2 => ?_)
    · replace h := zi_t c2 h
      refine lv_aload F.1 F.2.1 dX11_putFrame_96 (lv_at hl 7 rfl) ?_
      refine gf11_93 F hx6 hr dX11_putFrame_98 ?_
      exact bX11_putFrame_101 hst F hA E  x0 x1 x2 x3 x4 x5 x6 s0 (zgI z 5 2 x6) hx0 hx1 hx3 hx6 hr (lv_sub hl [1, 2, 3, 4, 5, 6, 7, 0] rfl) h
    · replace h := zi_f (fun q => q c2) h
      refine lv_iconst (v := (4)) F.1 F.2.1 dX11_putFrame_86 (by decide) ?_
      refine lv_aload F.1 F.2.1 dX11_putFrame_87 (lv_at hl 7 rfl) ?_
      refine gf11_93 F hx6 hr dX11_putFrame_89 ?_
      refine lv_imul F.1 F.2.1 dX11_putFrame_92 ?_
      refine lv_goto (tgt := 101) F.1 F.2.1 dX11_putFrame_93 (by decide) ?_
      exact bX11_putFrame_101 hst F hA E  x0 x1 x2 x3 x4 x5 x6 s0 ((4) * (zgI z 5 2 x6)) hx0 hx1 hx3 hx6 hr (lv_sub hl [1, 2, 3, 4, 5, 6, 7, 0] rfl) h
  · replace h := zi_f c1 h
    refine lv_aload_n F.1 F.2.1 dX11_putFrame_75 rfl (lv_at hl 1 rfl) ?_
    obtain ⟨r3, z4, hc5, h⟩ := zc_some h
    refine zr_callv (zrun_V (As := []) (rest := []) zq_858 zq_860 zs_X11_stir zq_861 zq_1 hdX11_stir (by decide) (T := TX11) (N := 21) rfl (okX11_stir l D cy B ids hst N x0 hx0 hr.2.2 hc5) F hr hx0 hl.1 rfl (by decide) dX11_putFrame_76 rfl rfl hroX11_putFrame_X11_stir ⟨Nat.zero_le _, Nat.zero_le _⟩) F hA hr (fun H locs hx6 hr => ?_)
    clear hc5
    obtain ⟨rfl, rfl⟩ := zret h
    exact E _ _ _ _ dX11_putFrame_79 trivial hr
def fX11_putFrame_42 (N : Nat)  (x0 : Nat) (x1 : Nat) (x2 : Int32) (x3 : Nat) (x4 : Int32) (x5 : Int32) (x6 : Nat) (x7 : Int32) (z : St) : Option (Int32 × St) := if ¬ x7 = (1) then (if ¬ x7 = (2) then (fX11_putFrame_60 N x0 x1 x2 x3 x4 x5 x6 x7 (1) z) else (fX11_putFrame_60 N x0 x1 x2 x3 x4 x5 x6 x7 (2) z)) else (some (0, z))
set_option maxHeartbeats 4000000 in
set_option maxRecDepth 100000 in
theorem bX11_putFrame_42 (hst : zSt B ids) (F : zFx p m c cX11_putFrame 12 s args RX11 D cy B ids A) (hA : ∀ q : Nat, s.heap.size ≤ q → A q) {r : Int32} {z' : St} (E : zEnd p l e rmX11_putFrame s m args below meth c cX11_putFrame D cy B ids A Q none z' .return_ True) {N : Nat}  (x0 : Nat) (x1 : Nat) (x2 : Int32) (x3 : Nat) (x4 : Int32) (x5 : Int32) (x6 : Nat) (x7 : Int32) (hx0 : (11, x0) ∈ ids) (hx1 : (8, x1) ∈ ids) (hx3 : (7, x3) ∈ ids) (hx6 : (5, x6) ∈ ids) {z : St} {H : Heap} {locs : List Loc} {ls : Array Slot} (hr : zRep D cy B ids A s.heap z H locs) (hl : lv_has ls 12 [(0, .ref (B 11 x0)), (1, .ref (B 8 x1)), (2, .int x2), (3, .ref (B 7 x3)), (4, .int x4), (5, .int x5), (6, .ref (B 5 x6)), (7, .int x7)]) (h : fX11_putFrame_42 N x0 x1 x2 x3 x4 x5 x6 x7 z = some (r, z')) : W p l e rmX11_putFrame s m args below meth c H locs 0 0 Q (F0 m 42 ls []) := by
  unfold fX11_putFrame_42 at h
  refine lv_iload F.1 F.2.1 dX11_putFrame_42 (lv_at hl 7 rfl) ?_
  refine lv_iconst (v := (1)) F.1 F.2.1 dX11_putFrame_44 (by decide) ?_
  refine lv_icmp_ne (tgt := 49) F.1 F.2.1 dX11_putFrame_45 (by decide) (fun c1 => ?_) (fun c1 => ?_)
  · replace h := zi_t c1 h
    refine lv_iload F.1 F.2.1 dX11_putFrame_49 (lv_at hl 7 rfl) ?_
    refine lv_iconst (v := (2)) F.1 F.2.1 dX11_putFrame_51 (by decide) ?_
    refine lv_icmp_ne (tgt := 59) F.1 F.2.1 dX11_putFrame_52 (by decide) (fun c2 => ?_) (fun c2 => ?_)
    · replace h := zi_t c2 h
      refine lv_iconst (v := (1)) F.1 F.2.1 dX11_putFrame_59 (by decide) ?_
      exact bX11_putFrame_60 hst F hA E  x0 x1 x2 x3 x4 x5 x6 x7 (1) hx0 hx1 hx3 hx6 hr (lv_sub hl [0, 1, 2, 3, 4, 5, 6, 7] rfl) h
    · replace h := zi_f (fun q => q c2) h
      refine lv_iconst (v := (2)) F.1 F.2.1 dX11_putFrame_55 (by decide) ?_
      refine lv_goto (tgt := 60) F.1 F.2.1 dX11_putFrame_56 (by decide) ?_
      exact bX11_putFrame_60 hst F hA E  x0 x1 x2 x3 x4 x5 x6 x7 (2) hx0 hx1 hx3 hx6 hr (lv_sub hl [0, 1, 2, 3, 4, 5, 6, 7] rfl) h
  · replace h := zi_f (fun q => q c1) h
    obtain ⟨rfl, rfl⟩ := zret h
    exact E _ _ _ _ dX11_putFrame_48 trivial hr
def fX11_putFrame (N : Nat)  (x0 : Nat) (x1 : Nat) (x2 : Int32) (x3 : Nat) (x4 : Int32) (x5 : Int32) (z : St) : Option (Int32 × St) := zl (zgR z 8 1 x1) fun y1 => zd y1 fun a2 => zl (zsI z 5 9 a2 ((zgI z 5 9 a2) + (1))) fun z3 => if ¬ (zgI z3 5 3 a2) = 0 then (zc (fX5_nextFate N a2 z3) fun r5 z6 => if r5 = 0 then (fX11_putFrame_42 N x0 x1 x2 x3 x4 x5 a2 r5 z6) else (zc (fX11_stir N x0 z6) fun _ z11 => fX11_putFrame_42 N x0 x1 x2 x3 x4 x5 a2 r5 z11)) else (some (0, z3))
set_option maxHeartbeats 4000000 in
set_option maxRecDepth 100000 in
theorem bX11_putFrame_0 (hst : zSt B ids) (F : zFx p m c cX11_putFrame 12 s args RX11 D cy B ids A) (hA : ∀ q : Nat, s.heap.size ≤ q → A q) {r : Int32} {z' : St} (E : zEnd p l e rmX11_putFrame s m args below meth c cX11_putFrame D cy B ids A Q none z' .return_ True) {N : Nat}  (x0 : Nat) (x1 : Nat) (x2 : Int32) (x3 : Nat) (x4 : Int32) (x5 : Int32) (hx0 : (11, x0) ∈ ids) (hx1 : (8, x1) ∈ ids) (hx3 : (7, x3) ∈ ids) {z : St} {H : Heap} {locs : List Loc} {ls : Array Slot} (hr : zRep D cy B ids A s.heap z H locs) (hl : lv_has ls 12 [(0, .ref (B 11 x0)), (1, .ref (B 8 x1)), (2, .int x2), (3, .ref (B 7 x3)), (4, .int x4), (5, .int x5)]) (h : fX11_putFrame N x0 x1 x2 x3 x4 x5 z = some (r, z')) : W p l e rmX11_putFrame s m args below meth c H locs 0 0 Q (F0 m 0 ls []) := by
  unfold fX11_putFrame at h
  refine lv_aload_n F.1 F.2.1 dX11_putFrame_0 rfl (lv_at hl 1 rfl) ?_
  refine gf11_261 F hx1 hr dX11_putFrame_1 (fun y1 ey1 => ?_)
  replace h := zl_sub ey1 h
  have hy1 := zal_g hr hx1 (j := 1) rfl ey1
  clear ey1
  refine zr_astore (lv' := [(6, va_rf (Option.map (B 5) y1)), (0, .ref (B 11 x0)), (1, .ref (B 8 x1)), (2, .int x2), (3, .ref (B 7 x3)), (4, .int x4), (5, .int x5)]) F.1 F.2.1 dX11_putFrame_4 hl (by decide) rfl (fun ls hl => ?_)
  refine zr_aload F.1 F.2.1 dX11_putFrame_6 (lv_at hl 0 rfl) ?_
  refine lv_dup F.1 F.2.1 dX11_putFrame_8 zrf_cat ?_
  obtain ⟨a2, rfl, h⟩ := zd_some h
  refine gf11_431 F (hy1 _ rfl) hr dX11_putFrame_9 ?_
  refine lv_iconst (v := (1)) F.1 F.2.1 dX11_putFrame_12 (by decide) ?_
  refine lv_iadd F.1 F.2.1 dX11_putFrame_13 ?_
  refine pf11_431 F (hy1 _ rfl) hr dX11_putFrame_14 ((zgI z 5 9 a2) + (1)) (fun H locs z3 ez3 hr => ?_)
  replace h := zl_sub ez3 h
  clear ez3
  refine lv_aload F.1 F.2.1 dX11_putFrame_17 (lv_at hl 0 rfl) ?_
  refine gf11_158 F (hy1 _ rfl) hr dX11_putFrame_19 ?_
  refine lv_if_ne (tgt := 26) F.1 F.2.1 dX11_putFrame_22 (by decide) (fun c4 => ?_) (fun c4 => ?_)
  · replace h := zi_t c4 h
    refine lv_aload F.1 F.2.1 dX11_putFrame_26 (lv_at hl 0 rfl) ?_
    obtain ⟨r5, z6, hc7, h⟩ := zc_some h
    refine zr_calli (zrun_VN (As := []) (rest := []) zn_1067 zq_1069 zs_X5_nextFate zq_1070 zq_3 hdX5_nextFate (by decide) (T := TX5) (N := 11) rfl (okX5_nextFate l D cy B ids hst N a2 (hy1 _ rfl) hr.2.2 hc7) F hr (hy1 _ rfl) hl.1 rfl (by decide) dX11_putFrame_28 rfl rfl hroX11_putFrame_X5_nextFate ⟨Nat.zero_le _, Nat.zero_le _⟩) F hA hr (fun H locs hx8 hr => ?_)
    clear hc7
    refine lv_istore (lv' := [(7, .int r5), (6, .ref (B 5 a2)), (0, .ref (B 11 x0)), (1, .ref (B 8 x1)), (2, .int x2), (3, .ref (B 7 x3)), (4, .int x4), (5, .int x5)]) F.1 F.2.1 dX11_putFrame_31 hl (by decide) rfl (fun ls hl => ?_)
    refine lv_iload F.1 F.2.1 dX11_putFrame_33 (lv_at hl 0 rfl) ?_
    refine lv_if_eq (tgt := 42) F.1 F.2.1 dX11_putFrame_35 (by decide) (fun c9 => ?_) (fun c9 => ?_)
    · replace h := zi_t c9 h
      exact bX11_putFrame_42 hst F hA E  x0 x1 x2 x3 x4 x5 a2 r5 hx0 hx1 hx3 (hy1 _ rfl) hr (lv_sub hl [2, 3, 4, 5, 6, 7, 1, 0] rfl) h
    · replace h := zi_f c9 h
      refine lv_aload_n F.1 F.2.1 dX11_putFrame_38 rfl (lv_at hl 2 rfl) ?_
      obtain ⟨r10, z11, hc12, h⟩ := zc_some h
      refine zr_callv (zrun_V (As := []) (rest := []) zq_858 zq_860 zs_X11_stir zq_861 zq_1 hdX11_stir (by decide) (T := TX11) (N := 21) rfl (okX11_stir l D cy B ids hst N x0 hx0 hr.2.2 hc12) F hr hx0 hl.1 rfl (by decide) dX11_putFrame_39 rfl rfl hroX11_putFrame_X11_stir ⟨Nat.zero_le _, Nat.zero_le _⟩) F hA hr (fun H locs hx13 hr => ?_)
      clear hc12
      exact bX11_putFrame_42 hst F hA E  x0 x1 x2 x3 x4 x5 a2 r5 hx0 hx1 hx3 (hy1 _ rfl) hr (lv_sub hl [2, 3, 4, 5, 6, 7, 1, 0] rfl) h
  · replace h := zi_f (fun q => q c4) h
    obtain ⟨rfl, rfl⟩ := zret h
    exact E _ _ _ _ dX11_putFrame_25 trivial hr
end SX11_putFrame
set_option maxRecDepth 100000 in
theorem okX11_putFrame (l : Launch) (D : va_G) (cy : Nat → ClassId) (B : Nat → Nat → Nat) (ids : List (Nat × Nat)) (hst : zSt B ids) (N : Nat) (x0 : Nat) (hx0 : (11, x0) ∈ ids) (x1 : Nat) (hx1 : (8, x1) ∈ ids) (x2 : Int32) (x3 : Nat) (hx3 : (7, x3) ∈ ids) (x4 : Int32) (x5 : Int32) {z : St} {r : Int32} {z' : St} (hW : zWf ids z) (h : fX11_putFrame N x0 x1 x2 x3 x4 x5 z = some (r, z')) : zM l yX11_putFrame (zws yX11_putFrame cX11_putFrame 12 none) rmX11_putFrame D cy B ids [.ref (B 11 x0), .ref (B 8 x1), .int x2, .ref (B 7 x3), .int x4, .int x5] none True z z' :=
  zM_of hst hW (by decide +kernel) (Nat.le_of_ble_eq_true rfl) (fun p e s m args below meth c A ls F hA hret hlocks hr hl => bX11_putFrame_0 hst F hA (zEnd_v F hret hlocks) x0 x1 x2 x3 x4 x5 hx0 hx1 hx3 hr hl h)
