abbrev rmX11_costFromAbove : Room := { frames := 1, cells := 0, slots := 0, locals := 60 }
theorem hdX11_costFromAbove : yX11_costFromAbove.cls ≠ "java/lang/invoke/MethodHandle" ∧ yX11_costFromAbove.cls ≠ "java/lang/invoke/VarHandle" ∧ (parseMethodDescriptor yX11_costFromAbove.desc).map (fun d => d.parameters.length) = some 2 := by decide +kernel
theorem hroX11_costFromAbove_X11_spreadReach : rmX11_spreadReach.frames + 1 ≤ rmX11_costFromAbove.frames ∧ 8 + (8 + 11) + rmX11_spreadReach.locals ≤ rmX11_costFromAbove.locals := by decide
theorem hroX11_costFromAbove_X1_portOn : rmX1_portOn.frames + 1 ≤ rmX11_costFromAbove.frames ∧ 8 + (3 + 11) + rmX1_portOn.locals ≤ rmX11_costFromAbove.locals := by decide
section SX11_costFromAbove
variable {p : Program} {l : Launch} {e : Env} {s : State} {m : MethodId} {args : Array Value} {below : List Frame} {meth : Method} {c : Code} {Q : State → Prop} {D : va_G} {cy : Nat → ClassId} {B : Nat → Nat → Nat} {ids : List (Nat × Nat)} {A : Nat → Prop}
def fX11_costFromAbove_126 (N : Nat) (K69 : Nat → Nat → Int32 → Int32 → St → Option (Int32 × St)) (K87 : Nat → Nat → Int32 → Int32 → Int32 → St → Option (Int32 × St)) (x0 : Nat) (x2 : Nat) (x4 : Int32) (x5 : Int32) (x6 : Int32) (z : St) : Option (Int32 × St) := zl (x6 + 1) fun v1 => K87 x0 x2 x4 x5 v1 z
set_option maxHeartbeats 4000000 in
set_option maxRecDepth 100000 in
theorem bX11_costFromAbove_126 (hst : zSt B ids) (F : zFx p m c cX11_costFromAbove 8 s args RX11 D cy B ids A) (hA : ∀ q : Nat, s.heap.size ≤ q → A q) {r : Int32} {z' : St} (E : zEnd p l e rmX11_costFromAbove s m args below meth c cX11_costFromAbove D cy B ids A Q (some (.int r)) z' .ireturn True) {N : Nat} {K69 : Nat → Nat → Int32 → Int32 → St → Option (Int32 × St)} {K87 : Nat → Nat → Int32 → Int32 → Int32 → St → Option (Int32 × St)} (hK69 : ∀ (x0 : Nat) (x2 : Nat) (x4 : Int32) (x5 : Int32) (hx0 : (11, x0) ∈ ids) (hx2 : (5, x2) ∈ ids) {z : St} {H : Heap} {locs : List Loc} {ls : Array Slot} (hr : zRep D cy B ids A s.heap z H locs) (hl : lv_has ls 8 [(0, .ref (B 11 x0)), (2, .ref (B 5 x2)), (4, .int x4), (5, .int x5)]), K69 x0 x2 x4 x5 z = some (r, z') → W p l e rmX11_costFromAbove s m args below meth c H locs 0 0 Q (F0 m 69 ls [])) (hK87 : ∀ (x0 : Nat) (x2 : Nat) (x4 : Int32) (x5 : Int32) (x6 : Int32) (hx0 : (11, x0) ∈ ids) (hx2 : (5, x2) ∈ ids) {z : St} {H : Heap} {locs : List Loc} {ls : Array Slot} (hr : zRep D cy B ids A s.heap z H locs) (hl : lv_has ls 8 [(0, .ref (B 11 x0)), (2, .ref (B 5 x2)), (4, .int x4), (5, .int x5), (6, .int x6)]), K87 x0 x2 x4 x5 x6 z = some (r, z') → W p l e rmX11_costFromAbove s m args below meth c H locs 0 0 Q (F0 m 87 ls [])) (x0 : Nat) (x2 : Nat) (x4 : Int32) (x5 : Int32) (x6 : Int32) (hx0 : (11, x0) ∈ ids) (hx2 : (5, x2) ∈ ids) {z : St} {H : Heap} {locs : List Loc} {ls : Array Slot} (hr : zRep D cy B ids A s.heap z H locs) (hl : lv_has ls 8 [(0, .ref (B 11 x0)), (2, .ref (B 5 x2)), (4, .int x4), (5, .int x5), (6, .int x6)]) (h : fX11_costFromAbove_126 N K69 K87 x0 x2 x4 x5 x6 z = some (r, z')) : W p l e rmX11_costFromAbove s m args below meth c H locs 0 0 Q (F0 m 126 ls []) := by
  unfold fX11_costFromAbove_126 at h
  obtain ⟨v1, ev1⟩ : ∃ y : Int32, y = (x6 + 1) := ⟨_, rfl⟩
  replace h := zl_sub ev1 h
  refine lv_iinc (v := v1) (lv' := [(6, .int v1), (0, .ref (B 11 x0)), (2, .ref (B 5 x2)), (4, .int x4), (5, .int x5)]) F.1 F.2.1 dX11_costFromAbove_126 hl (k := 4) rfl (by rw [ev1]; rfl) (by decide) rfl (fun ls hl => ?_)
  refine lv_goto (tgt := 87) F.1 F.2.1 dX11_costFromAbove_129 (by decide) ?_
  exact hK87 x0 x2 x4 x5 v1 hx0 hx2 hr (lv_sub hl [1, 2, 3, 4, 0] rfl) h
def fX11_costFromAbove_87b (N : Nat) (K69 : Nat → Nat → Int32 → Int32 → St → Option (Int32 × St)) (K87 : Nat → Nat → Int32 → Int32 → Int32 → St → Option (Int32 × St)) (x0 : Nat) (x2 : Nat) (x4 : Int32) (x5 : Int32) (x6 : Int32) (z : St) : Option (Int32 × St) := if (zgI z 11 3 x0) ≤ x6 then (zl (x5 + 1) fun v2 => K69 x0 x2 x4 v2 z) else (zk x6 16 <| if (zgA z 146 x0 (Int32.toNatClampNeg x6)) = (1000000000 : Int32) then (fX11_costFromAbove_126 N K69 K87 x0 x2 x4 x5 x6 z) else (zk x6 16 <| zl (zgQ z 140 x0 (Int32.toNatClampNeg x6)) fun y6 => zd y6 fun a7 => zc (fX11_spreadReach N x0 a7 z) fun r8 z9 => if r8 = 0 then (fX11_costFromAbove_126 N K69 K87 x0 x2 x4 x5 x6 z9) else (fX11_costFromAbove_126 N K69 K87 x0 x2 (1 : Int32) x5 x6 z9)))
def fX11_costFromAbove_87 (N : Nat) (K69 : Nat → Nat → Int32 → Int32 → St → Option (Int32 × St)) : Nat → Nat → Nat → Int32 → Int32 → Int32 → St → Option (Int32 × St)
  | 0 => fun _ _ _ _ _ _ => none
  | n + 1 => fX11_costFromAbove_87b N K69 (fX11_costFromAbove_87 N K69 n)
set_option maxHeartbeats 4000000 in
set_option maxRecDepth 100000 in
theorem bX11_costFromAbove_87 (hst : zSt B ids) (F : zFx p m c cX11_costFromAbove 8 s args RX11 D cy B ids A) (hA : ∀ q : Nat, s.heap.size ≤ q → A q) {r : Int32} {z' : St} (E : zEnd p l e rmX11_costFromAbove s m args below meth c cX11_costFromAbove D cy B ids A Q (some (.int r)) z' .ireturn True) {N : Nat} {K69 : Nat → Nat → Int32 → Int32 → St → Option (Int32 × St)} {K87 : Nat → Nat → Int32 → Int32 → Int32 → St → Option (Int32 × St)} (hK69 : ∀ (x0 : Nat) (x2 : Nat) (x4 : Int32) (x5 : Int32) (hx0 : (11, x0) ∈ ids) (hx2 : (5, x2) ∈ ids) {z : St} {H : Heap} {locs : List Loc} {ls : Array Slot} (hr : zRep D cy B ids A s.heap z H locs) (hl : lv_has ls 8 [(0, .ref (B 11 x0)), (2, .ref (B 5 x2)), (4, .int x4), (5, .int x5)]), K69 x0 x2 x4 x5 z = some (r, z') → W p l e rmX11_costFromAbove s m args below meth c H locs 0 0 Q (F0 m 69 ls [])) (hK87 : ∀ (x0 : Nat) (x2 : Nat) (x4 : Int32) (x5 : Int32) (x6 : Int32) (hx0 : (11, x0) ∈ ids) (hx2 : (5, x2) ∈ ids) {z : St} {H : Heap} {locs : List Loc} {ls : Array Slot} (hr : zRep D cy B ids A s.heap z H locs) (hl : lv_has ls 8 [(0, .ref (B 11 x0)), (2, .ref (B 5 x2)), (4, .int x4), (5, .int x5), (6, .int x6)]), K87 x0 x2 x4 x5 x6 z = some (r, z') → W p l e rmX11_costFromAbove s m args below meth c H locs 0 0 Q (F0 m 87 ls [])) (x0 : Nat) (x2 : Nat) (x4 : Int32) (x5 : Int32) (x6 : Int32) (hx0 : (11, x0) ∈ ids) (hx2 : (5, x2) ∈ ids) {z : St} {H : Heap} {locs : List Loc} {ls : Array Slot} (hr : zRep D cy B ids A s.heap z H locs) (hl : lv_has ls 8 [(0, .ref (B 11 x0)), (2, .ref (B 5 x2)), (4, .int x4), (5, .int x5), (6, .int x6)]) (h : fX11_costFromAbove_87b N K69 K87 x0 x2 x4 x5 x6 z = some (r, z')) : W p l e rmX11_costFromAbove s m args below meth c H locs 0 0 Q (F0 m 87 ls []) := by
  unfold fX11_costFromAbove_87b at h
  refine lv_iload F.1 F.2.1 dX11_costFromAbove_87 (lv_at hl 4 rfl) ?_
  refine lv_aload_n F.1 F.2.1 dX11_costFromAbove_89 rfl (lv_at hl 0 rfl) ?_
  refine gf11_61 F hx0 hr dX11_costFromAbove_90 ?_
  refine lv_icmp_ge (tgt := 132) F.1 F.2.1 dX11_costFromAbove_93 (by decide) (fun c1 => ?_) (fun c1 => ?_)
  · replace h := zi_t c1 h
    obtain ⟨v2, ev2⟩ : ∃ y : Int32, y = (x5 + 1) := ⟨_, rfl⟩
    replace h := zl_sub ev2 h
    refine lv_iinc (v := v2) (lv' := [(5, .int v2), (0, .ref (B 11 x0)), (2, .ref (B 5 x2)), (4, .int x4), (6, .int x6)]) F.1 F.2.1 dX11_costFromAbove_132 hl (k := 3) rfl (by rw [ev2]; rfl) (by decide) rfl (fun ls hl => ?_)
    refine lv_goto (tgt := 69) F.1 F.2.1 dX11_costFromAbove_135 (by decide) ?_
    exact hK69 x0 x2 x4 v2 hx0 hx2 hr (lv_sub hl [1, 2, 3, 0] rfl) h
  · replace h := zi_f c1 h
    refine lv_aload_n F.1 F.2.1 dX11_costFromAbove_96 rfl (lv_at hl 0 rfl) ?_
    refine gf11_49 F hx0 hr dX11_costFromAbove_97 ?_
    refine lv_iload F.1 F.2.1 dX11_costFromAbove_100 (lv_at hl 4 rfl) ?_
    replace h := zk_some h
    obtain ⟨c3, h⟩ := h
    refine zr_iald (k := 146) (by decide) rfl (by decide) F (zal_a F hx0 (j := 20) rfl) hr dX11_costFromAbove_102 c3 ?_
    refine lv_ldcw (v := (1000000000)) F.1 F.2.1 F.2.2.2.1 (F.2.2.2.2.1 _ zq_298) dX11_costFromAbove_103 ?_
    refine lv_icmp_eq (tgt := 126) F.1 F.2.1 dX11_costFromAbove_106 (by decide) (fun c4 => ?_) (fun c4 => ?_)
    · replace h := zi_t c4 h
      exact bX11_costFromAbove_126 hst F hA E hK69 hK87 x0 x2 x4 x5 x6 hx0 hx2 hr (lv_sub hl [0, 1, 2, 3, 4] rfl) h
    · replace h := zi_f c4 h
      refine lv_aload_n F.1 F.2.1 dX11_costFromAbove_109 rfl (lv_at hl 0 rfl) ?_
      refine lv_aload_n F.1 F.2.1 dX11_costFromAbove_110 rfl (lv_at hl 0 rfl) ?_
      refine gf11_17 F hx0 hr dX11_costFromAbove_111 ?_
      refine lv_iload F.1 F.2.1 dX11_costFromAbove_114 (lv_at hl 4 rfl) ?_
      replace h := zk_some h
      obtain ⟨c5, h⟩ := h
      refine zr_aaldv (k := 140) (by decide) rfl rfl (zlen_d (by decide)) F (zal_a F hx0 (j := 2) rfl) hr dX11_costFromAbove_116 c5 (fun y6 ey6 => ?_)
      replace h := zl_sub ey6 h
      have hy6 := zal_q hr (zal_a F hx0 (j := 2) rfl) rfl ey6
      clear ey6
      replace h := zd_some h
      obtain ⟨a7, rfl, h⟩ := h
      replace h := zc_some h
      obtain ⟨r8, z9, hc10, h⟩ := h
      refine zr_calli (zrun_V (As := [.ref (B 1 a7)]) (rest := []) zq_299 zq_301 zs_X11_spreadReach zq_302 zq_1 hdX11_spreadReach (by decide) (T := TX11) (N := 21) rfl (okX11_spreadReach l D cy B ids hst N x0 hx0 a7 (hy6 _ rfl) hr.2.2 hc10) F hr hx0 hl.1 rfl (by decide) dX11_costFromAbove_117 rfl rfl hroX11_costFromAbove_X11_spreadReach ⟨Nat.zero_le _, Nat.zero_le _⟩) F hA hr (fun H locs hw11 hr => ?_)
      clear hc10
      refine lv_if_eq (tgt := 126) F.1 F.2.1 dX11_costFromAbove_120 (by decide) (fun c12 => ?_) (fun c12 => ?_)
      · replace h := zi_t c12 h
        exact bX11_costFromAbove_126 hst F hA E hK69 hK87 x0 x2 x4 x5 x6 hx0 hx2 hr (lv_sub hl [0, 1, 2, 3, 4] rfl) h
      · replace h := zi_f c12 h
        refine lv_iconst (v := (1 : Int32)) F.1 F.2.1 dX11_costFromAbove_123 (by decide) ?_
        refine lv_istore (lv' := [(4, .int (1 : Int32)), (0, .ref (B 11 x0)), (2, .ref (B 5 x2)), (5, .int x5), (6, .int x6)]) F.1 F.2.1 dX11_costFromAbove_124 hl (by decide) rfl (fun ls hl => ?_)
        exact bX11_costFromAbove_126 hst F hA E hK69 hK87 x0 x2 (1 : Int32) x5 x6 hx0 hx2 hr (lv_sub hl [1, 2, 0, 3, 4] rfl) h
theorem lX11_costFromAbove_87 (hst : zSt B ids) (F : zFx p m c cX11_costFromAbove 8 s args RX11 D cy B ids A) (hA : ∀ q : Nat, s.heap.size ≤ q → A q) {r : Int32} {z' : St} (E : zEnd p l e rmX11_costFromAbove s m args below meth c cX11_costFromAbove D cy B ids A Q (some (.int r)) z' .ireturn True) {N : Nat} {K69 : Nat → Nat → Int32 → Int32 → St → Option (Int32 × St)} (hK69 : ∀ (x0 : Nat) (x2 : Nat) (x4 : Int32) (x5 : Int32) (hx0 : (11, x0) ∈ ids) (hx2 : (5, x2) ∈ ids) {z : St} {H : Heap} {locs : List Loc} {ls : Array Slot} (hr : zRep D cy B ids A s.heap z H locs) (hl : lv_has ls 8 [(0, .ref (B 11 x0)), (2, .ref (B 5 x2)), (4, .int x4), (5, .int x5)]), K69 x0 x2 x4 x5 z = some (r, z') → W p l e rmX11_costFromAbove s m args below meth c H locs 0 0 Q (F0 m 69 ls [])) : ∀ (n : Nat) (x0 : Nat) (x2 : Nat) (x4 : Int32) (x5 : Int32) (x6 : Int32) (hx0 : (11, x0) ∈ ids) (hx2 : (5, x2) ∈ ids) {z : St} {H : Heap} {locs : List Loc} {ls : Array Slot} (hr : zRep D cy B ids A s.heap z H locs) (hl : lv_has ls 8 [(0, .ref (B 11 x0)), (2, .ref (B 5 x2)), (4, .int x4), (5, .int x5), (6, .int x6)]), fX11_costFromAbove_87 N K69 n x0 x2 x4 x5 x6 z = some (r, z') → W p l e rmX11_costFromAbove s m args below meth c H locs 0 0 Q (F0 m 87 ls []) := by
  intro n
  induction n with
  | zero => intro x0 x2 x4 x5 x6 hx0 hx2 z H locs ls hr hl h; cases h
  | succ n ih => intro x0 x2 x4 x5 x6 hx0 hx2 z H locs ls hr hl h; exact bX11_costFromAbove_87 hst F hA E hK69 ih x0 x2 x4 x5 x6 hx0 hx2 hr hl h
def fX11_costFromAbove_209 (N : Nat) (K146 : Nat → Nat → Int32 → Int32 → St → Option (Int32 × St)) (x0 : Nat) (x2 : Nat) (x5 : Int32) (x6 : Int32) (z : St) : Option (Int32 × St) := zl (x6 + 1) fun v1 => K146 x0 x2 x5 v1 z
set_option maxHeartbeats 4000000 in
set_option maxRecDepth 100000 in
theorem bX11_costFromAbove_209 (hst : zSt B ids) (F : zFx p m c cX11_costFromAbove 8 s args RX11 D cy B ids A) (hA : ∀ q : Nat, s.heap.size ≤ q → A q) {r : Int32} {z' : St} (E : zEnd p l e rmX11_costFromAbove s m args below meth c cX11_costFromAbove D cy B ids A Q (some (.int r)) z' .ireturn True) {N : Nat} {K146 : Nat → Nat → Int32 → Int32 → St → Option (Int32 × St)} (hK146 : ∀ (x0 : Nat) (x2 : Nat) (x5 : Int32) (x6 : Int32) (hx0 : (11, x0) ∈ ids) (hx2 : (5, x2) ∈ ids) {z : St} {H : Heap} {locs : List Loc} {ls : Array Slot} (hr : zRep D cy B ids A s.heap z H locs) (hl : lv_has ls 8 [(0, .ref (B 11 x0)), (2, .ref (B 5 x2)), (5, .int x5), (6, .int x6)]), K146 x0 x2 x5 x6 z = some (r, z') → W p l e rmX11_costFromAbove s m args below meth c H locs 0 0 Q (F0 m 146 ls [])) (x0 : Nat) (x2 : Nat) (x5 : Int32) (x6 : Int32) (hx0 : (11, x0) ∈ ids) (hx2 : (5, x2) ∈ ids) {z : St} {H : Heap} {locs : List Loc} {ls : Array Slot} (hr : zRep D cy B ids A s.heap z H locs) (hl : lv_has ls 8 [(0, .ref (B 11 x0)), (2, .ref (B 5 x2)), (5, .int x5), (6, .int x6)]) (h : fX11_costFromAbove_209 N K146 x0 x2 x5 x6 z = some (r, z')) : W p l e rmX11_costFromAbove s m args below meth c H locs 0 0 Q (F0 m 209 ls []) := by
  unfold fX11_costFromAbove_209 at h
  obtain ⟨v1, ev1⟩ : ∃ y : Int32, y = (x6 + 1) := ⟨_, rfl⟩
  replace h := zl_sub ev1 h
  refine lv_iinc (v := v1) (lv' := [(6, .int v1), (0, .ref (B 11 x0)), (2, .ref (B 5 x2)), (5, .int x5)]) F.1 F.2.1 dX11_costFromAbove_209 hl (k := 3) rfl (by rw [ev1]; rfl) (by decide) rfl (fun ls hl => ?_)
  refine lv_goto (tgt := 146) F.1 F.2.1 dX11_costFromAbove_212 (by decide) ?_
  exact hK146 x0 x2 x5 v1 hx0 hx2 hr (lv_sub hl [1, 2, 3, 0] rfl) h
def fX11_costFromAbove_146b (N : Nat) (K146 : Nat → Nat → Int32 → Int32 → St → Option (Int32 × St)) (x0 : Nat) (x2 : Nat) (x5 : Int32) (x6 : Int32) (z : St) : Option (Int32 × St) := if (zgI z 5 8 x2) ≤ x6 then (if ¬ x5 = (1000000000 : Int32) then (some (x5, z)) else (some ((-1 : Int32), z))) else (zk x6 8 <| zl (zgQ z 123 x2 (Int32.toNatClampNeg x6)) fun y4 => zd y4 fun a5 => zl (zgR z 8 0 a5) fun y6 => zd y6 fun a7 => zk (zgI z 1 0 a7) 16 <| if (zgA z 146 x0 (Int32.toNatClampNeg (zgI z 1 0 a7))) = (1000000000 : Int32) then (fX11_costFromAbove_209 N K146 x0 x2 x5 x6 z) else (zl (zgR z 8 0 a5) fun y10 => zd y10 fun a11 => zk (zgI z 1 0 a11) 16 <| zl (if ((zgA z 146 x0 (Int32.toNatClampNeg (zgI z 1 0 a11))) + (zgI z 8 5 a5)) < x5 then ((zgA z 146 x0 (Int32.toNatClampNeg (zgI z 1 0 a11))) + (zgI z 8 5 a5)) else x5) fun v13 => fX11_costFromAbove_209 N K146 x0 x2 v13 x6 z))
def fX11_costFromAbove_146 (N : Nat)  : Nat → Nat → Nat → Int32 → Int32 → St → Option (Int32 × St)
  | 0 => fun _ _ _ _ _ => none
  | n + 1 => fX11_costFromAbove_146b N (fX11_costFromAbove_146 N  n)
set_option maxHeartbeats 4000000 in
set_option maxRecDepth 100000 in
theorem bX11_costFromAbove_146 (hst : zSt B ids) (F : zFx p m c cX11_costFromAbove 8 s args RX11 D cy B ids A) (hA : ∀ q : Nat, s.heap.size ≤ q → A q) {r : Int32} {z' : St} (E : zEnd p l e rmX11_costFromAbove s m args below meth c cX11_costFromAbove D cy B ids A Q (some (.int r)) z' .ireturn True) {N : Nat} {K146 : Nat → Nat → Int32 → Int32 → St → Option (Int32 × St)} (hK146 : ∀ (x0 : Nat) (x2 : Nat) (x5 : Int32) (x6 : Int32) (hx0 : (11, x0) ∈ ids) (hx2 : (5, x2) ∈ ids) {z : St} {H : Heap} {locs : List Loc} {ls : Array Slot} (hr : zRep D cy B ids A s.heap z H locs) (hl : lv_has ls 8 [(0, .ref (B 11 x0)), (2, .ref (B 5 x2)), (5, .int x5), (6, .int x6)]), K146 x0 x2 x5 x6 z = some (r, z') → W p l e rmX11_costFromAbove s m args below meth c H locs 0 0 Q (F0 m 146 ls [])) (x0 : Nat) (x2 : Nat) (x5 : Int32) (x6 : Int32) (hx0 : (11, x0) ∈ ids) (hx2 : (5, x2) ∈ ids) {z : St} {H : Heap} {locs : List Loc} {ls : Array Slot} (hr : zRep D cy B ids A s.heap z H locs) (hl : lv_has ls 8 [(0, .ref (B 11 x0)), (2, .ref (B 5 x2)), (5, .int x5), (6, .int x6)]) (h : fX11_costFromAbove_146b N K146 x0 x2 x5 x6 z = some (r, z')) : W p l e rmX11_costFromAbove s m args below meth c H locs 0 0 Q (F0 m 146 ls []) := by
  unfold fX11_costFromAbove_146b at h
  refine lv_iload F.1 F.2.1 dX11_costFromAbove_146 (lv_at hl 3 rfl) ?_
  refine lv_aload_n F.1 F.2.1 dX11_costFromAbove_148 rfl (lv_at hl 1 rfl) ?_
  refine gf11_124 F hx2 hr dX11_costFromAbove_149 ?_
  refine lv_icmp_ge (tgt := 215) F.1 F.2.1 dX11_costFromAbove_152 (by decide) (fun c1 => ?_) (fun c1 => ?_)
  · replace h := zi_t c1 h
    refine lv_iload F.1 F.2.1 dX11_costFromAbove_215 (lv_at hl 2 rfl) ?_
    refine lv_ldcw (v := (1000000000)) F.1 F.2.1 F.2.2.2.1 (F.2.2.2.2.1 _ zq_298) dX11_costFromAbove_217 ?_
    refine lv_icmp_ne (tgt := 227) F.1 F.2.1 dX11_costFromAbove_220 (by decide) (fun c2 => ?_) (fun c2 => ?_)
    · replace h := zi_t c2 h
      refine lv_iload F.1 F.2.1 dX11_costFromAbove_227 (lv_at hl 2 rfl) ?_
      obtain ⟨rfl, rfl⟩ := zret h
      exact E _ _ _ _ dX11_costFromAbove_229 trivial hr
    · replace h := zi_f (fun q => q c2) h
      refine lv_iconst (v := (-1 : Int32)) F.1 F.2.1 dX11_costFromAbove_223 (by decide) ?_
      refine lv_goto (tgt := 229) F.1 F.2.1 dX11_costFromAbove_224 (by decide) ?_
      obtain ⟨rfl, rfl⟩ := zret h
      exact E _ _ _ _ dX11_costFromAbove_229 trivial hr
  · replace h := zi_f c1 h
    refine lv_aload_n F.1 F.2.1 dX11_costFromAbove_155 rfl (lv_at hl 1 rfl) ?_
    refine gf11_138 F hx2 hr dX11_costFromAbove_156 ?_
    refine lv_iload F.1 F.2.1 dX11_costFromAbove_159 (lv_at hl 3 rfl) ?_
    replace h := zk_some h
    obtain ⟨c3, h⟩ := h
    refine zr_aaldv (k := 123) (by decide) rfl rfl (zlen_d (by decide)) F (zal_a F hx2 (j := 7) rfl) hr dX11_costFromAbove_161 c3 (fun y4 ey4 => ?_)
    replace h := zl_sub ey4 h
    have hy4 := zal_q hr (zal_a F hx2 (j := 7) rfl) rfl ey4
    clear ey4
    refine zr_astore (lv' := [(7, va_rf (Option.map (B 8) y4)), (0, .ref (B 11 x0)), (2, .ref (B 5 x2)), (5, .int x5), (6, .int x6)]) F.1 F.2.1 dX11_costFromAbove_162 hl (by decide) rfl (fun ls hl => ?_)
    refine lv_aload_n F.1 F.2.1 dX11_costFromAbove_164 rfl (lv_at hl 1 rfl) ?_
    refine gf11_49 F hx0 hr dX11_costFromAbove_165 ?_
    refine zr_aload F.1 F.2.1 dX11_costFromAbove_168 (lv_at hl 0 rfl) ?_
    replace h := zd_some h
    obtain ⟨a5, rfl, h⟩ := h
    refine gf11_474 F (hy4 _ rfl) hr dX11_costFromAbove_170 (fun y6 ey6 => ?_)
    replace h := zl_sub ey6 h
    have hy6 := zal_g hr (hy4 _ rfl) (j := 0) rfl ey6
    clear ey6
    replace h := zd_some h
    obtain ⟨a7, rfl, h⟩ := h
    refine gf11_484 F (hy6 _ rfl) hr dX11_costFromAbove_173 ?_
    replace h := zk_some h
    obtain ⟨c8, h⟩ := h
    refine zr_iald (k := 146) (by decide) rfl (by decide) F (zal_a F hx0 (j := 20) rfl) hr dX11_costFromAbove_176 c8 ?_
    refine lv_ldcw (v := (1000000000)) F.1 F.2.1 F.2.2.2.1 (F.2.2.2.2.1 _ zq_298) dX11_costFromAbove_177 ?_
    refine lv_icmp_eq (tgt := 209) F.1 F.2.1 dX11_costFromAbove_180 (by decide) (fun c9 => ?_) (fun c9 => ?_)
    · replace h := zi_t c9 h
      exact bX11_costFromAbove_209 hst F hA E hK146 x0 x2 x5 x6 hx0 hx2 hr (lv_sub hl [1, 2, 3, 4] rfl) h
    · replace h := zi_f c9 h
      refine lv_iload F.1 F.2.1 dX11_costFromAbove_183 (lv_at hl 3 rfl) ?_
      refine lv_aload_n F.1 F.2.1 dX11_costFromAbove_185 rfl (lv_at hl 1 rfl) ?_
      refine gf11_49 F hx0 hr dX11_costFromAbove_186 ?_
      refine lv_aload F.1 F.2.1 dX11_costFromAbove_189 (lv_at hl 0 rfl) ?_
      refine gf11_474 F (hy4 _ rfl) hr dX11_costFromAbove_191 (fun y10 ey10 => ?_)
      replace h := zl_sub ey10 h
      have hy10 := zal_g hr (hy4 _ rfl) (j := 0) rfl ey10
      clear ey10
      replace h := zd_some h
      obtain ⟨a11, rfl, h⟩ := h
      refine gf11_484 F (hy10 _ rfl) hr dX11_costFromAbove_194 ?_
      replace h := zk_some h
      obtain ⟨c12, h⟩ := h
      refine zr_iald (k := 146) (by decide) rfl (by decide) F (zal_a F hx0 (j := 20) rfl) hr dX11_costFromAbove_197 c12 ?_
      refine lv_aload F.1 F.2.1 dX11_costFromAbove_198 (lv_at hl 0 rfl) ?_
      refine gf11_153 F (hy4 _ rfl) hr dX11_costFromAbove_200 ?_
      refine lv_iadd F.1 F.2.1 dX11_costFromAbove_203 ?_
      refine va_mmin F.1 F.2.1 (F.2.2.1.trans hl.1.symm) F.2.2.2.1 (F.2.2.2.2.1 _ zq_303) (F.2.2.2.2.1 _ zq_304) (F.2.2.2.2.1 _ zq_27) (F.2.2.2.2.1 _ zq_305) (Nat.le_of_ble_eq_true rfl) (Nat.le_of_ble_eq_true rfl) (Nat.zero_le _) (Nat.zero_le _) dX11_costFromAbove_204 ?_
      refine lv_topi (fun v13 ev13 => ?_)
      replace h := zl_sub ev13 h
      refine lv_istore (lv' := [(5, .int v13), (7, .ref (B 8 a5)), (0, .ref (B 11 x0)), (2, .ref (B 5 x2)), (6, .int x6)]) F.1 F.2.1 dX11_costFromAbove_207 hl (by decide) rfl (fun ls hl => ?_)
      exact bX11_costFromAbove_209 hst F hA E hK146 x0 x2 v13 x6 hx0 hx2 hr (lv_sub hl [2, 3, 0, 4] rfl) h
theorem lX11_costFromAbove_146 (hst : zSt B ids) (F : zFx p m c cX11_costFromAbove 8 s args RX11 D cy B ids A) (hA : ∀ q : Nat, s.heap.size ≤ q → A q) {r : Int32} {z' : St} (E : zEnd p l e rmX11_costFromAbove s m args below meth c cX11_costFromAbove D cy B ids A Q (some (.int r)) z' .ireturn True) {N : Nat}  : ∀ (n : Nat) (x0 : Nat) (x2 : Nat) (x5 : Int32) (x6 : Int32) (hx0 : (11, x0) ∈ ids) (hx2 : (5, x2) ∈ ids) {z : St} {H : Heap} {locs : List Loc} {ls : Array Slot} (hr : zRep D cy B ids A s.heap z H locs) (hl : lv_has ls 8 [(0, .ref (B 11 x0)), (2, .ref (B 5 x2)), (5, .int x5), (6, .int x6)]), fX11_costFromAbove_146 N  n x0 x2 x5 x6 z = some (r, z') → W p l e rmX11_costFromAbove s m args below meth c H locs 0 0 Q (F0 m 146 ls []) := by
  intro n
  induction n with
  | zero => intro x0 x2 x5 x6 hx0 hx2 z H locs ls hr hl h; cases h
  | succ n ih => intro x0 x2 x5 x6 hx0 hx2 z H locs ls hr hl h; exact bX11_costFromAbove_146 hst F hA E ih x0 x2 x5 x6 hx0 hx2 hr hl h
def fX11_costFromAbove_138 (N : Nat)  (x0 : Nat) (x2 : Nat) (z : St) : Option (Int32 × St) := fX11_costFromAbove_146 N N x0 x2 (1000000000 : Int32) (0 : Int32) z
set_option maxHeartbeats 4000000 in
set_option maxRecDepth 100000 in
theorem bX11_costFromAbove_138 (hst : zSt B ids) (F : zFx p m c cX11_costFromAbove 8 s args RX11 D cy B ids A) (hA : ∀ q : Nat, s.heap.size ≤ q → A q) {r : Int32} {z' : St} (E : zEnd p l e rmX11_costFromAbove s m args below meth c cX11_costFromAbove D cy B ids A Q (some (.int r)) z' .ireturn True) {N : Nat}  (x0 : Nat) (x2 : Nat) (hx0 : (11, x0) ∈ ids) (hx2 : (5, x2) ∈ ids) {z : St} {H : Heap} {locs : List Loc} {ls : Array Slot} (hr : zRep D cy B ids A s.heap z H locs) (hl : lv_has ls 8 [(0, .ref (B 11 x0)), (2, .ref (B 5 x2))]) (h : fX11_costFromAbove_138 N x0 x2 z = some (r, z')) : W p l e rmX11_costFromAbove s m args below meth c H locs 0 0 Q (F0 m 138 ls []) := by
  unfold fX11_costFromAbove_138 at h
  refine lv_ldcw (v := (1000000000)) F.1 F.2.1 F.2.2.2.1 (F.2.2.2.2.1 _ zq_298) dX11_costFromAbove_138 ?_
  refine lv_istore (lv' := [(5, .int (1000000000 : Int32)), (0, .ref (B 11 x0)), (2, .ref (B 5 x2))]) F.1 F.2.1 dX11_costFromAbove_141 hl (by decide) rfl (fun ls hl => ?_)
  refine lv_iconst (v := (0 : Int32)) F.1 F.2.1 dX11_costFromAbove_143 (by decide) ?_
  refine lv_istore (lv' := [(6, .int (0 : Int32)), (5, .int (1000000000 : Int32)), (0, .ref (B 11 x0)), (2, .ref (B 5 x2))]) F.1 F.2.1 dX11_costFromAbove_144 hl (by decide) rfl (fun ls hl => ?_)
  exact lX11_costFromAbove_146 hst F hA E  _ x0 x2 (1000000000 : Int32) (0 : Int32) hx0 hx2 hr (lv_sub hl [2, 3, 1, 0] rfl) h
def fX11_costFromAbove_69b (N : Nat) (K69 : Nat → Nat → Int32 → Int32 → St → Option (Int32 × St)) (x0 : Nat) (x2 : Nat) (x4 : Int32) (x5 : Int32) (z : St) : Option (Int32 × St) := if (16 : Int32) ≤ x5 then (fX11_costFromAbove_138 N x0 x2 z) else (if x4 = 0 then (fX11_costFromAbove_138 N x0 x2 z) else (fX11_costFromAbove_87 N K69 N x0 x2 (0 : Int32) x5 (0 : Int32) z))
def fX11_costFromAbove_69 (N : Nat)  : Nat → Nat → Nat → Int32 → Int32 → St → Option (Int32 × St)
  | 0 => fun _ _ _ _ _ => none
  | n + 1 => fX11_costFromAbove_69b N (fX11_costFromAbove_69 N  n)
set_option maxHeartbeats 4000000 in
set_option maxRecDepth 100000 in
theorem bX11_costFromAbove_69 (hst : zSt B ids) (F : zFx p m c cX11_costFromAbove 8 s args RX11 D cy B ids A) (hA : ∀ q : Nat, s.heap.size ≤ q → A q) {r : Int32} {z' : St} (E : zEnd p l e rmX11_costFromAbove s m args below meth c cX11_costFromAbove D cy B ids A Q (some (.int r)) z' .ireturn True) {N : Nat} {K69 : Nat → Nat → Int32 → Int32 → St → Option (Int32 × St)} (hK69 : ∀ (x0 : Nat) (x2 : Nat) (x4 : Int32) (x5 : Int32) (hx0 : (11, x0) ∈ ids) (hx2 : (5, x2) ∈ ids) {z : St} {H : Heap} {locs : List Loc} {ls : Array Slot} (hr : zRep D cy B ids A s.heap z H locs) (hl : lv_has ls 8 [(0, .ref (B 11 x0)), (2, .ref (B 5 x2)), (4, .int x4), (5, .int x5)]), K69 x0 x2 x4 x5 z = some (r, z') → W p l e rmX11_costFromAbove s m args below meth c H locs 0 0 Q (F0 m 69 ls [])) (x0 : Nat) (x2 : Nat) (x4 : Int32) (x5 : Int32) (hx0 : (11, x0) ∈ ids) (hx2 : (5, x2) ∈ ids) {z : St} {H : Heap} {locs : List Loc} {ls : Array Slot} (hr : zRep D cy B ids A s.heap z H locs) (hl : lv_has ls 8 [(0, .ref (B 11 x0)), (2, .ref (B 5 x2)), (4, .int x4), (5, .int x5)]) (h : fX11_costFromAbove_69b N K69 x0 x2 x4 x5 z = some (r, z')) : W p l e rmX11_costFromAbove s m args below meth c H locs 0 0 Q (F0 m 69 ls []) := by
  unfold fX11_costFromAbove_69b at h
  refine lv_iload F.1 F.2.1 dX11_costFromAbove_69 (lv_at hl 3 rfl) ?_
  refine lv_bipush (v := (16 : Int32)) F.1 F.2.1 dX11_costFromAbove_71 (by decide) ?_
  refine lv_icmp_ge (tgt := 138) F.1 F.2.1 dX11_costFromAbove_73 (by decide) (fun c1 => ?_) (fun c1 => ?_)
  · replace h := zi_t c1 h
    exact bX11_costFromAbove_138 hst F hA E  x0 x2 hx0 hx2 hr (lv_sub hl [0, 1] rfl) h
  · replace h := zi_f c1 h
    refine lv_iload F.1 F.2.1 dX11_costFromAbove_76 (lv_at hl 2 rfl) ?_
    refine lv_if_eq (tgt := 138) F.1 F.2.1 dX11_costFromAbove_78 (by decide) (fun c2 => ?_) (fun c2 => ?_)
    · replace h := zi_t c2 h
      exact bX11_costFromAbove_138 hst F hA E  x0 x2 hx0 hx2 hr (lv_sub hl [0, 1] rfl) h
    · replace h := zi_f c2 h
      refine lv_iconst (v := (0 : Int32)) F.1 F.2.1 dX11_costFromAbove_81 (by decide) ?_
      refine lv_istore (lv' := [(4, .int (0 : Int32)), (0, .ref (B 11 x0)), (2, .ref (B 5 x2)), (5, .int x5)]) F.1 F.2.1 dX11_costFromAbove_82 hl (by decide) rfl (fun ls hl => ?_)
      refine lv_iconst (v := (0 : Int32)) F.1 F.2.1 dX11_costFromAbove_84 (by decide) ?_
      refine lv_istore (lv' := [(6, .int (0 : Int32)), (4, .int (0 : Int32)), (0, .ref (B 11 x0)), (2, .ref (B 5 x2)), (5, .int x5)]) F.1 F.2.1 dX11_costFromAbove_85 hl (by decide) rfl (fun ls hl => ?_)
      exact lX11_costFromAbove_87 hst F hA E hK69 _ x0 x2 (0 : Int32) x5 (0 : Int32) hx0 hx2 hr (lv_sub hl [2, 3, 1, 4, 0] rfl) h
theorem lX11_costFromAbove_69 (hst : zSt B ids) (F : zFx p m c cX11_costFromAbove 8 s args RX11 D cy B ids A) (hA : ∀ q : Nat, s.heap.size ≤ q → A q) {r : Int32} {z' : St} (E : zEnd p l e rmX11_costFromAbove s m args below meth c cX11_costFromAbove D cy B ids A Q (some (.int r)) z' .ireturn True) {N : Nat}  : ∀ (n : Nat) (x0 : Nat) (x2 : Nat) (x4 : Int32) (x5 : Int32) (hx0 : (11, x0) ∈ ids) (hx2 : (5, x2) ∈ ids) {z : St} {H : Heap} {locs : List Loc} {ls : Array Slot} (hr : zRep D cy B ids A s.heap z H locs) (hl : lv_has ls 8 [(0, .ref (B 11 x0)), (2, .ref (B 5 x2)), (4, .int x4), (5, .int x5)]), fX11_costFromAbove_69 N  n x0 x2 x4 x5 z = some (r, z') → W p l e rmX11_costFromAbove s m args below meth c H locs 0 0 Q (F0 m 69 ls []) := by
  intro n
  induction n with
  | zero => intro x0 x2 x4 x5 hx0 hx2 z H locs ls hr hl h; cases h
  | succ n ih => intro x0 x2 x4 x5 hx0 hx2 z H locs ls hr hl h; exact bX11_costFromAbove_69 hst F hA E ih x0 x2 x4 x5 hx0 hx2 hr hl h
def fX11_costFromAbove_30b (N : Nat) (K30 : Nat → Nat → Nat → Int32 → St → Option (Int32 × St)) (x0 : Nat) (x1 : Nat) (x2 : Nat) (x4 : Int32) (z : St) : Option (Int32 × St) := if (16 : Int32) ≤ x4 then (zk (zgI z 1 0 x1) 16 <| zl (zsA z 146 x0 (Int32.toNatClampNeg (zgI z 1 0 x1)) (0 : Int32)) fun z3 => fX11_costFromAbove_69 N N x0 x2 (1 : Int32) (0 : Int32) z3) else (zk x4 16 <| zl (zsA z 146 x0 (Int32.toNatClampNeg x4) (1000000000 : Int32)) fun z5 => zl (x4 + 1) fun v6 => K30 x0 x1 x2 v6 z5)
def fX11_costFromAbove_30 (N : Nat)  : Nat → Nat → Nat → Nat → Int32 → St → Option (Int32 × St)
  | 0 => fun _ _ _ _ _ => none
  | n + 1 => fX11_costFromAbove_30b N (fX11_costFromAbove_30 N  n)
set_option maxHeartbeats 4000000 in
set_option maxRecDepth 100000 in
theorem bX11_costFromAbove_30 (hst : zSt B ids) (F : zFx p m c cX11_costFromAbove 8 s args RX11 D cy B ids A) (hA : ∀ q : Nat, s.heap.size ≤ q → A q) {r : Int32} {z' : St} (E : zEnd p l e rmX11_costFromAbove s m args below meth c cX11_costFromAbove D cy B ids A Q (some (.int r)) z' .ireturn True) {N : Nat} {K30 : Nat → Nat → Nat → Int32 → St → Option (Int32 × St)} (hK30 : ∀ (x0 : Nat) (x1 : Nat) (x2 : Nat) (x4 : Int32) (hx0 : (11, x0) ∈ ids) (hx1 : (1, x1) ∈ ids) (hx2 : (5, x2) ∈ ids) {z : St} {H : Heap} {locs : List Loc} {ls : Array Slot} (hr : zRep D cy B ids A s.heap z H locs) (hl : lv_has ls 8 [(0, .ref (B 11 x0)), (1, .ref (B 1 x1)), (2, .ref (B 5 x2)), (4, .int x4)]), K30 x0 x1 x2 x4 z = some (r, z') → W p l e rmX11_costFromAbove s m args below meth c H locs 0 0 Q (F0 m 30 ls [])) (x0 : Nat) (x1 : Nat) (x2 : Nat) (x4 : Int32) (hx0 : (11, x0) ∈ ids) (hx1 : (1, x1) ∈ ids) (hx2 : (5, x2) ∈ ids) {z : St} {H : Heap} {locs : List Loc} {ls : Array Slot} (hr : zRep D cy B ids A s.heap z H locs) (hl : lv_has ls 8 [(0, .ref (B 11 x0)), (1, .ref (B 1 x1)), (2, .ref (B 5 x2)), (4, .int x4)]) (h : fX11_costFromAbove_30b N K30 x0 x1 x2 x4 z = some (r, z')) : W p l e rmX11_costFromAbove s m args below meth c H locs 0 0 Q (F0 m 30 ls []) := by
  unfold fX11_costFromAbove_30b at h
  refine lv_iload F.1 F.2.1 dX11_costFromAbove_30 (lv_at hl 3 rfl) ?_
  refine lv_bipush (v := (16 : Int32)) F.1 F.2.1 dX11_costFromAbove_32 (by decide) ?_
  refine lv_icmp_ge (tgt := 53) F.1 F.2.1 dX11_costFromAbove_34 (by decide) (fun c1 => ?_) (fun c1 => ?_)
  · replace h := zi_t c1 h
    refine lv_aload_n F.1 F.2.1 dX11_costFromAbove_53 rfl (lv_at hl 0 rfl) ?_
    refine gf11_49 F hx0 hr dX11_costFromAbove_54 ?_
    refine lv_aload_n F.1 F.2.1 dX11_costFromAbove_57 rfl (lv_at hl 1 rfl) ?_
    refine gf11_484 F hx1 hr dX11_costFromAbove_58 ?_
    refine lv_iconst (v := (0 : Int32)) F.1 F.2.1 dX11_costFromAbove_61 (by decide) ?_
    replace h := zk_some h
    obtain ⟨c2, h⟩ := h
    refine zr_iast (k := 146) (by decide) rfl (by decide) F (zal_a F hx0 (j := 20) rfl) hr dX11_costFromAbove_62 c2 (fun H locs z3 ez3 hr => ?_)
    replace h := zl_sub ez3 h
    clear ez3
    refine lv_iconst (v := (1 : Int32)) F.1 F.2.1 dX11_costFromAbove_63 (by decide) ?_
    refine lv_istore (lv' := [(4, .int (1 : Int32)), (0, .ref (B 11 x0)), (1, .ref (B 1 x1)), (2, .ref (B 5 x2))]) F.1 F.2.1 dX11_costFromAbove_64 hl (by decide) rfl (fun ls hl => ?_)
    refine lv_iconst (v := (0 : Int32)) F.1 F.2.1 dX11_costFromAbove_66 (by decide) ?_
    refine lv_istore (lv' := [(5, .int (0 : Int32)), (4, .int (1 : Int32)), (0, .ref (B 11 x0)), (1, .ref (B 1 x1)), (2, .ref (B 5 x2))]) F.1 F.2.1 dX11_costFromAbove_67 hl (by decide) rfl (fun ls hl => ?_)
    exact lX11_costFromAbove_69 hst F hA E  _ x0 x2 (1 : Int32) (0 : Int32) hx0 hx2 hr (lv_sub hl [2, 4, 1, 0] rfl) h
  · replace h := zi_f c1 h
    refine lv_aload_n F.1 F.2.1 dX11_costFromAbove_37 rfl (lv_at hl 0 rfl) ?_
    refine gf11_49 F hx0 hr dX11_costFromAbove_38 ?_
    refine lv_iload F.1 F.2.1 dX11_costFromAbove_41 (lv_at hl 3 rfl) ?_
    refine lv_ldcw (v := (1000000000)) F.1 F.2.1 F.2.2.2.1 (F.2.2.2.2.1 _ zq_298) dX11_costFromAbove_43 ?_
    replace h := zk_some h
    obtain ⟨c4, h⟩ := h
    refine zr_iast (k := 146) (by decide) rfl (by decide) F (zal_a F hx0 (j := 20) rfl) hr dX11_costFromAbove_46 c4 (fun H locs z5 ez5 hr => ?_)
    replace h := zl_sub ez5 h
    clear ez5
    obtain ⟨v6, ev6⟩ : ∃ y : Int32, y = (x4 + 1) := ⟨_, rfl⟩
    replace h := zl_sub ev6 h
    refine lv_iinc (v := v6) (lv' := [(4, .int v6), (0, .ref (B 11 x0)), (1, .ref (B 1 x1)), (2, .ref (B 5 x2))]) F.1 F.2.1 dX11_costFromAbove_47 hl (k := 3) rfl (by rw [ev6]; rfl) (by decide) rfl (fun ls hl => ?_)
    refine lv_goto (tgt := 30) F.1 F.2.1 dX11_costFromAbove_50 (by decide) ?_
    exact hK30 x0 x1 x2 v6 hx0 hx1 hx2 hr (lv_sub hl [1, 2, 3, 0] rfl) h
theorem lX11_costFromAbove_30 (hst : zSt B ids) (F : zFx p m c cX11_costFromAbove 8 s args RX11 D cy B ids A) (hA : ∀ q : Nat, s.heap.size ≤ q → A q) {r : Int32} {z' : St} (E : zEnd p l e rmX11_costFromAbove s m args below meth c cX11_costFromAbove D cy B ids A Q (some (.int r)) z' .ireturn True) {N : Nat}  : ∀ (n : Nat) (x0 : Nat) (x1 : Nat) (x2 : Nat) (x4 : Int32) (hx0 : (11, x0) ∈ ids) (hx1 : (1, x1) ∈ ids) (hx2 : (5, x2) ∈ ids) {z : St} {H : Heap} {locs : List Loc} {ls : Array Slot} (hr : zRep D cy B ids A s.heap z H locs) (hl : lv_has ls 8 [(0, .ref (B 11 x0)), (1, .ref (B 1 x1)), (2, .ref (B 5 x2)), (4, .int x4)]), fX11_costFromAbove_30 N  n x0 x1 x2 x4 z = some (r, z') → W p l e rmX11_costFromAbove s m args below meth c H locs 0 0 Q (F0 m 30 ls []) := by
  intro n
  induction n with
  | zero => intro x0 x1 x2 x4 hx0 hx1 hx2 z H locs ls hr hl h; cases h
  | succ n ih => intro x0 x1 x2 x4 hx0 hx1 hx2 z H locs ls hr hl h; exact bX11_costFromAbove_30 hst F hA E ih x0 x1 x2 x4 hx0 hx1 hx2 hr hl h
def fX11_costFromAbove (N : Nat)  (x0 : Nat) (x1 : Nat) (x2 : Nat) (z : St) : Option (Int32 × St) := if ¬ (zgI z 5 3 x2) = 0 then (zc (fX1_portOn N x1 (zgI z 5 0 x2) z) fun r2 z3 => zo r2 (fX11_costFromAbove_30 N N x0 x1 x2 (0 : Int32) z3) fun a7 => some ((zgI z3 8 5 a7), z3)) else (some ((-1 : Int32), z))
set_option maxHeartbeats 4000000 in
set_option maxRecDepth 100000 in
theorem bX11_costFromAbove_0 (hst : zSt B ids) (F : zFx p m c cX11_costFromAbove 8 s args RX11 D cy B ids A) (hA : ∀ q : Nat, s.heap.size ≤ q → A q) {r : Int32} {z' : St} (E : zEnd p l e rmX11_costFromAbove s m args below meth c cX11_costFromAbove D cy B ids A Q (some (.int r)) z' .ireturn True) {N : Nat}  (x0 : Nat) (x1 : Nat) (x2 : Nat) (hx0 : (11, x0) ∈ ids) (hx1 : (1, x1) ∈ ids) (hx2 : (5, x2) ∈ ids) {z : St} {H : Heap} {locs : List Loc} {ls : Array Slot} (hr : zRep D cy B ids A s.heap z H locs) (hl : lv_has ls 8 [(0, .ref (B 11 x0)), (1, .ref (B 1 x1)), (2, .ref (B 5 x2))]) (h : fX11_costFromAbove N x0 x1 x2 z = some (r, z')) : W p l e rmX11_costFromAbove s m args below meth c H locs 0 0 Q (F0 m 0 ls []) := by
  unfold fX11_costFromAbove at h
  refine lv_aload_n F.1 F.2.1 dX11_costFromAbove_0 rfl (lv_at hl 2 rfl) ?_
  refine gf11_158 F hx2 hr dX11_costFromAbove_1 ?_
  refine lv_if_ne (tgt := 9) F.1 F.2.1 dX11_costFromAbove_4 (by decide) (fun c1 => ?_) (fun c1 => ?_)
  · replace h := zi_t c1 h
    refine lv_aload_n F.1 F.2.1 dX11_costFromAbove_9 rfl (lv_at hl 1 rfl) ?_
    refine lv_aload_n F.1 F.2.1 dX11_costFromAbove_10 rfl (lv_at hl 2 rfl) ?_
    refine gf11_478 F hx2 hr dX11_costFromAbove_11 ?_
    replace h := zc_some h
    obtain ⟨r2, z3, hc4, h⟩ := h
    refine zr_callr (zrun_VN (As := [.int (zgI z 5 0 x2)]) (rest := []) zn_293 zq_295 zs_X1_portOn zq_297 zq_9 hdX1_portOn (by decide) (T := TX1) (N := 13) rfl (okX1_portOn l D cy B ids hst N x1 hx1 (zgI z 5 0 x2)  hr.2.2 hc4) F hr hx1 hl.1 rfl (by decide) dX11_costFromAbove_14 rfl rfl hroX11_costFromAbove_X1_portOn ⟨Nat.zero_le _, Nat.zero_le _⟩) F hA hr (fun H locs hw5 hr => ?_)
    clear hc4
    refine zr_astore_n (lv' := [(3, va_rf (Option.map (B 8) r2)), (0, .ref (B 11 x0)), (1, .ref (B 1 x1)), (2, .ref (B 5 x2))]) F.1 F.2.1 dX11_costFromAbove_17 rfl hl (by decide) rfl (fun ls hl => ?_)
    refine zr_aload_n F.1 F.2.1 dX11_costFromAbove_18 rfl (lv_at hl 0 rfl) ?_
    refine zr_ifnull (tgt := 27) F.1 F.2.1 dX11_costFromAbove_19 (by decide) (fun e6 => ?_) (fun a7 e6 => ?_)
    · replace h := zo_n e6 h
      subst e6
      refine lv_iconst (v := (0 : Int32)) F.1 F.2.1 dX11_costFromAbove_27 (by decide) ?_
      refine lv_istore (lv' := [(4, .int (0 : Int32)), (3, .null), (0, .ref (B 11 x0)), (1, .ref (B 1 x1)), (2, .ref (B 5 x2))]) F.1 F.2.1 dX11_costFromAbove_28 hl (by decide) rfl (fun ls hl => ?_)
      exact lX11_costFromAbove_30 hst F hA E  _ x0 x1 x2 (0 : Int32) hx0 hx1 hx2 hr (lv_sub hl [2, 3, 4, 0] rfl) h
    · replace h := zo_s e6 h
      subst e6
      refine lv_aload_n F.1 F.2.1 dX11_costFromAbove_22 rfl (lv_at hl 0 rfl) ?_
      refine gf11_153 F (hw5 _ rfl) hr dX11_costFromAbove_23 ?_
      obtain ⟨rfl, rfl⟩ := zret h
      exact E _ _ _ _ dX11_costFromAbove_26 trivial hr
  · replace h := zi_f (fun q => q c1) h
    refine lv_iconst (v := (-1 : Int32)) F.1 F.2.1 dX11_costFromAbove_7 (by decide) ?_
    obtain ⟨rfl, rfl⟩ := zret h
    exact E _ _ _ _ dX11_costFromAbove_8 trivial hr
end SX11_costFromAbove
set_option maxRecDepth 100000 in
theorem okX11_costFromAbove (l : Launch) (D : va_G) (cy : Nat → ClassId) (B : Nat → Nat → Nat) (ids : List (Nat × Nat)) (hst : zSt B ids) (N : Nat) (x0 : Nat) (hx0 : (11, x0) ∈ ids) (x1 : Nat) (hx1 : (1, x1) ∈ ids) (x2 : Nat) (hx2 : (5, x2) ∈ ids) {z : St} {r : Int32} {z' : St} (hW : zWf ids z) (h : fX11_costFromAbove N x0 x1 x2 z = some (r, z')) : zM l yX11_costFromAbove (zws yX11_costFromAbove cX11_costFromAbove 8 (some .int)) rmX11_costFromAbove D cy B ids [.ref (B 11 x0), .ref (B 1 x1), .ref (B 5 x2)] (some (.int r)) True z z' :=
  zM_of hst hW (by decide +kernel) (Nat.le_of_ble_eq_true rfl) (fun p e s m args below meth c A ls F hA hret hlocks hr hl => bX11_costFromAbove_0 hst F hA (zEnd_i F hret hlocks) x0 x1 x2 hx0 hx1 hx2 hr hl h)
abbrev rmX11_wrongWays : Room := { frames := 2, cells := 0, slots := 0, locals := 87 }
theorem hdX11_wrongWays : yX11_wrongWays.cls ≠ "java/lang/invoke/MethodHandle" ∧ yX11_wrongWays.cls ≠ "java/lang/invoke/VarHandle" ∧ (parseMethodDescriptor yX11_wrongWays.desc).map (fun d => d.parameters.length) = some 1 := by decide +kernel
theorem hroX11_wrongWays_X11_costFromAbove : rmX11_costFromAbove.frames + 1 ≤ rmX11_wrongWays.frames ∧ 8 + (8 + 11) + rmX11_costFromAbove.locals ≤ rmX11_wrongWays.locals := by decide
section SX11_wrongWays
variable {p : Program} {l : Launch} {e : Env} {s : State} {m : MethodId} {args : Array Value} {below : List Frame} {meth : Method} {c : Code} {Q : State → Prop} {D : va_G} {cy : Nat → ClassId} {B : Nat → Nat → Nat} {ids : List (Nat × Nat)} {A : Nat → Prop}
def fX11_wrongWays_41 (N : Nat) (K4 : Nat → Nat → Int32 → Int32 → St → Option (Int32 × St)) (x0 : Nat) (x1 : Nat) (x2 : Int32) (x3 : Int32) (z : St) : Option (Int32 × St) := zl (x3 + 1) fun v1 => K4 x0 x1 x2 v1 z
set_option maxHeartbeats 4000000 in
set_option maxRecDepth 100000 in
theorem bX11_wrongWays_41 (hst : zSt B ids) (F : zFx p m c cX11_wrongWays 4 s args RX11 D cy B ids A) (hA : ∀ q : Nat, s.heap.size ≤ q → A q) {r : Int32} {z' : St} (E : zEnd p l e rmX11_wrongWays s m args below meth c cX11_wrongWays D cy B ids A Q (some (.int r)) z' .ireturn True) {N : Nat} {K4 : Nat → Nat → Int32 → Int32 → St → Option (Int32 × St)} (hK4 : ∀ (x0 : Nat) (x1 : Nat) (x2 : Int32) (x3 : Int32) (hx0 : (11, x0) ∈ ids) (hx1 : (1, x1) ∈ ids) {z : St} {H : Heap} {locs : List Loc} {ls : Array Slot} (hr : zRep D cy B ids A s.heap z H locs) (hl : lv_has ls 4 [(0, .ref (B 11 x0)), (1, .ref (B 1 x1)), (2, .int x2), (3, .int x3)]), K4 x0 x1 x2 x3 z = some (r, z') → W p l e rmX11_wrongWays s m args below meth c H locs 0 0 Q (F0 m 4 ls [])) (x0 : Nat) (x1 : Nat) (x2 : Int32) (x3 : Int32) (hx0 : (11, x0) ∈ ids) (hx1 : (1, x1) ∈ ids) {z : St} {H : Heap} {locs : List Loc} {ls : Array Slot} (hr : zRep D cy B ids A s.heap z H locs) (hl : lv_has ls 4 [(0, .ref (B 11 x0)), (1, .ref (B 1 x1)), (2, .int x2), (3, .int x3)]) (h : fX11_wrongWays_41 N K4 x0 x1 x2 x3 z = some (r, z')) : W p l e rmX11_wrongWays s m args below meth c H locs 0 0 Q (F0 m 41 ls []) := by
  unfold fX11_wrongWays_41 at h
  obtain ⟨v1, ev1⟩ : ∃ y : Int32, y = (x3 + 1) := ⟨_, rfl⟩
  replace h := zl_sub ev1 h
  refine lv_iinc (v := v1) (lv' := [(3, .int v1), (0, .ref (B 11 x0)), (1, .ref (B 1 x1)), (2, .int x2)]) F.1 F.2.1 dX11_wrongWays_41 hl (k := 3) rfl (by rw [ev1]; rfl) (by decide) rfl (fun ls hl => ?_)
  refine lv_goto (tgt := 4) F.1 F.2.1 dX11_wrongWays_44 (by decide) ?_
  exact hK4 x0 x1 x2 v1 hx0 hx1 hr (lv_sub hl [1, 2, 3, 0] rfl) h
def fX11_wrongWays_4b (N : Nat) (K4 : Nat → Nat → Int32 → Int32 → St → Option (Int32 × St)) (x0 : Nat) (x1 : Nat) (x2 : Int32) (x3 : Int32) (z : St) : Option (Int32 × St) := if (zgI z 11 1 x0) ≤ x3 then (some (x2, z)) else (zl (zgR z 1 10 x1) fun y2 => zd y2 fun a3 => zl (zgR z 9 12 a3) fun y4 => zd y4 fun a5 => zk x3 24 <| zk x3 24 <| zl (zgQ z 139 x0 (Int32.toNatClampNeg x3)) fun y8 => zd y8 fun a9 => zc (fX11_costFromAbove N x0 x1 a9 z) fun r10 z11 => if (zgA z 106 a5 (Int32.toNatClampNeg x3)) = r10 then (fX11_wrongWays_41 N K4 x0 x1 x2 x3 z11) else (zl (x2 + 1) fun v15 => fX11_wrongWays_41 N K4 x0 x1 v15 x3 z11))
def fX11_wrongWays_4 (N : Nat)  : Nat → Nat → Nat → Int32 → Int32 → St → Option (Int32 × St)
  | 0 => fun _ _ _ _ _ => none
  | n + 1 => fX11_wrongWays_4b N (fX11_wrongWays_4 N  n)
set_option maxHeartbeats 4000000 in
set_option maxRecDepth 100000 in
theorem bX11_wrongWays_4 (hst : zSt B ids) (F : zFx p m c cX11_wrongWays 4 s args RX11 D cy B ids A) (hA : ∀ q : Nat, s.heap.size ≤ q → A q) {r : Int32} {z' : St} (E : zEnd p l e rmX11_wrongWays s m args below meth c cX11_wrongWays D cy B ids A Q (some (.int r)) z' .ireturn True) {N : Nat} {K4 : Nat → Nat → Int32 → Int32 → St → Option (Int32 × St)} (hK4 : ∀ (x0 : Nat) (x1 : Nat) (x2 : Int32) (x3 : Int32) (hx0 : (11, x0) ∈ ids) (hx1 : (1, x1) ∈ ids) {z : St} {H : Heap} {locs : List Loc} {ls : Array Slot} (hr : zRep D cy B ids A s.heap z H locs) (hl : lv_has ls 4 [(0, .ref (B 11 x0)), (1, .ref (B 1 x1)), (2, .int x2), (3, .int x3)]), K4 x0 x1 x2 x3 z = some (r, z') → W p l e rmX11_wrongWays s m args below meth c H locs 0 0 Q (F0 m 4 ls [])) (x0 : Nat) (x1 : Nat) (x2 : Int32) (x3 : Int32) (hx0 : (11, x0) ∈ ids) (hx1 : (1, x1) ∈ ids) {z : St} {H : Heap} {locs : List Loc} {ls : Array Slot} (hr : zRep D cy B ids A s.heap z H locs) (hl : lv_has ls 4 [(0, .ref (B 11 x0)), (1, .ref (B 1 x1)), (2, .int x2), (3, .int x3)]) (h : fX11_wrongWays_4b N K4 x0 x1 x2 x3 z = some (r, z')) : W p l e rmX11_wrongWays s m args below meth c H locs 0 0 Q (F0 m 4 ls []) := by
  unfold fX11_wrongWays_4b at h
  refine lv_iload_n F.1 F.2.1 dX11_wrongWays_4 rfl (lv_at hl 3 rfl) ?_
  refine lv_aload_n F.1 F.2.1 dX11_wrongWays_5 rfl (lv_at hl 0 rfl) ?_
  refine gf11_85 F hx0 hr dX11_wrongWays_6 ?_
  refine lv_icmp_ge (tgt := 47) F.1 F.2.1 dX11_wrongWays_9 (by decide) (fun c1 => ?_) (fun c1 => ?_)
  · replace h := zi_t c1 h
    refine lv_iload_n F.1 F.2.1 dX11_wrongWays_47 rfl (lv_at hl 2 rfl) ?_
    obtain ⟨rfl, rfl⟩ := zret h
    exact E _ _ _ _ dX11_wrongWays_48 trivial hr
  · replace h := zi_f c1 h
    refine lv_aload_n F.1 F.2.1 dX11_wrongWays_12 rfl (lv_at hl 1 rfl) ?_
    refine gf11_395 F hx1 hr dX11_wrongWays_13 (fun y2 ey2 => ?_)
    replace h := zl_sub ey2 h
    have hy2 := zal_g hr hx1 (j := 10) rfl ey2
    clear ey2
    replace h := zd_some h
    obtain ⟨a3, rfl, h⟩ := h
    refine gf11_399 F (hy2 _ rfl) hr dX11_wrongWays_16 (fun y4 ey4 => ?_)
    replace h := zl_sub ey4 h
    have hy4 := zal_g hr (hy2 _ rfl) (j := 12) rfl ey4
    clear ey4
    replace h := zd_some h
    obtain ⟨a5, rfl, h⟩ := h
    refine gf11_405 F (hy4 _ rfl) hr dX11_wrongWays_19 ?_
    refine lv_iload_n F.1 F.2.1 dX11_wrongWays_22 rfl (lv_at hl 3 rfl) ?_
    replace h := zk_some h
    obtain ⟨c6, h⟩ := h
    refine zr_iald (k := 106) (by decide) rfl (by decide) F (zal_a F (hy4 _ rfl) (j := 10) rfl) hr dX11_wrongWays_23 c6 ?_
    refine lv_aload_n F.1 F.2.1 dX11_wrongWays_24 rfl (lv_at hl 0 rfl) ?_
    refine lv_aload_n F.1 F.2.1 dX11_wrongWays_25 rfl (lv_at hl 1 rfl) ?_
    refine lv_aload_n F.1 F.2.1 dX11_wrongWays_26 rfl (lv_at hl 0 rfl) ?_
    refine gf11_11 F hx0 hr dX11_wrongWays_27 ?_
    refine lv_iload_n F.1 F.2.1 dX11_wrongWays_30 rfl (lv_at hl 3 rfl) ?_
    replace h := zk_some h
    obtain ⟨c7, h⟩ := h
    refine zr_aaldv (k := 139) (by decide) rfl rfl (zlen_d (by decide)) F (zal_a F hx0 (j := 0) rfl) hr dX11_wrongWays_31 c7 (fun y8 ey8 => ?_)
    replace h := zl_sub ey8 h
    have hy8 := zal_q hr (zal_a F hx0 (j := 0) rfl) rfl ey8
    clear ey8
    replace h := zd_some h
    obtain ⟨a9, rfl, h⟩ := h
    replace h := zc_some h
    obtain ⟨r10, z11, hc12, h⟩ := h
    refine zr_calli (zrun_V (As := [.ref (B 1 x1), .ref (B 5 a9)]) (rest := [.int (zgA z 106 a5 (Int32.toNatClampNeg x3))]) zq_289 zq_291 zs_X11_costFromAbove zq_292 zq_1 hdX11_costFromAbove (by decide) (T := TX11) (N := 21) rfl (okX11_costFromAbove l D cy B ids hst N x0 hx0 x1 hx1 a9 (hy8 _ rfl) hr.2.2 hc12) F hr hx0 hl.1 rfl (Nat.le_of_ble_eq_true rfl) dX11_wrongWays_32 rfl rfl hroX11_wrongWays_X11_costFromAbove ⟨Nat.zero_le _, Nat.zero_le _⟩) F hA hr (fun H locs hw13 hr => ?_)
    clear hc12
    refine lv_icmp_eq (tgt := 41) F.1 F.2.1 dX11_wrongWays_35 (by decide) (fun c14 => ?_) (fun c14 => ?_)
    · replace h := zi_t c14 h
      exact bX11_wrongWays_41 hst F hA E hK4 x0 x1 x2 x3 hx0 hx1 hr (lv_sub hl [0, 1, 2, 3] rfl) h
    · replace h := zi_f c14 h
      obtain ⟨v15, ev15⟩ : ∃ y : Int32, y = (x2 + 1) := ⟨_, rfl⟩
      replace h := zl_sub ev15 h
      refine lv_iinc (v := v15) (lv' := [(2, .int v15), (0, .ref (B 11 x0)), (1, .ref (B 1 x1)), (3, .int x3)]) F.1 F.2.1 dX11_wrongWays_38 hl (k := 2) rfl (by rw [ev15]; rfl) (by decide) rfl (fun ls hl => ?_)
      exact bX11_wrongWays_41 hst F hA E hK4 x0 x1 v15 x3 hx0 hx1 hr (lv_sub hl [1, 2, 0, 3] rfl) h
theorem lX11_wrongWays_4 (hst : zSt B ids) (F : zFx p m c cX11_wrongWays 4 s args RX11 D cy B ids A) (hA : ∀ q : Nat, s.heap.size ≤ q → A q) {r : Int32} {z' : St} (E : zEnd p l e rmX11_wrongWays s m args below meth c cX11_wrongWays D cy B ids A Q (some (.int r)) z' .ireturn True) {N : Nat}  : ∀ (n : Nat) (x0 : Nat) (x1 : Nat) (x2 : Int32) (x3 : Int32) (hx0 : (11, x0) ∈ ids) (hx1 : (1, x1) ∈ ids) {z : St} {H : Heap} {locs : List Loc} {ls : Array Slot} (hr : zRep D cy B ids A s.heap z H locs) (hl : lv_has ls 4 [(0, .ref (B 11 x0)), (1, .ref (B 1 x1)), (2, .int x2), (3, .int x3)]), fX11_wrongWays_4 N  n x0 x1 x2 x3 z = some (r, z') → W p l e rmX11_wrongWays s m args below meth c H locs 0 0 Q (F0 m 4 ls []) := by
  intro n
  induction n with
  | zero => intro x0 x1 x2 x3 hx0 hx1 z H locs ls hr hl h; cases h
  | succ n ih => intro x0 x1 x2 x3 hx0 hx1 z H locs ls hr hl h; exact bX11_wrongWays_4 hst F hA E ih x0 x1 x2 x3 hx0 hx1 hr hl h
def fX11_wrongWays (N : Nat)  (x0 : Nat) (x1 : Nat) (z : St) : Option (Int32 × St) := fX11_wrongWays_4 N N x0 x1 (0 : Int32) (0 : Int32) z
set_option maxHeartbeats 4000000 in
set_option maxRecDepth 100000 in
theorem bX11_wrongWays_0 (hst : zSt B ids) (F : zFx p m c cX11_wrongWays 4 s args RX11 D cy B ids A) (hA : ∀ q : Nat, s.heap.size ≤ q → A q) {r : Int32} {z' : St} (E : zEnd p l e rmX11_wrongWays s m args below meth c cX11_wrongWays D cy B ids A Q (some (.int r)) z' .ireturn True) {N : Nat}  (x0 : Nat) (x1 : Nat) (hx0 : (11, x0) ∈ ids) (hx1 : (1, x1) ∈ ids) {z : St} {H : Heap} {locs : List Loc} {ls : Array Slot} (hr : zRep D cy B ids A s.heap z H locs) (hl : lv_has ls 4 [(0, .ref (B 11 x0)), (1, .ref (B 1 x1))]) (h : fX11_wrongWays N x0 x1 z = some (r, z')) : W p l e rmX11_wrongWays s m args below meth c H locs 0 0 Q (F0 m 0 ls []) := by
  unfold fX11_wrongWays at h
  refine lv_iconst (v := (0 : Int32)) F.1 F.2.1 dX11_wrongWays_0 (by decide) ?_
  refine lv_istore_n (lv' := [(2, .int (0 : Int32)), (0, .ref (B 11 x0)), (1, .ref (B 1 x1))]) F.1 F.2.1 dX11_wrongWays_1 rfl hl (by decide) rfl (fun ls hl => ?_)
  refine lv_iconst (v := (0 : Int32)) F.1 F.2.1 dX11_wrongWays_2 (by decide) ?_
  refine lv_istore_n (lv' := [(3, .int (0 : Int32)), (2, .int (0 : Int32)), (0, .ref (B 11 x0)), (1, .ref (B 1 x1))]) F.1 F.2.1 dX11_wrongWays_3 rfl hl (by decide) rfl (fun ls hl => ?_)
  exact lX11_wrongWays_4 hst F hA E  _ x0 x1 (0 : Int32) (0 : Int32) hx0 hx1 hr (lv_sub hl [2, 3, 1, 0] rfl) h
end SX11_wrongWays
set_option maxRecDepth 100000 in
theorem okX11_wrongWays (l : Launch) (D : va_G) (cy : Nat → ClassId) (B : Nat → Nat → Nat) (ids : List (Nat × Nat)) (hst : zSt B ids) (N : Nat) (x0 : Nat) (hx0 : (11, x0) ∈ ids) (x1 : Nat) (hx1 : (1, x1) ∈ ids) {z : St} {r : Int32} {z' : St} (hW : zWf ids z) (h : fX11_wrongWays N x0 x1 z = some (r, z')) : zM l yX11_wrongWays (zws yX11_wrongWays cX11_wrongWays 4 (some .int)) rmX11_wrongWays D cy B ids [.ref (B 11 x0), .ref (B 1 x1)] (some (.int r)) True z z' :=
  zM_of hst hW (by decide +kernel) (Nat.le_of_ble_eq_true rfl) (fun p e s m args below meth c A ls F hA hret hlocks hr hl => bX11_wrongWays_0 hst F hA (zEnd_i F hret hlocks) x0 x1 hx0 hx1 hr hl h)
abbrev rmX11_overdue : Room := { frames := 4, cells := 0, slots := 0, locals := 110 }
theorem hdX11_overdue : yX11_overdue.cls ≠ "java/lang/invoke/MethodHandle" ∧ yX11_overdue.cls ≠ "java/lang/invoke/VarHandle" ∧ (parseMethodDescriptor yX11_overdue.desc).map (fun d => d.parameters.length) = some 0 := by decide +kernel
theorem hroX11_overdue_X11_calmBound : rmX11_calmBound.frames + 1 ≤ rmX11_overdue.frames ∧ 8 + (3 + 11) + rmX11_calmBound.locals ≤ rmX11_overdue.locals := by decide
theorem hroX11_overdue_X11_stuckEnds : rmX11_stuckEnds.frames + 1 ≤ rmX11_overdue.frames ∧ 8 + (5 + 11) + rmX11_stuckEnds.locals ≤ rmX11_overdue.locals := by decide
theorem hroX11_overdue_X11_wrongWays : rmX11_wrongWays.frames + 1 ≤ rmX11_overdue.frames ∧ 8 + (4 + 11) + rmX11_wrongWays.locals ≤ rmX11_overdue.locals := by decide
section SX11_overdue
variable {p : Program} {l : Launch} {e : Env} {s : State} {m : MethodId} {args : Array Value} {below : List Frame} {meth : Method} {c : Code} {Q : State → Prop} {D : va_G} {cy : Nat → ClassId} {B : Nat → Nat → Nat} {ids : List (Nat × Nat)} {A : Nat → Prop}
def fX11_overdue_63 (N : Nat) (K22 : Nat → Int32 → Int32 → St → Option (Int32 × St)) (x0 : Nat) (x1 : Int32) (x2 : Int32) (z : St) : Option (Int32 × St) := zl (x2 + 1) fun v1 => K22 x0 x1 v1 z
set_option maxHeartbeats 4000000 in
set_option maxRecDepth 100000 in
theorem bX11_overdue_63 (hst : zSt B ids) (F : zFx p m c cX11_overdue 4 s args RX11 D cy B ids A) (hA : ∀ q : Nat, s.heap.size ≤ q → A q) {r : Int32} {z' : St} (E : zEnd p l e rmX11_overdue s m args below meth c cX11_overdue D cy B ids A Q (some (.int r)) z' .ireturn True) {N : Nat} {K22 : Nat → Int32 → Int32 → St → Option (Int32 × St)} (hK22 : ∀ (x0 : Nat) (x1 : Int32) (x2 : Int32) (hx0 : (11, x0) ∈ ids) {z : St} {H : Heap} {locs : List Loc} {ls : Array Slot} (hr : zRep D cy B ids A s.heap z H locs) (hl : lv_has ls 4 [(0, .ref (B 11 x0)), (1, .int x1), (2, .int x2)]), K22 x0 x1 x2 z = some (r, z') → W p l e rmX11_overdue s m args below meth c H locs 0 0 Q (F0 m 22 ls [])) (x0 : Nat) (x1 : Int32) (x2 : Int32) (hx0 : (11, x0) ∈ ids) {z : St} {H : Heap} {locs : List Loc} {ls : Array Slot} (hr : zRep D cy B ids A s.heap z H locs) (hl : lv_has ls 4 [(0, .ref (B 11 x0)), (1, .int x1), (2, .int x2)]) (h : fX11_overdue_63 N K22 x0 x1 x2 z = some (r, z')) : W p l e rmX11_overdue s m args below meth c H locs 0 0 Q (F0 m 63 ls []) := by
  unfold fX11_overdue_63 at h
  obtain ⟨v1, ev1⟩ : ∃ y : Int32, y = (x2 + 1) := ⟨_, rfl⟩
  replace h := zl_sub ev1 h
  refine lv_iinc (v := v1) (lv' := [(2, .int v1), (0, .ref (B 11 x0)), (1, .int x1)]) F.1 F.2.1 dX11_overdue_63 hl (k := 2) rfl (by rw [ev1]; rfl) (by decide) rfl (fun ls hl => ?_)
  refine lv_goto (tgt := 22) F.1 F.2.1 dX11_overdue_66 (by decide) ?_
  exact hK22 x0 x1 v1 hx0 hr (lv_sub hl [1, 2, 0] rfl) h
def fX11_overdue_22b (N : Nat) (K22 : Nat → Int32 → Int32 → St → Option (Int32 × St)) (x0 : Nat) (x1 : Int32) (x2 : Int32) (z : St) : Option (Int32 × St) := if (zgI z 11 3 x0) ≤ x2 then (some (x1, z)) else (zk x2 16 <| zl (zgQ z 140 x0 (Int32.toNatClampNeg x2)) fun y3 => zd y3 fun a4 => if (zgI z 1 1 a4) = 0 then (zc (fX11_stuckEnds N x0 a4 z) fun r6 z7 => zl (x1 + r6) fun v10 => fX11_overdue_63 N K22 x0 v10 x2 z7) else (zc (fX11_wrongWays N x0 a4 z) fun r11 z12 => zl (x1 + r11) fun v15 => fX11_overdue_63 N K22 x0 v15 x2 z12))
def fX11_overdue_22 (N : Nat)  : Nat → Nat → Int32 → Int32 → St → Option (Int32 × St)
  | 0 => fun _ _ _ _ => none
  | n + 1 => fX11_overdue_22b N (fX11_overdue_22 N  n)
set_option maxHeartbeats 4000000 in
set_option maxRecDepth 100000 in
theorem bX11_overdue_22 (hst : zSt B ids) (F : zFx p m c cX11_overdue 4 s args RX11 D cy B ids A) (hA : ∀ q : Nat, s.heap.size ≤ q → A q) {r : Int32} {z' : St} (E : zEnd p l e rmX11_overdue s m args below meth c cX11_overdue D cy B ids A Q (some (.int r)) z' .ireturn True) {N : Nat} {K22 : Nat → Int32 → Int32 → St → Option (Int32 × St)} (hK22 : ∀ (x0 : Nat) (x1 : Int32) (x2 : Int32) (hx0 : (11, x0) ∈ ids) {z : St} {H : Heap} {locs : List Loc} {ls : Array Slot} (hr : zRep D cy B ids A s.heap z H locs) (hl : lv_has ls 4 [(0, .ref (B 11 x0)), (1, .int x1), (2, .int x2)]), K22 x0 x1 x2 z = some (r, z') → W p l e rmX11_overdue s m args below meth c H locs 0 0 Q (F0 m 22 ls [])) (x0 : Nat) (x1 : Int32) (x2 : Int32) (hx0 : (11, x0) ∈ ids) {z : St} {H : Heap} {locs : List Loc} {ls : Array Slot} (hr : zRep D cy B ids A s.heap z H locs) (hl : lv_has ls 4 [(0, .ref (B 11 x0)), (1, .int x1), (2, .int x2)]) (h : fX11_overdue_22b N K22 x0 x1 x2 z = some (r, z')) : W p l e rmX11_overdue s m args below meth c H locs 0 0 Q (F0 m 22 ls []) := by
  unfold fX11_overdue_22b at h
  refine lv_iload_n F.1 F.2.1 dX11_overdue_22 rfl (lv_at hl 2 rfl) ?_
  refine lv_aload_n F.1 F.2.1 dX11_overdue_23 rfl (lv_at hl 0 rfl) ?_
  refine gf11_61 F hx0 hr dX11_overdue_24 ?_
  refine lv_icmp_ge (tgt := 69) F.1 F.2.1 dX11_overdue_27 (by decide) (fun c1 => ?_) (fun c1 => ?_)
  · replace h := zi_t c1 h
    refine lv_iload_n F.1 F.2.1 dX11_overdue_69 rfl (lv_at hl 1 rfl) ?_
    obtain ⟨rfl, rfl⟩ := zret h
    exact E _ _ _ _ dX11_overdue_70 trivial hr
  · replace h := zi_f c1 h
    refine lv_aload_n F.1 F.2.1 dX11_overdue_30 rfl (lv_at hl 0 rfl) ?_
    refine gf11_17 F hx0 hr dX11_overdue_31 ?_
    refine lv_iload_n F.1 F.2.1 dX11_overdue_34 rfl (lv_at hl 2 rfl) ?_
    replace h := zk_some h
    obtain ⟨c2, h⟩ := h
    refine zr_aaldv (k := 140) (by decide) rfl rfl (zlen_d (by decide)) F (zal_a F hx0 (j := 2) rfl) hr dX11_overdue_35 c2 (fun y3 ey3 => ?_)
    replace h := zl_sub ey3 h
    have hy3 := zal_q hr (zal_a F hx0 (j := 2) rfl) rfl ey3
    clear ey3
    refine zr_astore_n (lv' := [(3, va_rf (Option.map (B 1) y3)), (0, .ref (B 11 x0)), (1, .int x1), (2, .int x2)]) F.1 F.2.1 dX11_overdue_36 rfl hl (by decide) rfl (fun ls hl => ?_)
    refine zr_aload_n F.1 F.2.1 dX11_overdue_37 rfl (lv_at hl 0 rfl) ?_
    replace h := zd_some h
    obtain ⟨a4, rfl, h⟩ := h
    refine gf11_109 F (hy3 _ rfl) hr dX11_overdue_38 ?_
    refine lv_if_eq (tgt := 55) F.1 F.2.1 dX11_overdue_41 (by decide) (fun c5 => ?_) (fun c5 => ?_)
    · replace h := zi_t c5 h
      refine lv_iload_n F.1 F.2.1 dX11_overdue_55 rfl (lv_at hl 2 rfl) ?_
      refine lv_aload_n F.1 F.2.1 dX11_overdue_56 rfl (lv_at hl 1 rfl) ?_
      refine lv_aload_n F.1 F.2.1 dX11_overdue_57 rfl (lv_at hl 0 rfl) ?_
      replace h := zc_some h
      obtain ⟨r6, z7, hc8, h⟩ := h
      refine zr_calli (zrun_V (As := [.ref (B 1 a4)]) (rest := [.int x1]) zq_306 zq_308 zs_X11_stuckEnds zq_309 zq_1 hdX11_stuckEnds (by decide) (T := TX11) (N := 21) rfl (okX11_stuckEnds l D cy B ids hst N x0 hx0 a4 (hy3 _ rfl) hr.2.2 hc8) F hr hx0 hl.1 rfl (Nat.le_of_ble_eq_true rfl) dX11_overdue_58 rfl rfl hroX11_overdue_X11_stuckEnds ⟨Nat.zero_le _, Nat.zero_le _⟩) F hA hr (fun H locs hw9 hr => ?_)
      clear hc8
      refine lv_iadd F.1 F.2.1 dX11_overdue_61 ?_
      refine lv_topi (fun v10 ev10 => ?_)
      replace h := zl_sub ev10 h
      refine lv_istore_n (lv' := [(1, .int v10), (3, .ref (B 1 a4)), (0, .ref (B 11 x0)), (2, .int x2)]) F.1 F.2.1 dX11_overdue_62 rfl hl (by decide) rfl (fun ls hl => ?_)
      exact bX11_overdue_63 hst F hA E hK22 x0 v10 x2 hx0 hr (lv_sub hl [2, 0, 3] rfl) h
    · replace h := zi_f c5 h
      refine lv_iload_n F.1 F.2.1 dX11_overdue_44 rfl (lv_at hl 2 rfl) ?_
      refine lv_aload_n F.1 F.2.1 dX11_overdue_45 rfl (lv_at hl 1 rfl) ?_
      refine lv_aload_n F.1 F.2.1 dX11_overdue_46 rfl (lv_at hl 0 rfl) ?_
      replace h := zc_some h
      obtain ⟨r11, z12, hc13, h⟩ := h
      refine zr_calli (zrun_V (As := [.ref (B 1 a4)]) (rest := [.int x1]) zq_285 zq_287 zs_X11_wrongWays zq_288 zq_1 hdX11_wrongWays (by decide) (T := TX11) (N := 21) rfl (okX11_wrongWays l D cy B ids hst N x0 hx0 a4 (hy3 _ rfl) hr.2.2 hc13) F hr hx0 hl.1 rfl (Nat.le_of_ble_eq_true rfl) dX11_overdue_47 rfl rfl hroX11_overdue_X11_wrongWays ⟨Nat.zero_le _, Nat.zero_le _⟩) F hA hr (fun H locs hw14 hr => ?_)
      clear hc13
      refine lv_iadd F.1 F.2.1 dX11_overdue_50 ?_
      refine lv_topi (fun v15 ev15 => ?_)
      replace h := zl_sub ev15 h
      refine lv_istore_n (lv' := [(1, .int v15), (3, .ref (B 1 a4)), (0, .ref (B 11 x0)), (2, .int x2)]) F.1 F.2.1 dX11_overdue_51 rfl hl (by decide) rfl (fun ls hl => ?_)
      refine lv_goto (tgt := 63) F.1 F.2.1 dX11_overdue_52 (by decide) ?_
      exact bX11_overdue_63 hst F hA E hK22 x0 v15 x2 hx0 hr (lv_sub hl [2, 0, 3] rfl) h
theorem lX11_overdue_22 (hst : zSt B ids) (F : zFx p m c cX11_overdue 4 s args RX11 D cy B ids A) (hA : ∀ q : Nat, s.heap.size ≤ q → A q) {r : Int32} {z' : St} (E : zEnd p l e rmX11_overdue s m args below meth c cX11_overdue D cy B ids A Q (some (.int r)) z' .ireturn True) {N : Nat}  : ∀ (n : Nat) (x0 : Nat) (x1 : Int32) (x2 : Int32) (hx0 : (11, x0) ∈ ids) {z : St} {H : Heap} {locs : List Loc} {ls : Array Slot} (hr : zRep D cy B ids A s.heap z H locs) (hl : lv_has ls 4 [(0, .ref (B 11 x0)), (1, .int x1), (2, .int x2)]), fX11_overdue_22 N  n x0 x1 x2 z = some (r, z') → W p l e rmX11_overdue s m args below meth c H locs 0 0 Q (F0 m 22 ls []) := by
  intro n
  induction n with
  | zero => intro x0 x1 x2 hx0 z H locs ls hr hl h; cases h
  | succ n ih => intro x0 x1 x2 hx0 z H locs ls hr hl h; exact bX11_overdue_22 hst F hA E ih x0 x1 x2 hx0 hr hl h
def fX11_overdue (N : Nat)  (x0 : Nat) (z : St) : Option (Int32 × St) := zc (fX11_calmBound N x0 z) fun r1 z2 => if r1 ≤ ((zgI z 11 4 x0) - (zgI z 11 5 x0)) then (fX11_overdue_22 N N x0 (0 : Int32) (0 : Int32) z2) else (some ((0 : Int32), z2))
set_option maxHeartbeats 4000000 in
set_option maxRecDepth 100000 in
theorem bX11_overdue_0 (hst : zSt B ids) (F : zFx p m c cX11_overdue 4 s args RX11 D cy B ids A) (hA : ∀ q : Nat, s.heap.size ≤ q → A q) {r : Int32} {z' : St} (E : zEnd p l e rmX11_overdue s m args below meth c cX11_overdue D cy B ids A Q (some (.int r)) z' .ireturn True) {N : Nat}  (x0 : Nat) (hx0 : (11, x0) ∈ ids) {z : St} {H : Heap} {locs : List Loc} {ls : Array Slot} (hr : zRep D cy B ids A s.heap z H locs) (hl : lv_has ls 4 [(0, .ref (B 11 x0))]) (h : fX11_overdue N x0 z = some (r, z')) : W p l e rmX11_overdue s m args below meth c H locs 0 0 Q (F0 m 0 ls []) := by
  unfold fX11_overdue at h
  refine lv_aload_n F.1 F.2.1 dX11_overdue_0 rfl (lv_at hl 0 rfl) ?_
  refine gf11_176 F hx0 hr dX11_overdue_1 ?_
  refine lv_aload_n F.1 F.2.1 dX11_overdue_4 rfl (lv_at hl 0 rfl) ?_
  refine gf11_455 F hx0 hr dX11_overdue_5 ?_
  refine lv_isub F.1 F.2.1 dX11_overdue_8 ?_
  refine lv_aload_n F.1 F.2.1 dX11_overdue_9 rfl (lv_at hl 0 rfl) ?_
  replace h := zc_some h
  obtain ⟨r1, z2, hc3, h⟩ := h
  refine zr_calli (zrun_V (As := []) (rest := [.int ((zgI z 11 4 x0) - (zgI z 11 5 x0))]) zq_270 zq_272 zs_X11_calmBound zq_273 zq_1 hdX11_calmBound (by decide) (T := TX11) (N := 21) rfl (okX11_calmBound l D cy B ids hst N x0 hx0 hr.2.2 hc3) F hr hx0 hl.1 rfl (Nat.le_of_ble_eq_true rfl) dX11_overdue_10 rfl rfl hroX11_overdue_X11_calmBound ⟨Nat.zero_le _, Nat.zero_le _⟩) F hA hr (fun H locs hw4 hr => ?_)
  clear hc3
  refine lv_icmp_ge (tgt := 18) F.1 F.2.1 dX11_overdue_13 (by decide) (fun c5 => ?_) (fun c5 => ?_)
  · replace h := zi_t c5 h
    refine lv_iconst (v := (0 : Int32)) F.1 F.2.1 dX11_overdue_18 (by decide) ?_
    refine lv_istore_n (lv' := [(1, .int (0 : Int32)), (0, .ref (B 11 x0))]) F.1 F.2.1 dX11_overdue_19 rfl hl (by decide) rfl (fun ls hl => ?_)
    refine lv_iconst (v := (0 : Int32)) F.1 F.2.1 dX11_overdue_20 (by decide) ?_
    refine lv_istore_n (lv' := [(2, .int (0 : Int32)), (1, .int (0 : Int32)), (0, .ref (B 11 x0))]) F.1 F.2.1 dX11_overdue_21 rfl hl (by decide) rfl (fun ls hl => ?_)
    exact lX11_overdue_22 hst F hA E  _ x0 (0 : Int32) (0 : Int32) hx0 hr (lv_sub hl [2, 1, 0] rfl) h
  · replace h := zi_f c5 h
    refine lv_iconst (v := (0 : Int32)) F.1 F.2.1 dX11_overdue_16 (by decide) ?_
    obtain ⟨rfl, rfl⟩ := zret h
    exact E _ _ _ _ dX11_overdue_17 trivial hr
end SX11_overdue
set_option maxRecDepth 100000 in
theorem okX11_overdue (l : Launch) (D : va_G) (cy : Nat → ClassId) (B : Nat → Nat → Nat) (ids : List (Nat × Nat)) (hst : zSt B ids) (N : Nat) (x0 : Nat) (hx0 : (11, x0) ∈ ids) {z : St} {r : Int32} {z' : St} (hW : zWf ids z) (h : fX11_overdue N x0 z = some (r, z')) : zM l yX11_overdue (zws yX11_overdue cX11_overdue 4 (some .int)) rmX11_overdue D cy B ids [.ref (B 11 x0)] (some (.int r)) True z z' :=
  zM_of hst hW (by decide +kernel) (Nat.le_of_ble_eq_true rfl) (fun p e s m args below meth c A ls F hA hret hlocks hr hl => bX11_overdue_0 hst F hA (zEnd_i F hret hlocks) x0 hx0 hr hl h)
abbrev rmX11_boxOf : Room := { frames := 0, cells := 0, slots := 0, locals := 0 }
theorem hdX11_boxOf : yX11_boxOf.cls ≠ "java/lang/invoke/MethodHandle" ∧ yX11_boxOf.cls ≠ "java/lang/invoke/VarHandle" ∧ (parseMethodDescriptor yX11_boxOf.desc).map (fun d => d.parameters.length) = some 1 := by decide +kernel
section SX11_boxOf
variable {p : Program} {l : Launch} {e : Env} {s : State} {m : MethodId} {args : Array Value} {below : List Frame} {meth : Method} {c : Code} {Q : State → Prop} {D : va_G} {cy : Nat → ClassId} {B : Nat → Nat → Nat} {ids : List (Nat × Nat)} {A : Nat → Prop}
def fX11_boxOf (N : Nat)  (x0 : Nat) (x1 : Int32) (z : St) : Option (Option Nat × St) := if x1 < 0 then (some (none, z)) else (if (zgI z 11 3 x0) ≤ x1 then (some (none, z)) else (zk x1 16 <| zl (zgQ z 140 x0 (Int32.toNatClampNeg x1)) fun y4 => some (y4, z)))
set_option maxHeartbeats 4000000 in
set_option maxRecDepth 100000 in
theorem bX11_boxOf_0 (hst : zSt B ids) (F : zFx p m c cX11_boxOf 2 s args RX11 D cy B ids A) (hA : ∀ q : Nat, s.heap.size ≤ q → A q) {r : Option Nat} {z' : St} (E : zEnd p l e rmX11_boxOf s m args below meth c cX11_boxOf D cy B ids A Q (some (va_rf (r.map (B 1)))) z' .areturn (∀ i, r = some i → (1, i) ∈ ids)) {N : Nat}  (x0 : Nat) (x1 : Int32) (hx0 : (11, x0) ∈ ids) {z : St} {H : Heap} {locs : List Loc} {ls : Array Slot} (hr : zRep D cy B ids A s.heap z H locs) (hl : lv_has ls 2 [(0, .ref (B 11 x0)), (1, .int x1)]) (h : fX11_boxOf N x0 x1 z = some (r, z')) : W p l e rmX11_boxOf s m args below meth c H locs 0 0 Q (F0 m 0 ls []) := by
  unfold fX11_boxOf at h
  refine lv_iload_n F.1 F.2.1 dX11_boxOf_0 rfl (lv_at hl 1 rfl) ?_
  refine lv_if_lt (tgt := 21) F.1 F.2.1 dX11_boxOf_1 (by decide) (fun c1 => ?_) (fun c1 => ?_)
  · replace h := zi_t c1 h
    refine lv_null F.1 F.2.1 dX11_boxOf_21 ?_
    obtain ⟨rfl, rfl⟩ := zret h
    exact E _ _ _ _ dX11_boxOf_22 zal_0 hr
  · replace h := zi_f c1 h
    refine lv_iload_n F.1 F.2.1 dX11_boxOf_4 rfl (lv_at hl 1 rfl) ?_
    refine lv_aload_n F.1 F.2.1 dX11_boxOf_5 rfl (lv_at hl 0 rfl) ?_
    refine gf11_61 F hx0 hr dX11_boxOf_6 ?_
    refine lv_icmp_ge (tgt := 21) F.1 F.2.1 dX11_boxOf_9 (by decide) (fun c2 => ?_) (fun c2 => ?_)
    · replace h := zi_t c2 h
      refine lv_null F.1 F.2.1 dX11_boxOf_21 ?_
      obtain ⟨rfl, rfl⟩ := zret h
      exact E _ _ _ _ dX11_boxOf_22 zal_0 hr
    · replace h := zi_f c2 h
      refine lv_aload_n F.1 F.2.1 dX11_boxOf_12 rfl (lv_at hl 0 rfl) ?_
      refine gf11_17 F hx0 hr dX11_boxOf_13 ?_
      refine lv_iload_n F.1 F.2.1 dX11_boxOf_16 rfl (lv_at hl 1 rfl) ?_
      replace h := zk_some h
      obtain ⟨c3, h⟩ := h
      refine zr_aaldv (k := 140) (by decide) rfl rfl (zlen_d (by decide)) F (zal_a F hx0 (j := 2) rfl) hr dX11_boxOf_17 c3 (fun y4 ey4 => ?_)
      replace h := zl_sub ey4 h
      have hy4 := zal_q hr (zal_a F hx0 (j := 2) rfl) rfl ey4
      clear ey4
      refine lv_goto (tgt := 22) F.1 F.2.1 dX11_boxOf_18 (by decide) ?_
      obtain ⟨rfl, rfl⟩ := zret h
      exact E _ _ _ _ dX11_boxOf_22 hy4 hr
end SX11_boxOf
set_option maxRecDepth 100000 in
theorem okX11_boxOf (l : Launch) (D : va_G) (cy : Nat → ClassId) (B : Nat → Nat → Nat) (ids : List (Nat × Nat)) (hst : zSt B ids) (N : Nat) (x0 : Nat) (hx0 : (11, x0) ∈ ids) (x1 : Int32) {z : St} {r : Option Nat} {z' : St} (hW : zWf ids z) (h : fX11_boxOf N x0 x1 z = some (r, z')) : zM l yX11_boxOf (zws yX11_boxOf cX11_boxOf 2 (some (.object "WholeInternet$Box"))) rmX11_boxOf D cy B ids [.ref (B 11 x0), .int x1] (some (va_rf (r.map (B 1)))) (∀ i, r = some i → (1, i) ∈ ids) z z' :=
  zM_of hst hW (by decide +kernel) (Nat.le_of_ble_eq_true rfl) (fun p e s m args below meth c A ls F hA hret hlocks hr hl => bX11_boxOf_0 hst F hA (zEnd_r F hret hlocks) x0 x1 hx0 hr hl h)
abbrev rmX11_hostOf : Room := { frames := 1, cells := 0, slots := 0, locals := 21 }
theorem hdX11_hostOf : yX11_hostOf.cls ≠ "java/lang/invoke/MethodHandle" ∧ yX11_hostOf.cls ≠ "java/lang/invoke/VarHandle" ∧ (parseMethodDescriptor yX11_hostOf.desc).map (fun d => d.parameters.length) = some 1 := by decide +kernel
theorem hroX11_hostOf_X11_boxOf : rmX11_boxOf.frames + 1 ≤ rmX11_hostOf.frames ∧ 8 + (2 + 11) + rmX11_boxOf.locals ≤ rmX11_hostOf.locals := by decide
section SX11_hostOf
variable {p : Program} {l : Launch} {e : Env} {s : State} {m : MethodId} {args : Array Value} {below : List Frame} {meth : Method} {c : Code} {Q : State → Prop} {D : va_G} {cy : Nat → ClassId} {B : Nat → Nat → Nat} {ids : List (Nat × Nat)} {A : Nat → Prop}
def fX11_hostOf_17 (N : Nat)   (z : St) : Option (Option Nat × St) := some (none, z)
set_option maxHeartbeats 4000000 in
set_option maxRecDepth 100000 in
theorem bX11_hostOf_17 (hst : zSt B ids) (F : zFx p m c cX11_hostOf 3 s args RX11 D cy B ids A) (hA : ∀ q : Nat, s.heap.size ≤ q → A q) {r : Option Nat} {z' : St} (E : zEnd p l e rmX11_hostOf s m args below meth c cX11_hostOf D cy B ids A Q (some (va_rf (r.map (B 1)))) z' .areturn (∀ i, r = some i → (1, i) ∈ ids)) {N : Nat}    {z : St} {H : Heap} {locs : List Loc} {ls : Array Slot} (hr : zRep D cy B ids A s.heap z H locs) (hl : lv_has ls 3 []) (h : fX11_hostOf_17 N z = some (r, z')) : W p l e rmX11_hostOf s m args below meth c H locs 0 0 Q (F0 m 17 ls []) := by
  unfold fX11_hostOf_17 at h
  refine lv_null F.1 F.2.1 dX11_hostOf_17 ?_
  refine lv_goto (tgt := 22) F.1 F.2.1 dX11_hostOf_18 (by decide) ?_
  obtain ⟨rfl, rfl⟩ := zret h
  exact E _ _ _ _ dX11_hostOf_22 zal_0 hr
def fX11_hostOf (N : Nat)  (x0 : Nat) (x1 : Int32) (z : St) : Option (Option Nat × St) := zc (fX11_boxOf N x0 x1 z) fun r1 z2 => zo r1 (fX11_hostOf_17 N z2) fun a6 => if (zgI z2 1 1 a6) = 0 then (some ((some a6), z2)) else (fX11_hostOf_17 N z2)
set_option maxHeartbeats 4000000 in
set_option maxRecDepth 100000 in
theorem bX11_hostOf_0 (hst : zSt B ids) (F : zFx p m c cX11_hostOf 3 s args RX11 D cy B ids A) (hA : ∀ q : Nat, s.heap.size ≤ q → A q) {r : Option Nat} {z' : St} (E : zEnd p l e rmX11_hostOf s m args below meth c cX11_hostOf D cy B ids A Q (some (va_rf (r.map (B 1)))) z' .areturn (∀ i, r = some i → (1, i) ∈ ids)) {N : Nat}  (x0 : Nat) (x1 : Int32) (hx0 : (11, x0) ∈ ids) {z : St} {H : Heap} {locs : List Loc} {ls : Array Slot} (hr : zRep D cy B ids A s.heap z H locs) (hl : lv_has ls 3 [(0, .ref (B 11 x0)), (1, .int x1)]) (h : fX11_hostOf N x0 x1 z = some (r, z')) : W p l e rmX11_hostOf s m args below meth c H locs 0 0 Q (F0 m 0 ls []) := by
  unfold fX11_hostOf at h
  refine lv_aload_n F.1 F.2.1 dX11_hostOf_0 rfl (lv_at hl 0 rfl) ?_
  refine lv_iload_n F.1 F.2.1 dX11_hostOf_1 rfl (lv_at hl 1 rfl) ?_
  replace h := zc_some h
  obtain ⟨r1, z2, hc3, h⟩ := h
  refine zr_callr (zrun_V (As := [.int x1]) (rest := []) zq_899 zq_901 zs_X11_boxOf zq_902 zq_1 hdX11_boxOf (by decide) (T := TX11) (N := 21) rfl (okX11_boxOf l D cy B ids hst N x0 hx0 x1  hr.2.2 hc3) F hr hx0 hl.1 rfl (by decide) dX11_hostOf_2 rfl rfl hroX11_hostOf_X11_boxOf ⟨Nat.zero_le _, Nat.zero_le _⟩) F hA hr (fun H locs hw4 hr => ?_)
  clear hc3
  refine zr_astore_n (lv' := [(2, va_rf (Option.map (B 1) r1)), (0, .ref (B 11 x0)), (1, .int x1)]) F.1 F.2.1 dX11_hostOf_5 rfl hl (by decide) rfl (fun ls hl => ?_)
  refine zr_aload_n F.1 F.2.1 dX11_hostOf_6 rfl (lv_at hl 0 rfl) ?_
  refine zr_ifnull (tgt := 17) F.1 F.2.1 dX11_hostOf_7 (by decide) (fun e5 => ?_) (fun a6 e5 => ?_)
  · replace h := zo_n e5 h
    subst e5
    exact bX11_hostOf_17 hst F hA E   hr (lv_sub hl [] rfl) h
  · replace h := zo_s e5 h
    subst e5
    refine lv_aload_n F.1 F.2.1 dX11_hostOf_10 rfl (lv_at hl 0 rfl) ?_
    refine gf11_109 F (hw4 _ rfl) hr dX11_hostOf_11 ?_
    refine lv_if_eq (tgt := 21) F.1 F.2.1 dX11_hostOf_14 (by decide) (fun c7 => ?_) (fun c7 => ?_)
    · replace h := zi_t c7 h
      refine lv_aload_n F.1 F.2.1 dX11_hostOf_21 rfl (lv_at hl 0 rfl) ?_
      obtain ⟨rfl, rfl⟩ := zret h
      exact E _ _ _ _ dX11_hostOf_22 (zal_s (hw4 _ rfl)) hr
    · replace h := zi_f c7 h
      exact bX11_hostOf_17 hst F hA E   hr (lv_sub hl [] rfl) h
end SX11_hostOf
set_option maxRecDepth 100000 in
theorem okX11_hostOf (l : Launch) (D : va_G) (cy : Nat → ClassId) (B : Nat → Nat → Nat) (ids : List (Nat × Nat)) (hst : zSt B ids) (N : Nat) (x0 : Nat) (hx0 : (11, x0) ∈ ids) (x1 : Int32) {z : St} {r : Option Nat} {z' : St} (hW : zWf ids z) (h : fX11_hostOf N x0 x1 z = some (r, z')) : zM l yX11_hostOf (zws yX11_hostOf cX11_hostOf 3 (some (.object "WholeInternet$Box"))) rmX11_hostOf D cy B ids [.ref (B 11 x0), .int x1] (some (va_rf (r.map (B 1)))) (∀ i, r = some i → (1, i) ∈ ids) z z' :=
  zM_of hst hW (by decide +kernel) (Nat.le_of_ble_eq_true rfl) (fun p e s m args below meth c A ls F hA hret hlocks hr hl => bX11_hostOf_0 hst F hA (zEnd_r F hret hlocks) x0 x1 hx0 hr hl h)
abbrev rmX11_routerOf : Room := { frames := 1, cells := 0, slots := 0, locals := 21 }
theorem hdX11_routerOf : yX11_routerOf.cls ≠ "java/lang/invoke/MethodHandle" ∧ yX11_routerOf.cls ≠ "java/lang/invoke/VarHandle" ∧ (parseMethodDescriptor yX11_routerOf.desc).map (fun d => d.parameters.length) = some 1 := by decide +kernel
theorem hroX11_routerOf_X11_boxOf : rmX11_boxOf.frames + 1 ≤ rmX11_routerOf.frames ∧ 8 + (2 + 11) + rmX11_boxOf.locals ≤ rmX11_routerOf.locals := by decide
section SX11_routerOf
variable {p : Program} {l : Launch} {e : Env} {s : State} {m : MethodId} {args : Array Value} {below : List Frame} {meth : Method} {c : Code} {Q : State → Prop} {D : va_G} {cy : Nat → ClassId} {B : Nat → Nat → Nat} {ids : List (Nat × Nat)} {A : Nat → Prop}
def fX11_routerOf_17 (N : Nat)   (z : St) : Option (Option Nat × St) := some (none, z)
set_option maxHeartbeats 4000000 in
set_option maxRecDepth 100000 in
theorem bX11_routerOf_17 (hst : zSt B ids) (F : zFx p m c cX11_routerOf 3 s args RX11 D cy B ids A) (hA : ∀ q : Nat, s.heap.size ≤ q → A q) {r : Option Nat} {z' : St} (E : zEnd p l e rmX11_routerOf s m args below meth c cX11_routerOf D cy B ids A Q (some (va_rf (r.map (B 1)))) z' .areturn (∀ i, r = some i → (1, i) ∈ ids)) {N : Nat}    {z : St} {H : Heap} {locs : List Loc} {ls : Array Slot} (hr : zRep D cy B ids A s.heap z H locs) (hl : lv_has ls 3 []) (h : fX11_routerOf_17 N z = some (r, z')) : W p l e rmX11_routerOf s m args below meth c H locs 0 0 Q (F0 m 17 ls []) := by
  unfold fX11_routerOf_17 at h
  refine lv_null F.1 F.2.1 dX11_routerOf_17 ?_
  refine lv_goto (tgt := 22) F.1 F.2.1 dX11_routerOf_18 (by decide) ?_
  obtain ⟨rfl, rfl⟩ := zret h
  exact E _ _ _ _ dX11_routerOf_22 zal_0 hr
def fX11_routerOf (N : Nat)  (x0 : Nat) (x1 : Int32) (z : St) : Option (Option Nat × St) := zc (fX11_boxOf N x0 x1 z) fun r1 z2 => zo r1 (fX11_routerOf_17 N z2) fun a6 => if ¬ (zgI z2 1 1 a6) = 0 then (some ((some a6), z2)) else (fX11_routerOf_17 N z2)
set_option maxHeartbeats 4000000 in
set_option maxRecDepth 100000 in
theorem bX11_routerOf_0 (hst : zSt B ids) (F : zFx p m c cX11_routerOf 3 s args RX11 D cy B ids A) (hA : ∀ q : Nat, s.heap.size ≤ q → A q) {r : Option Nat} {z' : St} (E : zEnd p l e rmX11_routerOf s m args below meth c cX11_routerOf D cy B ids A Q (some (va_rf (r.map (B 1)))) z' .areturn (∀ i, r = some i → (1, i) ∈ ids)) {N : Nat}  (x0 : Nat) (x1 : Int32) (hx0 : (11, x0) ∈ ids) {z : St} {H : Heap} {locs : List Loc} {ls : Array Slot} (hr : zRep D cy B ids A s.heap z H locs) (hl : lv_has ls 3 [(0, .ref (B 11 x0)), (1, .int x1)]) (h : fX11_routerOf N x0 x1 z = some (r, z')) : W p l e rmX11_routerOf s m args below meth c H locs 0 0 Q (F0 m 0 ls []) := by
  unfold fX11_routerOf at h
  refine lv_aload_n F.1 F.2.1 dX11_routerOf_0 rfl (lv_at hl 0 rfl) ?_
  refine lv_iload_n F.1 F.2.1 dX11_routerOf_1 rfl (lv_at hl 1 rfl) ?_
  replace h := zc_some h
  obtain ⟨r1, z2, hc3, h⟩ := h
  refine zr_callr (zrun_V (As := [.int x1]) (rest := []) zq_899 zq_901 zs_X11_boxOf zq_902 zq_1 hdX11_boxOf (by decide) (T := TX11) (N := 21) rfl (okX11_boxOf l D cy B ids hst N x0 hx0 x1  hr.2.2 hc3) F hr hx0 hl.1 rfl (by decide) dX11_routerOf_2 rfl rfl hroX11_routerOf_X11_boxOf ⟨Nat.zero_le _, Nat.zero_le _⟩) F hA hr (fun H locs hw4 hr => ?_)
  clear hc3
  refine zr_astore_n (lv' := [(2, va_rf (Option.map (B 1) r1)), (0, .ref (B 11 x0)), (1, .int x1)]) F.1 F.2.1 dX11_routerOf_5 rfl hl (by decide) rfl (fun ls hl => ?_)
  refine zr_aload_n F.1 F.2.1 dX11_routerOf_6 rfl (lv_at hl 0 rfl) ?_
  refine zr_ifnull (tgt := 17) F.1 F.2.1 dX11_routerOf_7 (by decide) (fun e5 => ?_) (fun a6 e5 => ?_)
  · replace h := zo_n e5 h
    subst e5
    exact bX11_routerOf_17 hst F hA E   hr (lv_sub hl [] rfl) h
  · replace h := zo_s e5 h
    subst e5
    refine lv_aload_n F.1 F.2.1 dX11_routerOf_10 rfl (lv_at hl 0 rfl) ?_
    refine gf11_109 F (hw4 _ rfl) hr dX11_routerOf_11 ?_
    refine lv_if_ne (tgt := 21) F.1 F.2.1 dX11_routerOf_14 (by decide) (fun c7 => ?_) (fun c7 => ?_)
    · replace h := zi_t c7 h
      refine lv_aload_n F.1 F.2.1 dX11_routerOf_21 rfl (lv_at hl 0 rfl) ?_
      obtain ⟨rfl, rfl⟩ := zret h
      exact E _ _ _ _ dX11_routerOf_22 (zal_s (hw4 _ rfl)) hr
    · replace h := zi_f (fun q => q c7) h
      exact bX11_routerOf_17 hst F hA E   hr (lv_sub hl [] rfl) h
end SX11_routerOf
set_option maxRecDepth 100000 in
theorem okX11_routerOf (l : Launch) (D : va_G) (cy : Nat → ClassId) (B : Nat → Nat → Nat) (ids : List (Nat × Nat)) (hst : zSt B ids) (N : Nat) (x0 : Nat) (hx0 : (11, x0) ∈ ids) (x1 : Int32) {z : St} {r : Option Nat} {z' : St} (hW : zWf ids z) (h : fX11_routerOf N x0 x1 z = some (r, z')) : zM l yX11_routerOf (zws yX11_routerOf cX11_routerOf 3 (some (.object "WholeInternet$Box"))) rmX11_routerOf D cy B ids [.ref (B 11 x0), .int x1] (some (va_rf (r.map (B 1)))) (∀ i, r = some i → (1, i) ∈ ids) z z' :=
  zM_of hst hW (by decide +kernel) (Nat.le_of_ble_eq_true rfl) (fun p e s m args below meth c A ls F hA hret hlocks hr hl => bX11_routerOf_0 hst F hA (zEnd_r F hret hlocks) x0 x1 hx0 hr hl h)
abbrev rmX11_netOf : Room := { frames := 0, cells := 0, slots := 0, locals := 0 }
theorem hdX11_netOf : yX11_netOf.cls ≠ "java/lang/invoke/MethodHandle" ∧ yX11_netOf.cls ≠ "java/lang/invoke/VarHandle" ∧ (parseMethodDescriptor yX11_netOf.desc).map (fun d => d.parameters.length) = some 1 := by decide +kernel
section SX11_netOf
variable {p : Program} {l : Launch} {e : Env} {s : State} {m : MethodId} {args : Array Value} {below : List Frame} {meth : Method} {c : Code} {Q : State → Prop} {D : va_G} {cy : Nat → ClassId} {B : Nat → Nat → Nat} {ids : List (Nat × Nat)} {A : Nat → Prop}
def fX11_netOf (N : Nat)  (x0 : Nat) (x1 : Int32) (z : St) : Option (Option Nat × St) := if x1 < 0 then (some (none, z)) else (if (zgI z 11 1 x0) ≤ x1 then (some (none, z)) else (zk x1 24 <| zl (zgQ z 139 x0 (Int32.toNatClampNeg x1)) fun y4 => some (y4, z)))
set_option maxHeartbeats 4000000 in
set_option maxRecDepth 100000 in
theorem bX11_netOf_0 (hst : zSt B ids) (F : zFx p m c cX11_netOf 2 s args RX11 D cy B ids A) (hA : ∀ q : Nat, s.heap.size ≤ q → A q) {r : Option Nat} {z' : St} (E : zEnd p l e rmX11_netOf s m args below meth c cX11_netOf D cy B ids A Q (some (va_rf (r.map (B 5)))) z' .areturn (∀ i, r = some i → (5, i) ∈ ids)) {N : Nat}  (x0 : Nat) (x1 : Int32) (hx0 : (11, x0) ∈ ids) {z : St} {H : Heap} {locs : List Loc} {ls : Array Slot} (hr : zRep D cy B ids A s.heap z H locs) (hl : lv_has ls 2 [(0, .ref (B 11 x0)), (1, .int x1)]) (h : fX11_netOf N x0 x1 z = some (r, z')) : W p l e rmX11_netOf s m args below meth c H locs 0 0 Q (F0 m 0 ls []) := by
  unfold fX11_netOf at h
  refine lv_iload_n F.1 F.2.1 dX11_netOf_0 rfl (lv_at hl 1 rfl) ?_
  refine lv_if_lt (tgt := 21) F.1 F.2.1 dX11_netOf_1 (by decide) (fun c1 => ?_) (fun c1 => ?_)
  · replace h := zi_t c1 h
    refine lv_null F.1 F.2.1 dX11_netOf_21 ?_
    obtain ⟨rfl, rfl⟩ := zret h
    exact E _ _ _ _ dX11_netOf_22 zal_0 hr
  · replace h := zi_f c1 h
    refine lv_iload_n F.1 F.2.1 dX11_netOf_4 rfl (lv_at hl 1 rfl) ?_
    refine lv_aload_n F.1 F.2.1 dX11_netOf_5 rfl (lv_at hl 0 rfl) ?_
    refine gf11_85 F hx0 hr dX11_netOf_6 ?_
    refine lv_icmp_ge (tgt := 21) F.1 F.2.1 dX11_netOf_9 (by decide) (fun c2 => ?_) (fun c2 => ?_)
    · replace h := zi_t c2 h
      refine lv_null F.1 F.2.1 dX11_netOf_21 ?_
      obtain ⟨rfl, rfl⟩ := zret h
      exact E _ _ _ _ dX11_netOf_22 zal_0 hr
    · replace h := zi_f c2 h
      refine lv_aload_n F.1 F.2.1 dX11_netOf_12 rfl (lv_at hl 0 rfl) ?_
      refine gf11_11 F hx0 hr dX11_netOf_13 ?_
      refine lv_iload_n F.1 F.2.1 dX11_netOf_16 rfl (lv_at hl 1 rfl) ?_
      replace h := zk_some h
      obtain ⟨c3, h⟩ := h
      refine zr_aaldv (k := 139) (by decide) rfl rfl (zlen_d (by decide)) F (zal_a F hx0 (j := 0) rfl) hr dX11_netOf_17 c3 (fun y4 ey4 => ?_)
      replace h := zl_sub ey4 h
      have hy4 := zal_q hr (zal_a F hx0 (j := 0) rfl) rfl ey4
      clear ey4
      refine lv_goto (tgt := 22) F.1 F.2.1 dX11_netOf_18 (by decide) ?_
      obtain ⟨rfl, rfl⟩ := zret h
      exact E _ _ _ _ dX11_netOf_22 hy4 hr
end SX11_netOf
set_option maxRecDepth 100000 in
theorem okX11_netOf (l : Launch) (D : va_G) (cy : Nat → ClassId) (B : Nat → Nat → Nat) (ids : List (Nat × Nat)) (hst : zSt B ids) (N : Nat) (x0 : Nat) (hx0 : (11, x0) ∈ ids) (x1 : Int32) {z : St} {r : Option Nat} {z' : St} (hW : zWf ids z) (h : fX11_netOf N x0 x1 z = some (r, z')) : zM l yX11_netOf (zws yX11_netOf cX11_netOf 2 (some (.object "WholeInternet$Net"))) rmX11_netOf D cy B ids [.ref (B 11 x0), .int x1] (some (va_rf (r.map (B 5)))) (∀ i, r = some i → (5, i) ∈ ids) z z' :=
  zM_of hst hW (by decide +kernel) (Nat.le_of_ble_eq_true rfl) (fun p e s m args below meth c A ls F hA hret hlocks hr hl => bX11_netOf_0 hst F hA (zEnd_r F hret hlocks) x0 x1 hx0 hr hl h)
abbrev rmX11_doorOf : Room := { frames := 2, cells := 0, slots := 0, locals := 43 }
theorem hdX11_doorOf : yX11_doorOf.cls ≠ "java/lang/invoke/MethodHandle" ∧ yX11_doorOf.cls ≠ "java/lang/invoke/VarHandle" ∧ (parseMethodDescriptor yX11_doorOf.desc).map (fun d => d.parameters.length) = some 2 := by decide +kernel
theorem hroX11_doorOf_X11_hostOf : rmX11_hostOf.frames + 1 ≤ rmX11_doorOf.frames ∧ 8 + (3 + 11) + rmX11_hostOf.locals ≤ rmX11_doorOf.locals := by decide
section SX11_doorOf
variable {p : Program} {l : Launch} {e : Env} {s : State} {m : MethodId} {args : Array Value} {below : List Frame} {meth : Method} {c : Code} {Q : State → Prop} {D : va_G} {cy : Nat → ClassId} {B : Nat → Nat → Nat} {ids : List (Nat × Nat)} {A : Nat → Prop}
def fX11_doorOf_20 (N : Nat)   (z : St) : Option (Option Nat × St) := some (none, z)
set_option maxHeartbeats 4000000 in
set_option maxRecDepth 100000 in
theorem bX11_doorOf_20 (hst : zSt B ids) (F : zFx p m c cX11_doorOf 4 s args RX11 D cy B ids A) (hA : ∀ q : Nat, s.heap.size ≤ q → A q) {r : Option Nat} {z' : St} (E : zEnd p l e rmX11_doorOf s m args below meth c cX11_doorOf D cy B ids A Q (some (va_rf (r.map (B 2)))) z' .areturn (∀ i, r = some i → (2, i) ∈ ids)) {N : Nat}    {z : St} {H : Heap} {locs : List Loc} {ls : Array Slot} (hr : zRep D cy B ids A s.heap z H locs) (hl : lv_has ls 4 []) (h : fX11_doorOf_20 N z = some (r, z')) : W p l e rmX11_doorOf s m args below meth c H locs 0 0 Q (F0 m 20 ls []) := by
  unfold fX11_doorOf_20 at h
  refine lv_null F.1 F.2.1 dX11_doorOf_20 ?_
  refine lv_goto (tgt := 30) F.1 F.2.1 dX11_doorOf_21 (by decide) ?_
  obtain ⟨rfl, rfl⟩ := zret h
  exact E _ _ _ _ dX11_doorOf_30 zal_0 hr
def fX11_doorOf (N : Nat)  (x0 : Nat) (x1 : Int32) (x2 : Int32) (z : St) : Option (Option Nat × St) := zc (fX11_hostOf N x0 x1 z) fun r1 z2 => zo r1 (fX11_doorOf_20 N z2) fun a6 => if x2 < 0 then (fX11_doorOf_20 N z2) else (if x2 < (6 : Int32) then (zk x2 (zlen z2 119 a6) <| zl (zgQ z2 119 a6 (Int32.toNatClampNeg x2)) fun y10 => some (y10, z2)) else (fX11_doorOf_20 N z2))
set_option maxHeartbeats 4000000 in
set_option maxRecDepth 100000 in
theorem bX11_doorOf_0 (hst : zSt B ids) (F : zFx p m c cX11_doorOf 4 s args RX11 D cy B ids A) (hA : ∀ q : Nat, s.heap.size ≤ q → A q) {r : Option Nat} {z' : St} (E : zEnd p l e rmX11_doorOf s m args below meth c cX11_doorOf D cy B ids A Q (some (va_rf (r.map (B 2)))) z' .areturn (∀ i, r = some i → (2, i) ∈ ids)) {N : Nat}  (x0 : Nat) (x1 : Int32) (x2 : Int32) (hx0 : (11, x0) ∈ ids) {z : St} {H : Heap} {locs : List Loc} {ls : Array Slot} (hr : zRep D cy B ids A s.heap z H locs) (hl : lv_has ls 4 [(0, .ref (B 11 x0)), (1, .int x1), (2, .int x2)]) (h : fX11_doorOf N x0 x1 x2 z = some (r, z')) : W p l e rmX11_doorOf s m args below meth c H locs 0 0 Q (F0 m 0 ls []) := by
  unfold fX11_doorOf at h
  refine lv_aload_n F.1 F.2.1 dX11_doorOf_0 rfl (lv_at hl 0 rfl) ?_
  refine lv_iload_n F.1 F.2.1 dX11_doorOf_1 rfl (lv_at hl 1 rfl) ?_
  replace h := zc_some h
  obtain ⟨r1, z2, hc3, h⟩ := h
  refine zr_callr (zrun_V (As := [.int x1]) (rest := []) zq_1684 zq_1686 zs_X11_hostOf zq_1687 zq_1 hdX11_hostOf (by decide) (T := TX11) (N := 21) rfl (okX11_hostOf l D cy B ids hst N x0 hx0 x1  hr.2.2 hc3) F hr hx0 hl.1 rfl (by decide) dX11_doorOf_2 rfl rfl hroX11_doorOf_X11_hostOf ⟨Nat.zero_le _, Nat.zero_le _⟩) F hA hr (fun H locs hw4 hr => ?_)
  clear hc3
  refine zr_astore_n (lv' := [(3, va_rf (Option.map (B 1) r1)), (0, .ref (B 11 x0)), (1, .int x1), (2, .int x2)]) F.1 F.2.1 dX11_doorOf_5 rfl hl (by decide) rfl (fun ls hl => ?_)
  refine zr_aload_n F.1 F.2.1 dX11_doorOf_6 rfl (lv_at hl 0 rfl) ?_
  refine zr_ifnull (tgt := 20) F.1 F.2.1 dX11_doorOf_7 (by decide) (fun e5 => ?_) (fun a6 e5 => ?_)
  · replace h := zo_n e5 h
    subst e5
    exact bX11_doorOf_20 hst F hA E   hr (lv_sub hl [] rfl) h
  · replace h := zo_s e5 h
    subst e5
    refine lv_iload_n F.1 F.2.1 dX11_doorOf_10 rfl (lv_at hl 3 rfl) ?_
    refine lv_if_lt (tgt := 20) F.1 F.2.1 dX11_doorOf_11 (by decide) (fun c7 => ?_) (fun c7 => ?_)
    · replace h := zi_t c7 h
      exact bX11_doorOf_20 hst F hA E   hr (lv_sub hl [] rfl) h
    · replace h := zi_f c7 h
      refine lv_iload_n F.1 F.2.1 dX11_doorOf_14 rfl (lv_at hl 3 rfl) ?_
      refine lv_bipush (v := (6 : Int32)) F.1 F.2.1 dX11_doorOf_15 (by decide) ?_
      refine lv_icmp_lt (tgt := 24) F.1 F.2.1 dX11_doorOf_17 (by decide) (fun c8 => ?_) (fun c8 => ?_)
      · replace h := zi_t c8 h
        refine lv_aload_n F.1 F.2.1 dX11_doorOf_24 rfl (lv_at hl 0 rfl) ?_
        refine gf11_220 F (hw4 _ rfl) hr dX11_doorOf_25 ?_
        refine lv_iload_n F.1 F.2.1 dX11_doorOf_28 rfl (lv_at hl 3 rfl) ?_
        replace h := zk_some h
        obtain ⟨c9, h⟩ := h
        refine zr_aaldv (k := 119) (by decide) rfl rfl rfl F (zal_a F (hw4 _ rfl) (j := 11) rfl) hr dX11_doorOf_29 c9 (fun y10 ey10 => ?_)
        replace h := zl_sub ey10 h
        have hy10 := zal_q hr (zal_a F (hw4 _ rfl) (j := 11) rfl) rfl ey10
        clear ey10
        obtain ⟨rfl, rfl⟩ := zret h
        exact E _ _ _ _ dX11_doorOf_30 hy10 hr
      · replace h := zi_f c8 h
        exact bX11_doorOf_20 hst F hA E   hr (lv_sub hl [] rfl) h
end SX11_doorOf
set_option maxRecDepth 100000 in
theorem okX11_doorOf (l : Launch) (D : va_G) (cy : Nat → ClassId) (B : Nat → Nat → Nat) (ids : List (Nat × Nat)) (hst : zSt B ids) (N : Nat) (x0 : Nat) (hx0 : (11, x0) ∈ ids) (x1 : Int32) (x2 : Int32) {z : St} {r : Option Nat} {z' : St} (hW : zWf ids z) (h : fX11_doorOf N x0 x1 x2 z = some (r, z')) : zM l yX11_doorOf (zws yX11_doorOf cX11_doorOf 4 (some (.object "WholeInternet$Door"))) rmX11_doorOf D cy B ids [.ref (B 11 x0), .int x1, .int x2] (some (va_rf (r.map (B 2)))) (∀ i, r = some i → (2, i) ∈ ids) z z' :=
  zM_of hst hW (by decide +kernel) (Nat.le_of_ble_eq_true rfl) (fun p e s m args below meth c A ls F hA hret hlocks hr hl => bX11_doorOf_0 hst F hA (zEnd_r F hret hlocks) x0 x1 x2 hx0 hr hl h)
abbrev rmX11_keyOf : Room := { frames := 0, cells := 0, slots := 0, locals := 0 }
theorem hdX11_keyOf : yX11_keyOf.cls ≠ "java/lang/invoke/MethodHandle" ∧ yX11_keyOf.cls ≠ "java/lang/invoke/VarHandle" ∧ (parseMethodDescriptor yX11_keyOf.desc).map (fun d => d.parameters.length) = some 2 := by decide +kernel
section SX11_keyOf
variable {p : Program} {l : Launch} {e : Env} {s : State} {m : MethodId} {args : Array Value} {below : List Frame} {meth : Method} {c : Code} {Q : State → Prop} {D : va_G} {cy : Nat → ClassId} {B : Nat → Nat → Nat} {ids : List (Nat × Nat)} {A : Nat → Prop}
def fX11_keyOf (N : Nat)  (x0 : Nat) (x1 : Int32) (z : St) : Option (Int32 × St) := some ((((zgI z 8 2 x0) * (16 : Int32)) + x1), z)
set_option maxHeartbeats 4000000 in
set_option maxRecDepth 100000 in
theorem bX11_keyOf_0 (hst : zSt B ids) (F : zFx p m c cX11_keyOf 2 s args RX11 D cy B ids A) (hA : ∀ q : Nat, s.heap.size ≤ q → A q) {r : Int32} {z' : St} (E : zEnd p l e rmX11_keyOf s m args below meth c cX11_keyOf D cy B ids A Q (some (.int r)) z' .ireturn True) {N : Nat}  (x0 : Nat) (x1 : Int32) (hx0 : (8, x0) ∈ ids) {z : St} {H : Heap} {locs : List Loc} {ls : Array Slot} (hr : zRep D cy B ids A s.heap z H locs) (hl : lv_has ls 2 [(0, .ref (B 8 x0)), (1, .int x1)]) (h : fX11_keyOf N x0 x1 z = some (r, z')) : W p l e rmX11_keyOf s m args below meth c H locs 0 0 Q (F0 m 0 ls []) := by
  unfold fX11_keyOf at h
  refine lv_aload_n F.1 F.2.1 dX11_keyOf_0 rfl (lv_at hl 0 rfl) ?_
  refine gf11_494 F hx0 hr dX11_keyOf_1 ?_
  refine lv_bipush (v := (16 : Int32)) F.1 F.2.1 dX11_keyOf_4 (by decide) ?_
  refine lv_imul F.1 F.2.1 dX11_keyOf_6 ?_
  refine lv_iload_n F.1 F.2.1 dX11_keyOf_7 rfl (lv_at hl 1 rfl) ?_
  refine lv_iadd F.1 F.2.1 dX11_keyOf_8 ?_
  obtain ⟨rfl, rfl⟩ := zret h
  exact E _ _ _ _ dX11_keyOf_9 trivial hr
end SX11_keyOf
set_option maxRecDepth 100000 in
theorem okX11_keyOf (l : Launch) (D : va_G) (cy : Nat → ClassId) (B : Nat → Nat → Nat) (ids : List (Nat × Nat)) (hst : zSt B ids) (N : Nat) (x0 : Nat) (hx0 : (8, x0) ∈ ids) (x1 : Int32) {z : St} {r : Int32} {z' : St} (hW : zWf ids z) (h : fX11_keyOf N x0 x1 z = some (r, z')) : zM l yX11_keyOf (zws yX11_keyOf cX11_keyOf 2 (some .int)) rmX11_keyOf D cy B ids [.ref (B 8 x0), .int x1] (some (.int r)) True z z' :=
  zM_of hst hW (by decide +kernel) (Nat.le_of_ble_eq_true rfl) (fun p e s m args below meth c A ls F hA hret hlocks hr hl => bX11_keyOf_0 hst F hA (zEnd_i F hret hlocks) x0 x1 hx0 hr hl h)
abbrev rmX11_firstNumber : Room := { frames := 0, cells := 0, slots := 0, locals := 0 }
theorem hdX11_firstNumber : yX11_firstNumber.cls ≠ "java/lang/invoke/MethodHandle" ∧ yX11_firstNumber.cls ≠ "java/lang/invoke/VarHandle" ∧ (parseMethodDescriptor yX11_firstNumber.desc).map (fun d => d.parameters.length) = some 1 := by decide +kernel
section SX11_firstNumber
variable {p : Program} {l : Launch} {e : Env} {s : State} {m : MethodId} {args : Array Value} {below : List Frame} {meth : Method} {c : Code} {Q : State → Prop} {D : va_G} {cy : Nat → ClassId} {B : Nat → Nat → Nat} {ids : List (Nat × Nat)} {A : Nat → Prop}
def fX11_firstNumber (N : Nat)  (x0 : Nat) (x1 : Nat) (z : St) : Option (Int32 × St) := some ((((64000 : Int32) * (zgI z 11 4 x0)) + ((977 : Int32) * (zgI z 1 0 x1))), z)
set_option maxHeartbeats 4000000 in
set_option maxRecDepth 100000 in
theorem bX11_firstNumber_0 (hst : zSt B ids) (F : zFx p m c cX11_firstNumber 2 s args RX11 D cy B ids A) (hA : ∀ q : Nat, s.heap.size ≤ q → A q) {r : Int32} {z' : St} (E : zEnd p l e rmX11_firstNumber s m args below meth c cX11_firstNumber D cy B ids A Q (some (.int r)) z' .ireturn True) {N : Nat}  (x0 : Nat) (x1 : Nat) (hx0 : (11, x0) ∈ ids) (hx1 : (1, x1) ∈ ids) {z : St} {H : Heap} {locs : List Loc} {ls : Array Slot} (hr : zRep D cy B ids A s.heap z H locs) (hl : lv_has ls 2 [(0, .ref (B 11 x0)), (1, .ref (B 1 x1))]) (h : fX11_firstNumber N x0 x1 z = some (r, z')) : W p l e rmX11_firstNumber s m args below meth c H locs 0 0 Q (F0 m 0 ls []) := by
  unfold fX11_firstNumber at h
  refine lv_ldcw (v := (64000)) F.1 F.2.1 F.2.2.2.1 (F.2.2.2.2.1 _ zq_1249) dX11_firstNumber_0 ?_
  refine lv_aload_n F.1 F.2.1 dX11_firstNumber_3 rfl (lv_at hl 0 rfl) ?_
  refine gf11_176 F hx0 hr dX11_firstNumber_4 ?_
  refine lv_imul F.1 F.2.1 dX11_firstNumber_7 ?_
  refine lv_sipush (v := (977 : Int32)) F.1 F.2.1 dX11_firstNumber_8 (by decide) ?_
  refine lv_aload_n F.1 F.2.1 dX11_firstNumber_11 rfl (lv_at hl 1 rfl) ?_
  refine gf11_484 F hx1 hr dX11_firstNumber_12 ?_
  refine lv_imul F.1 F.2.1 dX11_firstNumber_15 ?_
  refine lv_iadd F.1 F.2.1 dX11_firstNumber_16 ?_
  obtain ⟨rfl, rfl⟩ := zret h
  exact E _ _ _ _ dX11_firstNumber_17 trivial hr
end SX11_firstNumber
set_option maxRecDepth 100000 in
theorem okX11_firstNumber (l : Launch) (D : va_G) (cy : Nat → ClassId) (B : Nat → Nat → Nat) (ids : List (Nat × Nat)) (hst : zSt B ids) (N : Nat) (x0 : Nat) (hx0 : (11, x0) ∈ ids) (x1 : Nat) (hx1 : (1, x1) ∈ ids) {z : St} {r : Int32} {z' : St} (hW : zWf ids z) (h : fX11_firstNumber N x0 x1 z = some (r, z')) : zM l yX11_firstNumber (zws yX11_firstNumber cX11_firstNumber 2 (some .int)) rmX11_firstNumber D cy B ids [.ref (B 11 x0), .ref (B 1 x1)] (some (.int r)) True z z' :=
  zM_of hst hW (by decide +kernel) (Nat.le_of_ble_eq_true rfl) (fun p e s m args below meth c A ls F hA hret hlocks hr hl => bX11_firstNumber_0 hst F hA (zEnd_i F hret hlocks) x0 x1 hx0 hx1 hr hl h)
abbrev rmX11_stir : Room := { frames := 0, cells := 0, slots := 0, locals := 0 }
theorem hdX11_stir : yX11_stir.cls ≠ "java/lang/invoke/MethodHandle" ∧ yX11_stir.cls ≠ "java/lang/invoke/VarHandle" ∧ (parseMethodDescriptor yX11_stir.desc).map (fun d => d.parameters.length) = some 0 := by decide +kernel
section SX11_stir
variable {p : Program} {l : Launch} {e : Env} {s : State} {m : MethodId} {args : Array Value} {below : List Frame} {meth : Method} {c : Code} {Q : State → Prop} {D : va_G} {cy : Nat → ClassId} {B : Nat → Nat → Nat} {ids : List (Nat × Nat)} {A : Nat → Prop}
def fX11_stir (N : Nat)  (x0 : Nat) (z : St) : Option (Int32 × St) := zl (zsI z 11 5 x0 (zgI z 11 4 x0)) fun z1 => some (0, z1)
set_option maxHeartbeats 4000000 in
set_option maxRecDepth 100000 in
theorem bX11_stir_0 (hst : zSt B ids) (F : zFx p m c cX11_stir 1 s args RX11 D cy B ids A) (hA : ∀ q : Nat, s.heap.size ≤ q → A q) {r : Int32} {z' : St} (E : zEnd p l e rmX11_stir s m args below meth c cX11_stir D cy B ids A Q none z' .return_ True) {N : Nat}  (x0 : Nat) (hx0 : (11, x0) ∈ ids) {z : St} {H : Heap} {locs : List Loc} {ls : Array Slot} (hr : zRep D cy B ids A s.heap z H locs) (hl : lv_has ls 1 [(0, .ref (B 11 x0))]) (h : fX11_stir N x0 z = some (r, z')) : W p l e rmX11_stir s m args below meth c H locs 0 0 Q (F0 m 0 ls []) := by
  unfold fX11_stir at h
  refine lv_aload_n F.1 F.2.1 dX11_stir_0 rfl (lv_at hl 0 rfl) ?_
  refine lv_aload_n F.1 F.2.1 dX11_stir_1 rfl (lv_at hl 0 rfl) ?_
  refine gf11_176 F hx0 hr dX11_stir_2 ?_
  refine pf11_455 F hx0 hr dX11_stir_5 (zgI z 11 4 x0) (fun H locs z1 ez1 hr => ?_)
  replace h := zl_sub ez1 h
  clear ez1
  obtain ⟨rfl, rfl⟩ := zret h
  exact E _ _ _ _ dX11_stir_8 trivial hr
end SX11_stir
set_option maxRecDepth 100000 in
theorem okX11_stir (l : Launch) (D : va_G) (cy : Nat → ClassId) (B : Nat → Nat → Nat) (ids : List (Nat × Nat)) (hst : zSt B ids) (N : Nat) (x0 : Nat) (hx0 : (11, x0) ∈ ids) {z : St} {r : Int32} {z' : St} (hW : zWf ids z) (h : fX11_stir N x0 z = some (r, z')) : zM l yX11_stir (zws yX11_stir cX11_stir 1 none) rmX11_stir D cy B ids [.ref (B 11 x0)] none True z z' :=
  zM_of hst hW (by decide +kernel) (Nat.le_of_ble_eq_true rfl) (fun p e s m args below meth c A ls F hA hret hlocks hr hl => bX11_stir_0 hst F hA (zEnd_v F hret hlocks) x0 hx0 hr hl h)
