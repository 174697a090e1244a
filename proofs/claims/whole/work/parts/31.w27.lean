abbrev rmX19_newNeighbour : Room := { frames := 0, cells := 0, slots := 0, locals := 0 }
theorem hdX19_newNeighbour : yX19_newNeighbour.cls ≠ "java/lang/invoke/MethodHandle" ∧ yX19_newNeighbour.cls ≠ "java/lang/invoke/VarHandle" ∧ (parseMethodDescriptor yX19_newNeighbour.desc).map (fun d => d.parameters.length) = some 3 := by decide +kernel
section SX19_newNeighbour
variable {p : Program} {l : Launch} {e : Env} {s : State} {m : MethodId} {args : Array Value} {below : List Frame} {meth : Method} {c : Code} {Q : State → Prop} {D : va_G} {cy : Nat → ClassId} {B : Nat → Nat → Nat} {ids : List (Nat × Nat)} {A : Nat → Prop}
def fX19_newNeighbour_70 (N : Nat) (K17 : Nat → Int32 → Int32 → Option Nat → Int32 → St → Option (Option Nat × St)) (x1 : Nat) (x2 : Int32) (x3 : Int32) (x4 : Option Nat) (x5 : Int32) (z : St) : Option (Option Nat × St) := zk (x5 - (1 : Int32)) 16 <| zl (zgQ z 149 x1 (Int32.toNatClampNeg (x5 - (1 : Int32)))) fun y2 => zk x5 16 <| zl (zsQ z 149 x1 (Int32.toNatClampNeg x5) y2) fun z4 => zl (x5 + (-1)) fun v5 => K17 x1 x2 x3 x4 v5 z4
set_option maxHeartbeats 4000000 in
set_option maxRecDepth 100000 in
theorem bX19_newNeighbour_70 (hst : zSt B ids) (F : zFx p m c cX19_newNeighbour 7 s args RX19 D cy B ids A) (hA : ∀ q : Nat, s.heap.size ≤ q → A q) {r : Option Nat} {z' : St} (E : zEnd p l e rmX19_newNeighbour s m args below meth c cX19_newNeighbour D cy B ids A Q (some (va_rf (r.map (B 15)))) z' .areturn (∀ i, r = some i → (15, i) ∈ ids)) {N : Nat} {K17 : Nat → Int32 → Int32 → Option Nat → Int32 → St → Option (Option Nat × St)} (hK17 : ∀ (x1 : Nat) (x2 : Int32) (x3 : Int32) (x4 : Option Nat) (x5 : Int32) (hx1 : (12, x1) ∈ ids) (hx4 : ∀ t, x4 = some t → (15, t) ∈ ids) {z : St} {H : Heap} {locs : List Loc} {ls : Array Slot} (hr : zRep D cy B ids A s.heap z H locs) (hl : lv_has ls 7 [(1, .ref (B 12 x1)), (2, .int x2), (3, .int x3), (4, va_rf (Option.map (B 15) x4)), (5, .int x5)]), K17 x1 x2 x3 x4 x5 z = some (r, z') → W p l e rmX19_newNeighbour s m args below meth c H locs 0 0 Q (F0 m 17 ls [])) (x1 : Nat) (x2 : Int32) (x3 : Int32) (x4 : Option Nat) (x5 : Int32) (hx1 : (12, x1) ∈ ids) (hx4 : ∀ t, x4 = some t → (15, t) ∈ ids) {z : St} {H : Heap} {locs : List Loc} {ls : Array Slot} (hr : zRep D cy B ids A s.heap z H locs) (hl : lv_has ls 7 [(1, .ref (B 12 x1)), (2, .int x2), (3, .int x3), (4, va_rf (Option.map (B 15) x4)), (5, .int x5)]) (h : fX19_newNeighbour_70 N K17 x1 x2 x3 x4 x5 z = some (r, z')) : W p l e rmX19_newNeighbour s m args below meth c H locs 0 0 Q (F0 m 70 ls []) := by
  unfold fX19_newNeighbour_70 at h
  refine lv_aload_n F.1 F.2.1 dX19_newNeighbour_70 rfl (lv_at hl 0 rfl) ?_
  refine gf19_460 F hx1 hr dX19_newNeighbour_71 ?_
  refine lv_iload F.1 F.2.1 dX19_newNeighbour_74 (lv_at hl 4 rfl) ?_
  refine lv_aload_n F.1 F.2.1 dX19_newNeighbour_76 rfl (lv_at hl 0 rfl) ?_
  refine gf19_460 F hx1 hr dX19_newNeighbour_77 ?_
  refine lv_iload F.1 F.2.1 dX19_newNeighbour_80 (lv_at hl 4 rfl) ?_
  refine lv_iconst (v := (1 : Int32)) F.1 F.2.1 dX19_newNeighbour_82 (by decide) ?_
  refine lv_isub F.1 F.2.1 dX19_newNeighbour_83 ?_
  replace h := zk_some h
  obtain ⟨c1, h⟩ := h
  refine zr_aaldv (k := 149) (by decide) rfl rfl (zlen_d (by decide)) F (zal_a F hx1 (j := 12) rfl) hr dX19_newNeighbour_84 c1 (fun y2 ey2 => ?_)
  replace h := zl_sub ey2 h
  have hy2 := zal_q hr (zal_a F hx1 (j := 12) rfl) rfl ey2
  clear ey2
  replace h := zk_some h
  obtain ⟨c3, h⟩ := h
  refine zr_aast (k := 149) (v := y2) (T := TX15) (N := 6) (by decide) rfl (by decide) rfl rfl F (zal_a F hx1 (j := 12) rfl) hr dX19_newNeighbour_85 (by rw [zlen_d (by decide)]; exact c3) hy2 (fun H locs z4 ez4 hr => ?_)
  replace h := zl_sub ez4 h
  clear ez4
  obtain ⟨v5, ev5⟩ : ∃ y : Int32, y = (x5 + (-1)) := ⟨_, rfl⟩
  replace h := zl_sub ev5 h
  refine lv_iinc (v := v5) (lv' := [(5, .int v5), (1, .ref (B 12 x1)), (2, .int x2), (3, .int x3), (4, va_rf (Option.map (B 15) x4))]) F.1 F.2.1 dX19_newNeighbour_86 hl (k := 4) rfl (by rw [ev5]; rfl) (by decide) (by simp only [List.filter, zrf_cat]; rfl) (fun ls hl => ?_)
  refine lv_goto (tgt := 17) F.1 F.2.1 dX19_newNeighbour_89 (by decide) ?_
  exact hK17 x1 x2 x3 x4 v5 hx1 hx4 hr (lv_sub hl [1, 2, 3, 4, 0] rfl) h
def fX19_newNeighbour_132b (N : Nat) (K132 : Nat → Int32 → St → Option (Option Nat × St)) (x4 : Nat) (x6 : Int32) (z : St) : Option (Option Nat × St) := if (16 : Int32) ≤ x6 then (some ((some x4), z)) else (zk x6 16 <| zl (zsA z 162 x4 (Int32.toNatClampNeg x6) (vp_nar .boolean (0 : Int32))) fun z3 => zk x6 16 <| zl (zsA z3 163 x4 (Int32.toNatClampNeg x6) (0 : Int32)) fun z5 => zl (x6 + 1) fun v6 => K132 x4 v6 z5)
def fX19_newNeighbour_132 (N : Nat)  : Nat → Nat → Int32 → St → Option (Option Nat × St)
  | 0 => fun _ _ _ => none
  | n + 1 => fX19_newNeighbour_132b N (fX19_newNeighbour_132 N  n)
set_option maxHeartbeats 4000000 in
set_option maxRecDepth 100000 in
theorem bX19_newNeighbour_132 (hst : zSt B ids) (F : zFx p m c cX19_newNeighbour 7 s args RX19 D cy B ids A) (hA : ∀ q : Nat, s.heap.size ≤ q → A q) {r : Option Nat} {z' : St} (E : zEnd p l e rmX19_newNeighbour s m args below meth c cX19_newNeighbour D cy B ids A Q (some (va_rf (r.map (B 15)))) z' .areturn (∀ i, r = some i → (15, i) ∈ ids)) {N : Nat} {K132 : Nat → Int32 → St → Option (Option Nat × St)} (hK132 : ∀ (x4 : Nat) (x6 : Int32) (hx4 : (15, x4) ∈ ids) {z : St} {H : Heap} {locs : List Loc} {ls : Array Slot} (hr : zRep D cy B ids A s.heap z H locs) (hl : lv_has ls 7 [(4, .ref (B 15 x4)), (6, .int x6)]), K132 x4 x6 z = some (r, z') → W p l e rmX19_newNeighbour s m args below meth c H locs 0 0 Q (F0 m 132 ls [])) (x4 : Nat) (x6 : Int32) (hx4 : (15, x4) ∈ ids) {z : St} {H : Heap} {locs : List Loc} {ls : Array Slot} (hr : zRep D cy B ids A s.heap z H locs) (hl : lv_has ls 7 [(4, .ref (B 15 x4)), (6, .int x6)]) (h : fX19_newNeighbour_132b N K132 x4 x6 z = some (r, z')) : W p l e rmX19_newNeighbour s m args below meth c H locs 0 0 Q (F0 m 132 ls []) := by
  unfold fX19_newNeighbour_132b at h
  refine lv_iload F.1 F.2.1 dX19_newNeighbour_132 (lv_at hl 1 rfl) ?_
  refine lv_bipush (v := (16 : Int32)) F.1 F.2.1 dX19_newNeighbour_134 (by decide) ?_
  refine lv_icmp_ge (tgt := 163) F.1 F.2.1 dX19_newNeighbour_136 (by decide) (fun c1 => ?_) (fun c1 => ?_)
  · replace h := zi_t c1 h
    refine lv_aload F.1 F.2.1 dX19_newNeighbour_163 (lv_at hl 0 rfl) ?_
    obtain ⟨rfl, rfl⟩ := zret h
    exact E _ _ _ _ dX19_newNeighbour_165 (zal_s hx4) hr
  · replace h := zi_f c1 h
    refine lv_aload F.1 F.2.1 dX19_newNeighbour_139 (lv_at hl 0 rfl) ?_
    refine gf19_452 F hx4 hr dX19_newNeighbour_141 ?_
    refine lv_iload F.1 F.2.1 dX19_newNeighbour_144 (lv_at hl 1 rfl) ?_
    refine lv_iconst (v := (0 : Int32)) F.1 F.2.1 dX19_newNeighbour_146 (by decide) ?_
    replace h := zk_some h
    obtain ⟨c2, h⟩ := h
    refine zr_zast (k := 162) (by decide) rfl (by decide) F (zal_a F hx4 (j := 4) rfl) hr dX19_newNeighbour_147 c2 (fun H locs z3 ez3 hr => ?_)
    replace h := zl_sub ez3 h
    clear ez3
    refine lv_aload F.1 F.2.1 dX19_newNeighbour_148 (lv_at hl 0 rfl) ?_
    refine gf19_476 F hx4 hr dX19_newNeighbour_150 ?_
    refine lv_iload F.1 F.2.1 dX19_newNeighbour_153 (lv_at hl 1 rfl) ?_
    refine lv_iconst (v := (0 : Int32)) F.1 F.2.1 dX19_newNeighbour_155 (by decide) ?_
    replace h := zk_some h
    obtain ⟨c4, h⟩ := h
    refine zr_iast (k := 163) (by decide) rfl (by decide) F (zal_a F hx4 (j := 5) rfl) hr dX19_newNeighbour_156 c4 (fun H locs z5 ez5 hr => ?_)
    replace h := zl_sub ez5 h
    clear ez5
    obtain ⟨v6, ev6⟩ : ∃ y : Int32, y = (x6 + 1) := ⟨_, rfl⟩
    replace h := zl_sub ev6 h
    refine lv_iinc (v := v6) (lv' := [(6, .int v6), (4, .ref (B 15 x4))]) F.1 F.2.1 dX19_newNeighbour_157 hl (k := 1) rfl (by rw [ev6]; rfl) (by decide) rfl (fun ls hl => ?_)
    refine lv_goto (tgt := 132) F.1 F.2.1 dX19_newNeighbour_160 (by decide) ?_
    exact hK132 x4 v6 hx4 hr (lv_sub hl [1, 0] rfl) h
theorem lX19_newNeighbour_132 (hst : zSt B ids) (F : zFx p m c cX19_newNeighbour 7 s args RX19 D cy B ids A) (hA : ∀ q : Nat, s.heap.size ≤ q → A q) {r : Option Nat} {z' : St} (E : zEnd p l e rmX19_newNeighbour s m args below meth c cX19_newNeighbour D cy B ids A Q (some (va_rf (r.map (B 15)))) z' .areturn (∀ i, r = some i → (15, i) ∈ ids)) {N : Nat}  : ∀ (n : Nat) (x4 : Nat) (x6 : Int32) (hx4 : (15, x4) ∈ ids) {z : St} {H : Heap} {locs : List Loc} {ls : Array Slot} (hr : zRep D cy B ids A s.heap z H locs) (hl : lv_has ls 7 [(4, .ref (B 15 x4)), (6, .int x6)]), fX19_newNeighbour_132 N  n x4 x6 z = some (r, z') → W p l e rmX19_newNeighbour s m args below meth c H locs 0 0 Q (F0 m 132 ls []) := by
  intro n
  induction n with
  | zero => intro x4 x6 hx4 z H locs ls hr hl h; cases h
  | succ n ih => intro x4 x6 hx4 z H locs ls hr hl h; exact bX19_newNeighbour_132 hst F hA E ih x4 x6 hx4 hr hl h
def fX19_newNeighbour_92 (N : Nat)  (x1 : Nat) (x2 : Int32) (x3 : Int32) (x4 : Option Nat) (x5 : Int32) (z : St) : Option (Option Nat × St) := zk x5 16 <| zl (zsQ z 149 x1 (Int32.toNatClampNeg x5) x4) fun z2 => zl (zsI z2 12 13 x1 ((zgI z2 12 13 x1) + (1 : Int32))) fun z3 => zd x4 fun a4 => zl (zsI z3 15 0 a4 x2) fun z5 => zl (zsI z5 15 1 a4 x3) fun z6 => zl (zsI z6 15 3 a4 (0 : Int32)) fun z7 => fX19_newNeighbour_132 N N a4 (0 : Int32) z7
set_option maxHeartbeats 4000000 in
set_option maxRecDepth 100000 in
theorem bX19_newNeighbour_92 (hst : zSt B ids) (F : zFx p m c cX19_newNeighbour 7 s args RX19 D cy B ids A) (hA : ∀ q : Nat, s.heap.size ≤ q → A q) {r : Option Nat} {z' : St} (E : zEnd p l e rmX19_newNeighbour s m args below meth c cX19_newNeighbour D cy B ids A Q (some (va_rf (r.map (B 15)))) z' .areturn (∀ i, r = some i → (15, i) ∈ ids)) {N : Nat}  (x1 : Nat) (x2 : Int32) (x3 : Int32) (x4 : Option Nat) (x5 : Int32) (hx1 : (12, x1) ∈ ids) (hx4 : ∀ t, x4 = some t → (15, t) ∈ ids) {z : St} {H : Heap} {locs : List Loc} {ls : Array Slot} (hr : zRep D cy B ids A s.heap z H locs) (hl : lv_has ls 7 [(1, .ref (B 12 x1)), (2, .int x2), (3, .int x3), (4, va_rf (Option.map (B 15) x4)), (5, .int x5)]) (h : fX19_newNeighbour_92 N x1 x2 x3 x4 x5 z = some (r, z')) : W p l e rmX19_newNeighbour s m args below meth c H locs 0 0 Q (F0 m 92 ls []) := by
  unfold fX19_newNeighbour_92 at h
  refine lv_aload_n F.1 F.2.1 dX19_newNeighbour_92 rfl (lv_at hl 0 rfl) ?_
  refine gf19_460 F hx1 hr dX19_newNeighbour_93 ?_
  refine lv_iload F.1 F.2.1 dX19_newNeighbour_96 (lv_at hl 4 rfl) ?_
  refine zr_aload F.1 F.2.1 dX19_newNeighbour_98 (lv_at hl 3 rfl) ?_
  replace h := zk_some h
  obtain ⟨c1, h⟩ := h
  refine zr_aast (k := 149) (v := x4) (T := TX15) (N := 6) (by decide) rfl (by decide) rfl rfl F (zal_a F hx1 (j := 12) rfl) hr dX19_newNeighbour_100 (by rw [zlen_d (by decide)]; exact c1) hx4 (fun H locs z2 ez2 hr => ?_)
  replace h := zl_sub ez2 h
  clear ez2
  refine lv_aload_n F.1 F.2.1 dX19_newNeighbour_101 rfl (lv_at hl 0 rfl) ?_
  refine lv_dup F.1 F.2.1 dX19_newNeighbour_102 rfl ?_
  refine gf19_457 F hx1 hr dX19_newNeighbour_103 ?_
  refine lv_iconst (v := (1 : Int32)) F.1 F.2.1 dX19_newNeighbour_106 (by decide) ?_
  refine lv_iadd F.1 F.2.1 dX19_newNeighbour_107 ?_
  refine pf19_457 F hx1 hr dX19_newNeighbour_108 ((zgI z2 12 13 x1) + (1 : Int32)) (fun H locs z3 ez3 hr => ?_)
  replace h := zl_sub ez3 h
  clear ez3
  refine zr_aload F.1 F.2.1 dX19_newNeighbour_111 (lv_at hl 3 rfl) ?_
  refine lv_iload_n F.1 F.2.1 dX19_newNeighbour_113 rfl (lv_at hl 1 rfl) ?_
  replace h := zd_some h
  obtain ⟨a4, rfl, h⟩ := h
  refine pf19_464 F (hx4 _ rfl) hr dX19_newNeighbour_114 x2 (fun H locs z5 ez5 hr => ?_)
  replace h := zl_sub ez5 h
  clear ez5
  refine lv_aload F.1 F.2.1 dX19_newNeighbour_117 (lv_at hl 3 rfl) ?_
  refine lv_iload_n F.1 F.2.1 dX19_newNeighbour_119 rfl (lv_at hl 2 rfl) ?_
  refine pf19_467 F (hx4 _ rfl) hr dX19_newNeighbour_120 x3 (fun H locs z6 ez6 hr => ?_)
  replace h := zl_sub ez6 h
  clear ez6
  refine lv_aload F.1 F.2.1 dX19_newNeighbour_123 (lv_at hl 3 rfl) ?_
  refine lv_iconst (v := (0 : Int32)) F.1 F.2.1 dX19_newNeighbour_125 (by decide) ?_
  refine pf19_473 F (hx4 _ rfl) hr dX19_newNeighbour_126 (0 : Int32) (by decide) (fun H locs z7 ez7 hr => ?_)
  replace h := zl_sub ez7 h
  clear ez7
  refine lv_iconst (v := (0 : Int32)) F.1 F.2.1 dX19_newNeighbour_129 (by decide) ?_
  refine lv_istore (lv' := [(6, .int (0 : Int32)), (1, .ref (B 12 x1)), (2, .int x2), (3, .int x3), (4, .ref (B 15 a4)), (5, .int x5)]) F.1 F.2.1 dX19_newNeighbour_130 hl (by decide) rfl (fun ls hl => ?_)
  exact lX19_newNeighbour_132 hst F hA E  _ a4 (0 : Int32) (hx4 _ rfl) hr (lv_sub hl [4, 0] rfl) h
def fX19_newNeighbour_17b (N : Nat) (K17 : Nat → Int32 → Int32 → Option Nat → Int32 → St → Option (Option Nat × St)) (x1 : Nat) (x2 : Int32) (x3 : Int32) (x4 : Option Nat) (x5 : Int32) (z : St) : Option (Option Nat × St) := if x5 ≤ 0 then (fX19_newNeighbour_92 N x1 x2 x3 x4 x5 z) else (zk (x5 - (1 : Int32)) 16 <| zl (zgQ z 149 x1 (Int32.toNatClampNeg (x5 - (1 : Int32)))) fun y3 => zd y3 fun a4 => if x2 < (zgI z 15 0 a4) then (fX19_newNeighbour_70 N K17 x1 x2 x3 x4 x5 z) else (zk (x5 - (1 : Int32)) 16 <| zl (zgQ z 149 x1 (Int32.toNatClampNeg (x5 - (1 : Int32)))) fun y7 => zd y7 fun a8 => if ¬ (zgI z 15 0 a8) = x2 then (fX19_newNeighbour_92 N x1 x2 x3 x4 x5 z) else (zk (x5 - (1 : Int32)) 16 <| zl (zgQ z 149 x1 (Int32.toNatClampNeg (x5 - (1 : Int32)))) fun y11 => zd y11 fun a12 => if (zgI z 15 1 a12) ≤ x3 then (fX19_newNeighbour_92 N x1 x2 x3 x4 x5 z) else (fX19_newNeighbour_70 N K17 x1 x2 x3 x4 x5 z))))
def fX19_newNeighbour_17 (N : Nat)  : Nat → Nat → Int32 → Int32 → Option Nat → Int32 → St → Option (Option Nat × St)
  | 0 => fun _ _ _ _ _ _ => none
  | n + 1 => fX19_newNeighbour_17b N (fX19_newNeighbour_17 N  n)
set_option maxHeartbeats 4000000 in
set_option maxRecDepth 100000 in
theorem bX19_newNeighbour_17 (hst : zSt B ids) (F : zFx p m c cX19_newNeighbour 7 s args RX19 D cy B ids A) (hA : ∀ q : Nat, s.heap.size ≤ q → A q) {r : Option Nat} {z' : St} (E : zEnd p l e rmX19_newNeighbour s m args below meth c cX19_newNeighbour D cy B ids A Q (some (va_rf (r.map (B 15)))) z' .areturn (∀ i, r = some i → (15, i) ∈ ids)) {N : Nat} {K17 : Nat → Int32 → Int32 → Option Nat → Int32 → St → Option (Option Nat × St)} (hK17 : ∀ (x1 : Nat) (x2 : Int32) (x3 : Int32) (x4 : Option Nat) (x5 : Int32) (hx1 : (12, x1) ∈ ids) (hx4 : ∀ t, x4 = some t → (15, t) ∈ ids) {z : St} {H : Heap} {locs : List Loc} {ls : Array Slot} (hr : zRep D cy B ids A s.heap z H locs) (hl : lv_has ls 7 [(1, .ref (B 12 x1)), (2, .int x2), (3, .int x3), (4, va_rf (Option.map (B 15) x4)), (5, .int x5)]), K17 x1 x2 x3 x4 x5 z = some (r, z') → W p l e rmX19_newNeighbour s m args below meth c H locs 0 0 Q (F0 m 17 ls [])) (x1 : Nat) (x2 : Int32) (x3 : Int32) (x4 : Option Nat) (x5 : Int32) (hx1 : (12, x1) ∈ ids) (hx4 : ∀ t, x4 = some t → (15, t) ∈ ids) {z : St} {H : Heap} {locs : List Loc} {ls : Array Slot} (hr : zRep D cy B ids A s.heap z H locs) (hl : lv_has ls 7 [(1, .ref (B 12 x1)), (2, .int x2), (3, .int x3), (4, va_rf (Option.map (B 15) x4)), (5, .int x5)]) (h : fX19_newNeighbour_17b N K17 x1 x2 x3 x4 x5 z = some (r, z')) : W p l e rmX19_newNeighbour s m args below meth c H locs 0 0 Q (F0 m 17 ls []) := by
  unfold fX19_newNeighbour_17b at h
  refine lv_iload F.1 F.2.1 dX19_newNeighbour_17 (lv_at hl 4 rfl) ?_
  refine lv_if_le (tgt := 92) F.1 F.2.1 dX19_newNeighbour_19 (by decide) (fun c1 => ?_) (fun c1 => ?_)
  · replace h := zi_t c1 h
    exact bX19_newNeighbour_92 hst F hA E  x1 x2 x3 x4 x5 hx1 hx4 hr (lv_sub hl [0, 1, 2, 3, 4] rfl) h
  · replace h := zi_f c1 h
    refine lv_aload_n F.1 F.2.1 dX19_newNeighbour_22 rfl (lv_at hl 0 rfl) ?_
    refine gf19_460 F hx1 hr dX19_newNeighbour_23 ?_
    refine lv_iload F.1 F.2.1 dX19_newNeighbour_26 (lv_at hl 4 rfl) ?_
    refine lv_iconst (v := (1 : Int32)) F.1 F.2.1 dX19_newNeighbour_28 (by decide) ?_
    refine lv_isub F.1 F.2.1 dX19_newNeighbour_29 ?_
    replace h := zk_some h
    obtain ⟨c2, h⟩ := h
    refine zr_aaldv (k := 149) (by decide) rfl rfl (zlen_d (by decide)) F (zal_a F hx1 (j := 12) rfl) hr dX19_newNeighbour_30 c2 (fun y3 ey3 => ?_)
    replace h := zl_sub ey3 h
    have hy3 := zal_q hr (zal_a F hx1 (j := 12) rfl) rfl ey3
    clear ey3
    replace h := zd_some h
    obtain ⟨a4, rfl, h⟩ := h
    refine gf19_464 F (hy3 _ rfl) hr dX19_newNeighbour_31 ?_
    refine lv_iload_n F.1 F.2.1 dX19_newNeighbour_34 rfl (lv_at hl 1 rfl) ?_
    refine lv_icmp_gt (tgt := 70) F.1 F.2.1 dX19_newNeighbour_35 (by decide) (fun c5 => ?_) (fun c5 => ?_)
    · replace h := zi_t c5 h
      exact bX19_newNeighbour_70 hst F hA E hK17 x1 x2 x3 x4 x5 hx1 hx4 hr (lv_sub hl [0, 1, 2, 3, 4] rfl) h
    · replace h := zi_f c5 h
      refine lv_aload_n F.1 F.2.1 dX19_newNeighbour_38 rfl (lv_at hl 0 rfl) ?_
      refine gf19_460 F hx1 hr dX19_newNeighbour_39 ?_
      refine lv_iload F.1 F.2.1 dX19_newNeighbour_42 (lv_at hl 4 rfl) ?_
      refine lv_iconst (v := (1 : Int32)) F.1 F.2.1 dX19_newNeighbour_44 (by decide) ?_
      refine lv_isub F.1 F.2.1 dX19_newNeighbour_45 ?_
      replace h := zk_some h
      obtain ⟨c6, h⟩ := h
      refine zr_aaldv (k := 149) (by decide) rfl rfl (zlen_d (by decide)) F (zal_a F hx1 (j := 12) rfl) hr dX19_newNeighbour_46 c6 (fun y7 ey7 => ?_)
      replace h := zl_sub ey7 h
      have hy7 := zal_q hr (zal_a F hx1 (j := 12) rfl) rfl ey7
      clear ey7
      replace h := zd_some h
      obtain ⟨a8, rfl, h⟩ := h
      refine gf19_464 F (hy7 _ rfl) hr dX19_newNeighbour_47 ?_
      refine lv_iload_n F.1 F.2.1 dX19_newNeighbour_50 rfl (lv_at hl 1 rfl) ?_
      refine lv_icmp_ne (tgt := 92) F.1 F.2.1 dX19_newNeighbour_51 (by decide) (fun c9 => ?_) (fun c9 => ?_)
      · replace h := zi_t c9 h
        exact bX19_newNeighbour_92 hst F hA E  x1 x2 x3 x4 x5 hx1 hx4 hr (lv_sub hl [0, 1, 2, 3, 4] rfl) h
      · replace h := zi_f (fun q => q c9) h
        refine lv_aload_n F.1 F.2.1 dX19_newNeighbour_54 rfl (lv_at hl 0 rfl) ?_
        refine gf19_460 F hx1 hr dX19_newNeighbour_55 ?_
        refine lv_iload F.1 F.2.1 dX19_newNeighbour_58 (lv_at hl 4 rfl) ?_
        refine lv_iconst (v := (1 : Int32)) F.1 F.2.1 dX19_newNeighbour_60 (by decide) ?_
        refine lv_isub F.1 F.2.1 dX19_newNeighbour_61 ?_
        replace h := zk_some h
        obtain ⟨c10, h⟩ := h
        refine zr_aaldv (k := 149) (by decide) rfl rfl (zlen_d (by decide)) F (zal_a F hx1 (j := 12) rfl) hr dX19_newNeighbour_62 c10 (fun y11 ey11 => ?_)
        replace h := zl_sub ey11 h
        have hy11 := zal_q hr (zal_a F hx1 (j := 12) rfl) rfl ey11
        clear ey11
        replace h := zd_some h
        obtain ⟨a12, rfl, h⟩ := h
        refine gf19_467 F (hy11 _ rfl) hr dX19_newNeighbour_63 ?_
        refine lv_iload_n F.1 F.2.1 dX19_newNeighbour_66 rfl (lv_at hl 2 rfl) ?_
        refine lv_icmp_le (tgt := 92) F.1 F.2.1 dX19_newNeighbour_67 (by decide) (fun c13 => ?_) (fun c13 => ?_)
        · replace h := zi_t c13 h
          exact bX19_newNeighbour_92 hst F hA E  x1 x2 x3 x4 x5 hx1 hx4 hr (lv_sub hl [0, 1, 2, 3, 4] rfl) h
        · replace h := zi_f c13 h
          exact bX19_newNeighbour_70 hst F hA E hK17 x1 x2 x3 x4 x5 hx1 hx4 hr (lv_sub hl [0, 1, 2, 3, 4] rfl) h
theorem lX19_newNeighbour_17 (hst : zSt B ids) (F : zFx p m c cX19_newNeighbour 7 s args RX19 D cy B ids A) (hA : ∀ q : Nat, s.heap.size ≤ q → A q) {r : Option Nat} {z' : St} (E : zEnd p l e rmX19_newNeighbour s m args below meth c cX19_newNeighbour D cy B ids A Q (some (va_rf (r.map (B 15)))) z' .areturn (∀ i, r = some i → (15, i) ∈ ids)) {N : Nat}  : ∀ (n : Nat) (x1 : Nat) (x2 : Int32) (x3 : Int32) (x4 : Option Nat) (x5 : Int32) (hx1 : (12, x1) ∈ ids) (hx4 : ∀ t, x4 = some t → (15, t) ∈ ids) {z : St} {H : Heap} {locs : List Loc} {ls : Array Slot} (hr : zRep D cy B ids A s.heap z H locs) (hl : lv_has ls 7 [(1, .ref (B 12 x1)), (2, .int x2), (3, .int x3), (4, va_rf (Option.map (B 15) x4)), (5, .int x5)]), fX19_newNeighbour_17 N  n x1 x2 x3 x4 x5 z = some (r, z') → W p l e rmX19_newNeighbour s m args below meth c H locs 0 0 Q (F0 m 17 ls []) := by
  intro n
  induction n with
  | zero => intro x1 x2 x3 x4 x5 hx1 hx4 z H locs ls hr hl h; cases h
  | succ n ih => intro x1 x2 x3 x4 x5 hx1 hx4 z H locs ls hr hl h; exact bX19_newNeighbour_17 hst F hA E ih x1 x2 x3 x4 x5 hx1 hx4 hr hl h
def fX19_newNeighbour (N : Nat)  (x0 : Nat) (x1 : Nat) (x2 : Int32) (x3 : Int32) (z : St) : Option (Option Nat × St) := zk (zgI z 12 13 x1) 16 <| zl (zgQ z 149 x1 (Int32.toNatClampNeg (zgI z 12 13 x1))) fun y2 => zl (zgI z 12 13 x1) fun v3 => fX19_newNeighbour_17 N N x1 x2 x3 y2 v3 z
set_option maxHeartbeats 4000000 in
set_option maxRecDepth 100000 in
theorem bX19_newNeighbour_0 (hst : zSt B ids) (F : zFx p m c cX19_newNeighbour 7 s args RX19 D cy B ids A) (hA : ∀ q : Nat, s.heap.size ≤ q → A q) {r : Option Nat} {z' : St} (E : zEnd p l e rmX19_newNeighbour s m args below meth c cX19_newNeighbour D cy B ids A Q (some (va_rf (r.map (B 15)))) z' .areturn (∀ i, r = some i → (15, i) ∈ ids)) {N : Nat}  (x0 : Nat) (x1 : Nat) (x2 : Int32) (x3 : Int32) (hx0 : (19, x0) ∈ ids) (hx1 : (12, x1) ∈ ids) {z : St} {H : Heap} {locs : List Loc} {ls : Array Slot} (hr : zRep D cy B ids A s.heap z H locs) (hl : lv_has ls 7 [(0, .ref (B 19 x0)), (1, .ref (B 12 x1)), (2, .int x2), (3, .int x3)]) (h : fX19_newNeighbour N x0 x1 x2 x3 z = some (r, z')) : W p l e rmX19_newNeighbour s m args below meth c H locs 0 0 Q (F0 m 0 ls []) := by
  unfold fX19_newNeighbour at h
  refine lv_aload_n F.1 F.2.1 dX19_newNeighbour_0 rfl (lv_at hl 1 rfl) ?_
  refine gf19_460 F hx1 hr dX19_newNeighbour_1 ?_
  refine lv_aload_n F.1 F.2.1 dX19_newNeighbour_4 rfl (lv_at hl 1 rfl) ?_
  refine gf19_457 F hx1 hr dX19_newNeighbour_5 ?_
  replace h := zk_some h
  obtain ⟨c1, h⟩ := h
  refine zr_aaldv (k := 149) (by decide) rfl rfl (zlen_d (by decide)) F (zal_a F hx1 (j := 12) rfl) hr dX19_newNeighbour_8 c1 (fun y2 ey2 => ?_)
  replace h := zl_sub ey2 h
  have hy2 := zal_q hr (zal_a F hx1 (j := 12) rfl) rfl ey2
  clear ey2
  refine zr_astore (lv' := [(4, va_rf (Option.map (B 15) y2)), (0, .ref (B 19 x0)), (1, .ref (B 12 x1)), (2, .int x2), (3, .int x3)]) F.1 F.2.1 dX19_newNeighbour_9 hl (by decide) rfl (fun ls hl => ?_)
  refine lv_aload_n F.1 F.2.1 dX19_newNeighbour_11 rfl (lv_at hl 2 rfl) ?_
  refine gf19_457 F hx1 hr dX19_newNeighbour_12 ?_
  refine lv_topi (fun v3 ev3 => ?_)
  replace h := zl_sub ev3 h
  refine lv_istore (lv' := [(5, .int v3), (4, va_rf (Option.map (B 15) y2)), (0, .ref (B 19 x0)), (1, .ref (B 12 x1)), (2, .int x2), (3, .int x3)]) F.1 F.2.1 dX19_newNeighbour_15 hl (by decide) (by simp only [List.filter, zrf_cat]; rfl) (fun ls hl => ?_)
  exact lX19_newNeighbour_17 hst F hA E  _ x1 x2 x3 y2 v3 hx1 hy2 hr (lv_sub hl [3, 4, 5, 1, 0] rfl) h
end SX19_newNeighbour
set_option maxRecDepth 100000 in
theorem okX19_newNeighbour (l : Launch) (D : va_G) (cy : Nat → ClassId) (B : Nat → Nat → Nat) (ids : List (Nat × Nat)) (hst : zSt B ids) (N : Nat) (x0 : Nat) (hx0 : (19, x0) ∈ ids) (x1 : Nat) (hx1 : (12, x1) ∈ ids) (x2 : Int32) (x3 : Int32) {z : St} {r : Option Nat} {z' : St} (hW : zWf ids z) (h : fX19_newNeighbour N x0 x1 x2 x3 z = some (r, z')) : zM l yX19_newNeighbour (zws yX19_newNeighbour cX19_newNeighbour 7 (some (.object "WholeInternetModel$Neighbour"))) rmX19_newNeighbour D cy B ids [.ref (B 19 x0), .ref (B 12 x1), .int x2, .int x3] (some (va_rf (r.map (B 15)))) (∀ i, r = some i → (15, i) ∈ ids) z z' :=
  zM_of hst hW (by decide +kernel) (Nat.le_of_ble_eq_true rfl) (fun p e s m args below meth c A ls F hA hret hlocks hr hl => bX19_newNeighbour_0 hst F hA (zEnd_r F hret hlocks) x0 x1 x2 x3 hx0 hx1 hr hl h)
abbrev rmX19_greeted : Room := { frames := 1, cells := 0, slots := 0, locals := 26 }
theorem hdX19_greeted : yX19_greeted.cls ≠ "java/lang/invoke/MethodHandle" ∧ yX19_greeted.cls ≠ "java/lang/invoke/VarHandle" ∧ (parseMethodDescriptor yX19_greeted.desc).map (fun d => d.parameters.length) = some 4 := by decide +kernel
theorem hroX19_greeted_X19_neighbour : rmX19_neighbour.frames + 1 ≤ rmX19_greeted.frames ∧ 8 + (4 + 11) + rmX19_neighbour.locals ≤ rmX19_greeted.locals := by decide
theorem hroX19_greeted_X19_newNeighbour : rmX19_newNeighbour.frames + 1 ≤ rmX19_greeted.frames ∧ 8 + (7 + 11) + rmX19_newNeighbour.locals ≤ rmX19_greeted.locals := by decide
theorem hroX19_greeted_X19_stir : rmX19_stir.frames + 1 ≤ rmX19_greeted.frames ∧ 8 + (1 + 11) + rmX19_stir.locals ≤ rmX19_greeted.locals := by decide
section SX19_greeted
variable {p : Program} {l : Launch} {e : Env} {s : State} {m : MethodId} {args : Array Value} {below : List Frame} {meth : Method} {c : Code} {Q : State → Prop} {D : va_G} {cy : Nat → ClassId} {B : Nat → Nat → Nat} {ids : List (Nat × Nat)} {A : Nat → Prop}
def fX19_greeted_165 (N : Nat) (K117 : Nat → Nat → Nat → Int32 → Int32 → St → Option (Int32 × St)) (x0 : Nat) (x1 : Nat) (x5 : Nat) (x6 : Int32) (x7 : Int32) (s0 : Nat) (s1 : Int32) (s2 : Int32) (z : St) : Option (Int32 × St) := zk s1 16 <| zl (zsA z 162 s0 (Int32.toNatClampNeg s1) (vp_nar .boolean s2)) fun z2 => zk x7 16 <| zl (zsA z2 163 x5 (Int32.toNatClampNeg x7) (zgI z2 19 24 x0)) fun z4 => zl (x7 + 1) fun v5 => K117 x0 x1 x5 x6 v5 z4
set_option maxHeartbeats 4000000 in
set_option maxRecDepth 100000 in
theorem bX19_greeted_165 (hst : zSt B ids) (F : zFx p m c cX19_greeted 8 s args RX19 D cy B ids A) (hA : ∀ q : Nat, s.heap.size ≤ q → A q) {r : Int32} {z' : St} (E : zEnd p l e rmX19_greeted s m args below meth c cX19_greeted D cy B ids A Q none z' .return_ True) {N : Nat} {K117 : Nat → Nat → Nat → Int32 → Int32 → St → Option (Int32 × St)} (hK117 : ∀ (x0 : Nat) (x1 : Nat) (x5 : Nat) (x6 : Int32) (x7 : Int32) (hx0 : (19, x0) ∈ ids) (hx1 : (12, x1) ∈ ids) (hx5 : (15, x5) ∈ ids) {z : St} {H : Heap} {locs : List Loc} {ls : Array Slot} (hr : zRep D cy B ids A s.heap z H locs) (hl : lv_has ls 8 [(0, .ref (B 19 x0)), (1, .ref (B 12 x1)), (5, .ref (B 15 x5)), (6, .int x6), (7, .int x7)]), K117 x0 x1 x5 x6 x7 z = some (r, z') → W p l e rmX19_greeted s m args below meth c H locs 0 0 Q (F0 m 117 ls [])) (x0 : Nat) (x1 : Nat) (x5 : Nat) (x6 : Int32) (x7 : Int32) (s0 : Nat) (s1 : Int32) (s2 : Int32) (hx0 : (19, x0) ∈ ids) (hx1 : (12, x1) ∈ ids) (hx5 : (15, x5) ∈ ids) (hs0 : (162, s0) ∈ ids) {z : St} {H : Heap} {locs : List Loc} {ls : Array Slot} (hr : zRep D cy B ids A s.heap z H locs) (hl : lv_has ls 8 [(0, .ref (B 19 x0)), (1, .ref (B 12 x1)), (5, .ref (B 15 x5)), (6, .int x6), (7, .int x7)]) (h : fX19_greeted_165 N K117 x0 x1 x5 x6 x7 s0 s1 s2 z = some (r, z')) : W p l e rmX19_greeted s m args below meth c H locs 0 0 Q (F0 m 165 ls [.int s2, .int s1, .ref (B 162 s0)]) := by
  unfold fX19_greeted_165 at h
  replace h := zk_some h
  obtain ⟨c1, h⟩ := h
  refine zr_zast (k := 162) (by decide) rfl (by decide) F hs0 hr dX19_greeted_165 c1 (fun H locs z2 ez2 hr => ?_)
  replace h := zl_sub ez2 h
  clear ez2
  refine lv_aload F.1 F.2.1 dX19_greeted_166 (lv_at hl 2 rfl) ?_
  refine gf19_476 F hx5 hr dX19_greeted_168 ?_
  refine lv_iload F.1 F.2.1 dX19_greeted_171 (lv_at hl 4 rfl) ?_
  refine lv_aload_n F.1 F.2.1 dX19_greeted_173 rfl (lv_at hl 0 rfl) ?_
  refine gf19_143 F hx0 hr dX19_greeted_174 ?_
  replace h := zk_some h
  obtain ⟨c3, h⟩ := h
  refine zr_iast (k := 163) (by decide) rfl (by decide) F (zal_a F hx5 (j := 5) rfl) hr dX19_greeted_177 c3 (fun H locs z4 ez4 hr => ?_)
  replace h := zl_sub ez4 h
  clear ez4
  obtain ⟨v5, ev5⟩ : ∃ y : Int32, y = (x7 + 1) := ⟨_, rfl⟩
  replace h := zl_sub ev5 h
  refine lv_iinc (v := v5) (lv' := [(7, .int v5), (0, .ref (B 19 x0)), (1, .ref (B 12 x1)), (5, .ref (B 15 x5)), (6, .int x6)]) F.1 F.2.1 dX19_greeted_178 hl (k := 4) rfl (by rw [ev5]; rfl) (by decide) rfl (fun ls hl => ?_)
  refine lv_goto (tgt := 117) F.1 F.2.1 dX19_greeted_181 (by decide) ?_
  exact hK117 x0 x1 x5 x6 v5 hx0 hx1 hx5 hr (lv_sub hl [1, 2, 3, 4, 0] rfl) h
def fX19_greeted_164 (N : Nat) (K117 : Nat → Nat → Nat → Int32 → Int32 → St → Option (Int32 × St)) (x0 : Nat) (x1 : Nat) (x5 : Nat) (x6 : Int32) (x7 : Int32) (s0 : Nat) (s1 : Int32) (z : St) : Option (Int32 × St) := fX19_greeted_165 N K117 x0 x1 x5 x6 x7 s0 s1 (0 : Int32) z
set_option maxHeartbeats 4000000 in
set_option maxRecDepth 100000 in
theorem bX19_greeted_164 (hst : zSt B ids) (F : zFx p m c cX19_greeted 8 s args RX19 D cy B ids A) (hA : ∀ q : Nat, s.heap.size ≤ q → A q) {r : Int32} {z' : St} (E : zEnd p l e rmX19_greeted s m args below meth c cX19_greeted D cy B ids A Q none z' .return_ True) {N : Nat} {K117 : Nat → Nat → Nat → Int32 → Int32 → St → Option (Int32 × St)} (hK117 : ∀ (x0 : Nat) (x1 : Nat) (x5 : Nat) (x6 : Int32) (x7 : Int32) (hx0 : (19, x0) ∈ ids) (hx1 : (12, x1) ∈ ids) (hx5 : (15, x5) ∈ ids) {z : St} {H : Heap} {locs : List Loc} {ls : Array Slot} (hr : zRep D cy B ids A s.heap z H locs) (hl : lv_has ls 8 [(0, .ref (B 19 x0)), (1, .ref (B 12 x1)), (5, .ref (B 15 x5)), (6, .int x6), (7, .int x7)]), K117 x0 x1 x5 x6 x7 z = some (r, z') → W p l e rmX19_greeted s m args below meth c H locs 0 0 Q (F0 m 117 ls [])) (x0 : Nat) (x1 : Nat) (x5 : Nat) (x6 : Int32) (x7 : Int32) (s0 : Nat) (s1 : Int32) (hx0 : (19, x0) ∈ ids) (hx1 : (12, x1) ∈ ids) (hx5 : (15, x5) ∈ ids) (hs0 : (162, s0) ∈ ids) {z : St} {H : Heap} {locs : List Loc} {ls : Array Slot} (hr : zRep D cy B ids A s.heap z H locs) (hl : lv_has ls 8 [(0, .ref (B 19 x0)), (1, .ref (B 12 x1)), (5, .ref (B 15 x5)), (6, .int x6), (7, .int x7)]) (h : fX19_greeted_164 N K117 x0 x1 x5 x6 x7 s0 s1 z = some (r, z')) : W p l e rmX19_greeted s m args below meth c H locs 0 0 Q (F0 m 164 ls [.int s1, .ref (B 162 s0)]) := by
  unfold fX19_greeted_164 at h
  refine lv_iconst (v := (0 : Int32)) F.1 F.2.1 dX19_greeted_164 (by decide) ?_
  exact bX19_greeted_165 hst F hA E hK117 x0 x1 x5 x6 x7 s0 s1 (0 : Int32) hx0 hx1 hx5 hs0 hr (lv_sub hl [0, 1, 2, 3, 4] rfl) h
def fX19_greeted_117b (N : Nat) (K117 : Nat → Nat → Nat → Int32 → Int32 → St → Option (Int32 × St)) (x0 : Nat) (x1 : Nat) (x5 : Nat) (x6 : Int32) (x7 : Int32) (z : St) : Option (Int32 × St) := if (16 : Int32) ≤ x7 then (some (0, z)) else (if x6 = (zgI z 15 3 x5) then (some (0, z)) else (if (zgI z 15 3 x5) = 0 then (fX19_greeted_164 N K117 x0 x1 x5 x6 x7 x5 x7 z) else (zk x7 16 <| if (zgA z 150 x1 (Int32.toNatClampNeg x7)) = (-1 : Int32) then (fX19_greeted_164 N K117 x0 x1 x5 x6 x7 x5 x7 z) else (fX19_greeted_165 N K117 x0 x1 x5 x6 x7 x5 x7 (1 : Int32) z))))
def fX19_greeted_117 (N : Nat)  : Nat → Nat → Nat → Nat → Int32 → Int32 → St → Option (Int32 × St)
  | 0 => fun _ _ _ _ _ _ => none
  | n + 1 => fX19_greeted_117b N (fX19_greeted_117 N  n)
set_option maxHeartbeats 4000000 in
set_option maxRecDepth 100000 in
theorem bX19_greeted_117 (hst : zSt B ids) (F : zFx p m c cX19_greeted 8 s args RX19 D cy B ids A) (hA : ∀ q : Nat, s.heap.size ≤ q → A q) {r : Int32} {z' : St} (E : zEnd p l e rmX19_greeted s m args below meth c cX19_greeted D cy B ids A Q none z' .return_ True) {N : Nat} {K117 : Nat → Nat → Nat → Int32 → Int32 → St → Option (Int32 × St)} (hK117 : ∀ (x0 : Nat) (x1 : Nat) (x5 : Nat) (x6 : Int32) (x7 : Int32) (hx0 : (19, x0) ∈ ids) (hx1 : (12, x1) ∈ ids) (hx5 : (15, x5) ∈ ids) {z : St} {H : Heap} {locs : List Loc} {ls : Array Slot} (hr : zRep D cy B ids A s.heap z H locs) (hl : lv_has ls 8 [(0, .ref (B 19 x0)), (1, .ref (B 12 x1)), (5, .ref (B 15 x5)), (6, .int x6), (7, .int x7)]), K117 x0 x1 x5 x6 x7 z = some (r, z') → W p l e rmX19_greeted s m args below meth c H locs 0 0 Q (F0 m 117 ls [])) (x0 : Nat) (x1 : Nat) (x5 : Nat) (x6 : Int32) (x7 : Int32) (hx0 : (19, x0) ∈ ids) (hx1 : (12, x1) ∈ ids) (hx5 : (15, x5) ∈ ids) {z : St} {H : Heap} {locs : List Loc} {ls : Array Slot} (hr : zRep D cy B ids A s.heap z H locs) (hl : lv_has ls 8 [(0, .ref (B 19 x0)), (1, .ref (B 12 x1)), (5, .ref (B 15 x5)), (6, .int x6), (7, .int x7)]) (h : fX19_greeted_117b N K117 x0 x1 x5 x6 x7 z = some (r, z')) : W p l e rmX19_greeted s m args below meth c H locs 0 0 Q (F0 m 117 ls []) := by
  unfold fX19_greeted_117b at h
  refine lv_iload F.1 F.2.1 dX19_greeted_117 (lv_at hl 4 rfl) ?_
  refine lv_bipush (v := (16 : Int32)) F.1 F.2.1 dX19_greeted_119 (by decide) ?_
  refine lv_icmp_ge (tgt := 184) F.1 F.2.1 dX19_greeted_121 (by decide) (fun c1 => ?_) (fun c1 => ?_)
  · replace h := zi_t c1 h
    obtain ⟨rfl, rfl⟩ := zret h
    exact E _ _ _ _ dX19_greeted_184 trivial hr
  · replace h := zi_f c1 h
    refine lv_iload F.1 F.2.1 dX19_greeted_124 (lv_at hl 3 rfl) ?_
    refine lv_aload F.1 F.2.1 dX19_greeted_126 (lv_at hl 2 rfl) ?_
    refine gf19_473 F hx5 hr dX19_greeted_128 ?_
    refine lv_icmp_eq (tgt := 184) F.1 F.2.1 dX19_greeted_131 (by decide) (fun c2 => ?_) (fun c2 => ?_)
    · replace h := zi_t c2 h
      obtain ⟨rfl, rfl⟩ := zret h
      exact E _ _ _ _ dX19_greeted_184 trivial hr
    · replace h := zi_f c2 h
      refine lv_aload F.1 F.2.1 dX19_greeted_134 (lv_at hl 2 rfl) ?_
      refine gf19_452 F hx5 hr dX19_greeted_136 ?_
      refine lv_iload F.1 F.2.1 dX19_greeted_139 (lv_at hl 4 rfl) ?_
      refine lv_aload F.1 F.2.1 dX19_greeted_141 (lv_at hl 2 rfl) ?_
      refine gf19_473 F hx5 hr dX19_greeted_143 ?_
      refine lv_if_eq (tgt := 164) F.1 F.2.1 dX19_greeted_146 (by decide) (fun c3 => ?_) (fun c3 => ?_)
      · replace h := zi_t c3 h
        exact bX19_greeted_164 hst F hA E hK117 x0 x1 x5 x6 x7 x5 x7 hx0 hx1 hx5 (zal_a F hx5 (j := 4) rfl) hr (lv_sub hl [0, 1, 2, 3, 4] rfl) h
      · replace h := zi_f c3 h
        refine lv_aload_n F.1 F.2.1 dX19_greeted_149 rfl (lv_at hl 1 rfl) ?_
        refine gf19_448 F hx1 hr dX19_greeted_150 ?_
        refine lv_iload F.1 F.2.1 dX19_greeted_153 (lv_at hl 4 rfl) ?_
        replace h := zk_some h
        obtain ⟨c4, h⟩ := h
        refine zr_iald (k := 150) (by decide) rfl (by decide) F (zal_a F hx1 (j := 14) rfl) hr dX19_greeted_155 c4 ?_
        refine lv_iconst (v := (-1 : Int32)) F.1 F.2.1 dX19_greeted_156 (by decide) ?_
        refine lv_icmp_eq (tgt := 164) F.1 F.2.1 dX19_greeted_157 (by decide) (fun c5 => ?_) (fun c5 => ?_)
        · replace h := zi_t c5 h
          exact bX19_greeted_164 hst F hA E hK117 x0 x1 x5 x6 x7 x5 x7 hx0 hx1 hx5 (zal_a F hx5 (j := 4) rfl) hr (lv_sub hl [0, 1, 2, 3, 4] rfl) h
        · replace h := zi_f c5 h
          refine lv_iconst (v := (1 : Int32)) F.1 F.2.1 dX19_greeted_160 (by decide) ?_
          refine lv_goto (tgt := 165) F.1 F.2.1 dX19_greeted_161 (by decide) ?_
          exact bX19_greeted_165 hst F hA E hK117 x0 x1 x5 x6 x7 x5 x7 (1 : Int32) hx0 hx1 hx5 (zal_a F hx5 (j := 4) rfl) hr (lv_sub hl [0, 1, 2, 3, 4] rfl) h
theorem lX19_greeted_117 (hst : zSt B ids) (F : zFx p m c cX19_greeted 8 s args RX19 D cy B ids A) (hA : ∀ q : Nat, s.heap.size ≤ q → A q) {r : Int32} {z' : St} (E : zEnd p l e rmX19_greeted s m args below meth c cX19_greeted D cy B ids A Q none z' .return_ True) {N : Nat}  : ∀ (n : Nat) (x0 : Nat) (x1 : Nat) (x5 : Nat) (x6 : Int32) (x7 : Int32) (hx0 : (19, x0) ∈ ids) (hx1 : (12, x1) ∈ ids) (hx5 : (15, x5) ∈ ids) {z : St} {H : Heap} {locs : List Loc} {ls : Array Slot} (hr : zRep D cy B ids A s.heap z H locs) (hl : lv_has ls 8 [(0, .ref (B 19 x0)), (1, .ref (B 12 x1)), (5, .ref (B 15 x5)), (6, .int x6), (7, .int x7)]), fX19_greeted_117 N  n x0 x1 x5 x6 x7 z = some (r, z') → W p l e rmX19_greeted s m args below meth c H locs 0 0 Q (F0 m 117 ls []) := by
  intro n
  induction n with
  | zero => intro x0 x1 x5 x6 x7 hx0 hx1 hx5 z H locs ls hr hl h; cases h
  | succ n ih => intro x0 x1 x5 x6 x7 hx0 hx1 hx5 z H locs ls hr hl h; exact bX19_greeted_117 hst F hA E ih x0 x1 x5 x6 x7 hx0 hx1 hx5 hr hl h
def fX19_greeted_111 (N : Nat)  (x0 : Nat) (x1 : Nat) (x5 : Nat) (x6 : Int32) (s0 : Nat) (s1 : Int32) (z : St) : Option (Int32 × St) := zq (s1 = 0 ∨ s1 = 1) <| zl (zsI z 12 24 s0 s1) fun z1 => fX19_greeted_117 N N x0 x1 x5 x6 (0 : Int32) z1
set_option maxHeartbeats 4000000 in
set_option maxRecDepth 100000 in
theorem bX19_greeted_111 (hst : zSt B ids) (F : zFx p m c cX19_greeted 8 s args RX19 D cy B ids A) (hA : ∀ q : Nat, s.heap.size ≤ q → A q) {r : Int32} {z' : St} (E : zEnd p l e rmX19_greeted s m args below meth c cX19_greeted D cy B ids A Q none z' .return_ True) {N : Nat}  (x0 : Nat) (x1 : Nat) (x5 : Nat) (x6 : Int32) (s0 : Nat) (s1 : Int32) (hx0 : (19, x0) ∈ ids) (hx1 : (12, x1) ∈ ids) (hx5 : (15, x5) ∈ ids) (hs0 : (12, s0) ∈ ids) {z : St} {H : Heap} {locs : List Loc} {ls : Array Slot} (hr : zRep D cy B ids A s.heap z H locs) (hl : lv_has ls 8 [(0, .ref (B 19 x0)), (1, .ref (B 12 x1)), (5, .ref (B 15 x5)), (6, .int x6)]) (h : fX19_greeted_111 N x0 x1 x5 x6 s0 s1 z = some (r, z')) : W p l e rmX19_greeted s m args below meth c H locs 0 0 Q (F0 m 111 ls [.int s1, .ref (B 12 s0)]) := by
  unfold fX19_greeted_111 at h
  replace h := zq_some h
  obtain ⟨c2, h⟩ := h
  refine pf19_486 F hs0 hr dX19_greeted_111 s1 c2 (fun H locs z1 ez1 hr => ?_)
  replace h := zl_sub ez1 h
  clear ez1
  refine lv_iconst (v := (0 : Int32)) F.1 F.2.1 dX19_greeted_114 (by decide) ?_
  refine lv_istore (lv' := [(7, .int (0 : Int32)), (0, .ref (B 19 x0)), (1, .ref (B 12 x1)), (5, .ref (B 15 x5)), (6, .int x6)]) F.1 F.2.1 dX19_greeted_115 hl (by decide) rfl (fun ls hl => ?_)
  exact lX19_greeted_117 hst F hA E  _ x0 x1 x5 x6 (0 : Int32) hx0 hx1 hx5 hr (lv_sub hl [1, 2, 3, 4, 0] rfl) h
def fX19_greeted_106 (N : Nat)  (x0 : Nat) (x1 : Nat) (x5 : Nat) (x6 : Int32) (s0 : Nat) (z : St) : Option (Int32 × St) := fX19_greeted_111 N x0 x1 x5 x6 s0 (1 : Int32) z
set_option maxHeartbeats 4000000 in
set_option maxRecDepth 100000 in
theorem bX19_greeted_106 (hst : zSt B ids) (F : zFx p m c cX19_greeted 8 s args RX19 D cy B ids A) (hA : ∀ q : Nat, s.heap.size ≤ q → A q) {r : Int32} {z' : St} (E : zEnd p l e rmX19_greeted s m args below meth c cX19_greeted D cy B ids A Q none z' .return_ True) {N : Nat}  (x0 : Nat) (x1 : Nat) (x5 : Nat) (x6 : Int32) (s0 : Nat) (hx0 : (19, x0) ∈ ids) (hx1 : (12, x1) ∈ ids) (hx5 : (15, x5) ∈ ids) (hs0 : (12, s0) ∈ ids) {z : St} {H : Heap} {locs : List Loc} {ls : Array Slot} (hr : zRep D cy B ids A s.heap z H locs) (hl : lv_has ls 8 [(0, .ref (B 19 x0)), (1, .ref (B 12 x1)), (5, .ref (B 15 x5)), (6, .int x6)]) (h : fX19_greeted_106 N x0 x1 x5 x6 s0 z = some (r, z')) : W p l e rmX19_greeted s m args below meth c H locs 0 0 Q (F0 m 106 ls [.ref (B 12 s0)]) := by
  unfold fX19_greeted_106 at h
  refine lv_iconst (v := (1 : Int32)) F.1 F.2.1 dX19_greeted_106 (by decide) ?_
  refine lv_goto (tgt := 111) F.1 F.2.1 dX19_greeted_107 (by decide) ?_
  exact bX19_greeted_111 hst F hA E  x0 x1 x5 x6 s0 (1 : Int32) hx0 hx1 hx5 hs0 hr (lv_sub hl [0, 1, 2, 3] rfl) h
def fX19_greeted_85 (N : Nat)  (x0 : Nat) (x1 : Nat) (x5 : Nat) (x6 : Int32) (s0 : Nat) (s1 : Int32) (z : St) : Option (Int32 × St) := zq (s1 = 0 ∨ s1 = 1) <| zl (zsI z 15 3 s0 s1) fun z1 => if ¬ (zgI z1 12 24 x1) = 0 then (fX19_greeted_106 N x0 x1 x5 x6 x1 z1) else (if x6 = (zgI z1 15 3 x5) then (fX19_greeted_111 N x0 x1 x5 x6 x1 (0 : Int32) z1) else (fX19_greeted_106 N x0 x1 x5 x6 x1 z1))
set_option maxHeartbeats 4000000 in
set_option maxRecDepth 100000 in
theorem bX19_greeted_85 (hst : zSt B ids) (F : zFx p m c cX19_greeted 8 s args RX19 D cy B ids A) (hA : ∀ q : Nat, s.heap.size ≤ q → A q) {r : Int32} {z' : St} (E : zEnd p l e rmX19_greeted s m args below meth c cX19_greeted D cy B ids A Q none z' .return_ True) {N : Nat}  (x0 : Nat) (x1 : Nat) (x5 : Nat) (x6 : Int32) (s0 : Nat) (s1 : Int32) (hx0 : (19, x0) ∈ ids) (hx1 : (12, x1) ∈ ids) (hx5 : (15, x5) ∈ ids) (hs0 : (15, s0) ∈ ids) {z : St} {H : Heap} {locs : List Loc} {ls : Array Slot} (hr : zRep D cy B ids A s.heap z H locs) (hl : lv_has ls 8 [(0, .ref (B 19 x0)), (1, .ref (B 12 x1)), (5, .ref (B 15 x5)), (6, .int x6)]) (h : fX19_greeted_85 N x0 x1 x5 x6 s0 s1 z = some (r, z')) : W p l e rmX19_greeted s m args below meth c H locs 0 0 Q (F0 m 85 ls [.int s1, .ref (B 15 s0)]) := by
  unfold fX19_greeted_85 at h
  replace h := zq_some h
  obtain ⟨c2, h⟩ := h
  refine pf19_473 F hs0 hr dX19_greeted_85 s1 c2 (fun H locs z1 ez1 hr => ?_)
  replace h := zl_sub ez1 h
  clear ez1
  refine lv_aload_n F.1 F.2.1 dX19_greeted_88 rfl (lv_at hl 1 rfl) ?_
  refine lv_aload_n F.1 F.2.1 dX19_greeted_89 rfl (lv_at hl 1 rfl) ?_
  refine gf19_486 F hx1 hr dX19_greeted_90 ?_
  refine lv_if_ne (tgt := 106) F.1 F.2.1 dX19_greeted_93 (by decide) (fun c3 => ?_) (fun c3 => ?_)
  · replace h := zi_t c3 h
    exact bX19_greeted_106 hst F hA E  x0 x1 x5 x6 x1 hx0 hx1 hx5 hx1 hr (lv_sub hl [0, 1, 2, 3] rfl) h
  · replace h := zi_f (fun q => q c3) h
    refine lv_iload F.1 F.2.1 dX19_greeted_96 (lv_at hl 3 rfl) ?_
    refine lv_aload F.1 F.2.1 dX19_greeted_98 (lv_at hl 2 rfl) ?_
    refine gf19_473 F hx5 hr dX19_greeted_100 ?_
    refine lv_icmp_eq (tgt := 110) F.1 F.2.1 dX19_greeted_103 (by decide) (fun c4 => ?_) (fun c4 => ?_)
    · replace h := zi_t c4 h
      refine lv_iconst (v := (0 : Int32)) F.1 F.2.1 dX19_greeted_110 (by decide) ?_
      exact bX19_greeted_111 hst F hA E  x0 x1 x5 x6 x1 (0 : Int32) hx0 hx1 hx5 hx1 hr (lv_sub hl [0, 1, 2, 3] rfl) h
    · replace h := zi_f c4 h
      exact bX19_greeted_106 hst F hA E  x0 x1 x5 x6 x1 hx0 hx1 hx5 hx1 hr (lv_sub hl [0, 1, 2, 3] rfl) h
def fX19_greeted_49 (N : Nat)  (x0 : Nat) (x1 : Nat) (x4 : Int32) (x5 : Option Nat) (z : St) : Option (Int32 × St) := zd x5 fun a1 => zl (zgI z 15 3 a1) fun v2 => zl (zsI z 15 2 a1 (zgI z 19 24 x0)) fun z3 => if ¬ ((x4 >>> ((zgI z3 12 0 x1) &&& 31)) &&& (1 : Int32)) = (1 : Int32) then (fX19_greeted_85 N x0 x1 a1 v2 a1 (0 : Int32) z3) else (fX19_greeted_85 N x0 x1 a1 v2 a1 (1 : Int32) z3)
set_option maxHeartbeats 4000000 in
set_option maxRecDepth 100000 in
theorem bX19_greeted_49 (hst : zSt B ids) (F : zFx p m c cX19_greeted 8 s args RX19 D cy B ids A) (hA : ∀ q : Nat, s.heap.size ≤ q → A q) {r : Int32} {z' : St} (E : zEnd p l e rmX19_greeted s m args below meth c cX19_greeted D cy B ids A Q none z' .return_ True) {N : Nat}  (x0 : Nat) (x1 : Nat) (x4 : Int32) (x5 : Option Nat) (hx0 : (19, x0) ∈ ids) (hx1 : (12, x1) ∈ ids) (hx5 : ∀ t, x5 = some t → (15, t) ∈ ids) {z : St} {H : Heap} {locs : List Loc} {ls : Array Slot} (hr : zRep D cy B ids A s.heap z H locs) (hl : lv_has ls 8 [(0, .ref (B 19 x0)), (1, .ref (B 12 x1)), (4, .int x4), (5, va_rf (Option.map (B 15) x5))]) (h : fX19_greeted_49 N x0 x1 x4 x5 z = some (r, z')) : W p l e rmX19_greeted s m args below meth c H locs 0 0 Q (F0 m 49 ls []) := by
  unfold fX19_greeted_49 at h
  refine zr_aload F.1 F.2.1 dX19_greeted_49 (lv_at hl 3 rfl) ?_
  replace h := zd_some h
  obtain ⟨a1, rfl, h⟩ := h
  refine gf19_473 F (hx5 _ rfl) hr dX19_greeted_51 ?_
  refine lv_topi (fun v2 ev2 => ?_)
  replace h := zl_sub ev2 h
  refine lv_istore (lv' := [(6, .int v2), (0, .ref (B 19 x0)), (1, .ref (B 12 x1)), (4, .int x4), (5, .ref (B 15 a1))]) F.1 F.2.1 dX19_greeted_54 hl (by decide) rfl (fun ls hl => ?_)
  refine lv_aload F.1 F.2.1 dX19_greeted_56 (lv_at hl 4 rfl) ?_
  refine lv_aload_n F.1 F.2.1 dX19_greeted_58 rfl (lv_at hl 1 rfl) ?_
  refine gf19_143 F hx0 hr dX19_greeted_59 ?_
  refine pf19_483 F (hx5 _ rfl) hr dX19_greeted_62 (zgI z 19 24 x0) (fun H locs z3 ez3 hr => ?_)
  replace h := zl_sub ez3 h
  clear ez3
  refine lv_aload F.1 F.2.1 dX19_greeted_65 (lv_at hl 4 rfl) ?_
  refine lv_iload F.1 F.2.1 dX19_greeted_67 (lv_at hl 3 rfl) ?_
  refine lv_aload_n F.1 F.2.1 dX19_greeted_69 rfl (lv_at hl 2 rfl) ?_
  refine gf19_310 F hx1 hr dX19_greeted_70 ?_
  refine lv_ishr F.1 F.2.1 dX19_greeted_73 ?_
  refine lv_iconst (v := (1 : Int32)) F.1 F.2.1 dX19_greeted_74 (by decide) ?_
  refine lv_iand F.1 F.2.1 dX19_greeted_75 ?_
  refine lv_iconst (v := (1 : Int32)) F.1 F.2.1 dX19_greeted_76 (by decide) ?_
  refine lv_icmp_ne (tgt := 84) F.1 F.2.1 dX19_greeted_77 (by decide) (fun c4 => ?_) (fun c4 => ?_)
  · replace h := zi_t c4 h
    refine lv_iconst (v := (0 : Int32)) F.1 F.2.1 dX19_greeted_84 (by decide) ?_
    exact bX19_greeted_85 hst F hA E  x0 x1 a1 v2 a1 (0 : Int32) hx0 hx1 (hx5 _ rfl) (hx5 _ rfl) hr (lv_sub hl [1, 2, 4, 0] rfl) h
  · replace h := zi_f (fun q => q c4) h
    refine lv_iconst (v := (1 : Int32)) F.1 F.2.1 dX19_greeted_80 (by decide) ?_
    refine lv_goto (tgt := 85) F.1 F.2.1 dX19_greeted_81 (by decide) ?_
    exact bX19_greeted_85 hst F hA E  x0 x1 a1 v2 a1 (1 : Int32) hx0 hx1 (hx5 _ rfl) (hx5 _ rfl) hr (lv_sub hl [1, 2, 4, 0] rfl) h
def fX19_greeted (N : Nat)  (x0 : Nat) (x1 : Nat) (x2 : Int32) (x3 : Int32) (x4 : Int32) (z : St) : Option (Int32 × St) := zk x2 6 <| zl (zgQ z 147 x1 (Int32.toNatClampNeg x2)) fun y2 => zd y2 fun a3 => if ¬ (zgI z 18 5 a3) = 0 then (zc (fX19_neighbour N x1 x2 x3 z) fun r5 z6 => zo r5 (if ¬ (zgI z6 12 13 x1) = (16 : Int32) then (zc (fX19_newNeighbour N x0 x1 x2 x3 z6) fun r12 z13 => fX19_greeted_49 N x0 x1 x4 r12 z13) else (zc (fX19_stir N x0 z6) fun _ z17 => some (0, z17))) fun a10 => fX19_greeted_49 N x0 x1 x4 (some a10) z6) else (some (0, z))
set_option maxHeartbeats 4000000 in
set_option maxRecDepth 100000 in
theorem bX19_greeted_0 (hst : zSt B ids) (F : zFx p m c cX19_greeted 8 s args RX19 D cy B ids A) (hA : ∀ q : Nat, s.heap.size ≤ q → A q) {r : Int32} {z' : St} (E : zEnd p l e rmX19_greeted s m args below meth c cX19_greeted D cy B ids A Q none z' .return_ True) {N : Nat}  (x0 : Nat) (x1 : Nat) (x2 : Int32) (x3 : Int32) (x4 : Int32) (hx0 : (19, x0) ∈ ids) (hx1 : (12, x1) ∈ ids) {z : St} {H : Heap} {locs : List Loc} {ls : Array Slot} (hr : zRep D cy B ids A s.heap z H locs) (hl : lv_has ls 8 [(0, .ref (B 19 x0)), (1, .ref (B 12 x1)), (2, .int x2), (3, .int x3), (4, .int x4)]) (h : fX19_greeted N x0 x1 x2 x3 x4 z = some (r, z')) : W p l e rmX19_greeted s m args below meth c H locs 0 0 Q (F0 m 0 ls []) := by
  unfold fX19_greeted at h
  refine lv_aload_n F.1 F.2.1 dX19_greeted_0 rfl (lv_at hl 1 rfl) ?_
  refine gf19_276 F hx1 hr dX19_greeted_1 ?_
  refine lv_iload_n F.1 F.2.1 dX19_greeted_4 rfl (lv_at hl 2 rfl) ?_
  replace h := zk_some h
  obtain ⟨c1, h⟩ := h
  refine zr_aaldv (k := 147) (by decide) rfl rfl (zlen_d (by decide)) F (zal_a F hx1 (j := 2) rfl) hr dX19_greeted_5 c1 (fun y2 ey2 => ?_)
  replace h := zl_sub ey2 h
  have hy2 := zal_q hr (zal_a F hx1 (j := 2) rfl) rfl ey2
  clear ey2
  replace h := zd_some h
  obtain ⟨a3, rfl, h⟩ := h
  refine gf19_479 F (hy2 _ rfl) hr dX19_greeted_6 ?_
  refine lv_if_ne (tgt := 13) F.1 F.2.1 dX19_greeted_9 (by decide) (fun c4 => ?_) (fun c4 => ?_)
  · replace h := zi_t c4 h
    refine lv_aload_n F.1 F.2.1 dX19_greeted_13 rfl (lv_at hl 1 rfl) ?_
    refine lv_iload_n F.1 F.2.1 dX19_greeted_14 rfl (lv_at hl 2 rfl) ?_
    refine lv_iload_n F.1 F.2.1 dX19_greeted_15 rfl (lv_at hl 3 rfl) ?_
    replace h := zc_some h
    obtain ⟨r5, z6, hc7, h⟩ := h
    refine zr_callr (zrun_S (As := [.ref (B 12 x1), .int x2, .int x3]) (rest := []) zq_2814 zq_2815 zq_2816 zq_4 hdX19_neighbour (okX19_neighbour l D cy B ids hst N x1 hx1 x2  x3  hr.2.2 hc7) F hr hl.1 rfl (by decide) dX19_greeted_16 rfl rfl hroX19_greeted_X19_neighbour ⟨Nat.zero_le _, Nat.zero_le _⟩) F hA hr (fun H locs hw8 hr => ?_)
    clear hc7
    refine zr_astore (lv' := [(5, va_rf (Option.map (B 15) r5)), (0, .ref (B 19 x0)), (1, .ref (B 12 x1)), (2, .int x2), (3, .int x3), (4, .int x4)]) F.1 F.2.1 dX19_greeted_19 hl (by decide) rfl (fun ls hl => ?_)
    refine zr_aload F.1 F.2.1 dX19_greeted_21 (lv_at hl 0 rfl) ?_
    refine zr_ifnonnull (tgt := 49) F.1 F.2.1 dX19_greeted_23 (by decide) (fun e9 => ?_) (fun a10 e9 => ?_)
    · replace h := zo_n e9 h
      subst e9
      refine lv_aload_n F.1 F.2.1 dX19_greeted_26 rfl (lv_at hl 2 rfl) ?_
      refine gf19_457 F hx1 hr dX19_greeted_27 ?_
      refine lv_bipush (v := (16 : Int32)) F.1 F.2.1 dX19_greeted_30 (by decide) ?_
      refine lv_icmp_ne (tgt := 40) F.1 F.2.1 dX19_greeted_32 (by decide) (fun c11 => ?_) (fun c11 => ?_)
      · replace h := zi_t c11 h
        refine lv_aload_n F.1 F.2.1 dX19_greeted_40 rfl (lv_at hl 1 rfl) ?_
        refine lv_aload_n F.1 F.2.1 dX19_greeted_41 rfl (lv_at hl 2 rfl) ?_
        refine lv_iload_n F.1 F.2.1 dX19_greeted_42 rfl (lv_at hl 3 rfl) ?_
        refine lv_iload_n F.1 F.2.1 dX19_greeted_43 rfl (lv_at hl 4 rfl) ?_
        replace h := zc_some h
        obtain ⟨r12, z13, hc14, h⟩ := h
        refine zr_callr (zrun_V (As := [.ref (B 12 x1), .int x2, .int x3]) (rest := []) zq_2817 zq_2819 zs_X19_newNeighbour zq_2820 zq_4 hdX19_newNeighbour (by decide) (T := TX19) (N := 32) rfl (okX19_newNeighbour l D cy B ids hst N x0 hx0 x1 hx1 x2  x3  hr.2.2 hc14) F hr hx0 hl.1 rfl (by decide) dX19_greeted_44 rfl rfl hroX19_greeted_X19_newNeighbour ⟨Nat.zero_le _, Nat.zero_le _⟩) F hA hr (fun H locs hw15 hr => ?_)
        clear hc14
        refine zr_astore (lv' := [(5, va_rf (Option.map (B 15) r12)), (0, .ref (B 19 x0)), (1, .ref (B 12 x1)), (2, .int x2), (3, .int x3), (4, .int x4)]) F.1 F.2.1 dX19_greeted_47 hl (by decide) rfl (fun ls hl => ?_)
        exact bX19_greeted_49 hst F hA E  x0 x1 x4 r12 hx0 hx1 hw15 hr (lv_sub hl [1, 2, 5, 0] rfl) h
      · replace h := zi_f (fun q => q c11) h
        refine lv_aload_n F.1 F.2.1 dX19_greeted_35 rfl (lv_at hl 1 rfl) ?_
        replace h := zc_some h
        obtain ⟨r16, z17, hc18, h⟩ := h
        refine zr_callv (zrun_V (As := []) (rest := []) zq_2394 zq_2396 zs_X19_stir zq_2397 zq_4 hdX19_stir (by decide) (T := TX19) (N := 32) rfl (okX19_stir l D cy B ids hst N x0 hx0 hr.2.2 hc18) F hr hx0 hl.1 rfl (by decide) dX19_greeted_36 rfl rfl hroX19_greeted_X19_stir ⟨Nat.zero_le _, Nat.zero_le _⟩) F hA hr (fun H locs hw19 hr => ?_)
        clear hc18
        obtain ⟨rfl, rfl⟩ := zret h
        exact E _ _ _ _ dX19_greeted_39 trivial hr
    · replace h := zo_s e9 h
      subst e9
      exact bX19_greeted_49 hst F hA E  x0 x1 x4 (some a10) hx0 hx1 (zal_s (hw8 _ rfl)) hr (lv_sub hl [1, 2, 5, 0] rfl) h
  · replace h := zi_f (fun q => q c4) h
    obtain ⟨rfl, rfl⟩ := zret h
    exact E _ _ _ _ dX19_greeted_12 trivial hr
end SX19_greeted
set_option maxRecDepth 100000 in
theorem okX19_greeted (l : Launch) (D : va_G) (cy : Nat → ClassId) (B : Nat → Nat → Nat) (ids : List (Nat × Nat)) (hst : zSt B ids) (N : Nat) (x0 : Nat) (hx0 : (19, x0) ∈ ids) (x1 : Nat) (hx1 : (12, x1) ∈ ids) (x2 : Int32) (x3 : Int32) (x4 : Int32) {z : St} {r : Int32} {z' : St} (hW : zWf ids z) (h : fX19_greeted N x0 x1 x2 x3 x4 z = some (r, z')) : zM l yX19_greeted (zws yX19_greeted cX19_greeted 8 none) rmX19_greeted D cy B ids [.ref (B 19 x0), .ref (B 12 x1), .int x2, .int x3, .int x4] none True z z' :=
  zM_of hst hW (by decide +kernel) (Nat.le_of_ble_eq_true rfl) (fun p e s m args below meth c A ls F hA hret hlocks hr hl => bX19_greeted_0 hst F hA (zEnd_v F hret hlocks) x0 x1 x2 x3 x4 hx0 hx1 hr hl h)
abbrev rmX19_answer : Room := { frames := 3, cells := 0, slots := 0, locals := 65 }
theorem hdX19_answer : yX19_answer.cls ≠ "java/lang/invoke/MethodHandle" ∧ yX19_answer.cls ≠ "java/lang/invoke/VarHandle" ∧ (parseMethodDescriptor yX19_answer.desc).map (fun d => d.parameters.length) = some 2 := by decide +kernel
theorem hroX19_answer_X14_resetWith : rmX14_resetWith.frames + 1 ≤ rmX19_answer.frames ∧ 8 + (4 + 11) + rmX14_resetWith.locals ≤ rmX19_answer.locals := by decide
theorem hroX19_answer_X19_has : rmX19_has.frames + 1 ≤ rmX19_answer.frames ∧ 8 + (3 + 11) + rmX19_has.locals ≤ rmX19_answer.locals := by decide
theorem hroX19_answer_X19_seg : rmX19_seg.frames + 1 ≤ rmX19_answer.frames ∧ 8 + (3 + 11) + rmX19_seg.locals ≤ rmX19_answer.locals := by decide
theorem hroX19_answer_X19_sizeOf : rmX19_sizeOf.frames + 1 ≤ rmX19_answer.frames ∧ 8 + (2 + 11) + rmX19_sizeOf.locals ≤ rmX19_answer.locals := by decide
section SX19_answer
variable {p : Program} {l : Launch} {e : Env} {s : State} {m : MethodId} {args : Array Value} {below : List Frame} {meth : Method} {c : Code} {Q : State → Prop} {D : va_G} {cy : Nat → ClassId} {B : Nat → Nat → Nat} {ids : List (Nat × Nat)} {A : Nat → Prop}
def fX19_answer (N : Nat)  (x0 : Nat) (x1 : Nat) (x2 : Int32) (z : St) : Option (Int32 × St) := zc (fX19_has N x0 x2 (4 : Int32) z) fun r1 z2 => if ¬ r1 = 0 then (some (0, z2)) else (zc (fX19_has N x0 x2 (8 : Int32) z2) fun r6 z7 => if r6 = 0 then (zc (fX19_seg N x0 x2 (3 : Int32) z7) fun r11 z12 => zc (fX19_sizeOf N x0 x2 z12) fun r15 z16 => zc (fX14_resetWith N x1 (12 : Int32) (0 : Int32) (r11 + r15) z16) fun _ z20 => some (0, z20)) else (zc (fX19_seg N x0 x2 (4 : Int32) z7) fun r23 z24 => zc (fX14_resetWith N x1 (4 : Int32) r23 (0 : Int32) z24) fun _ z28 => some (0, z28)))
set_option maxHeartbeats 4000000 in
set_option maxRecDepth 100000 in
theorem bX19_answer_0 (hst : zSt B ids) (F : zFx p m c cX19_answer 3 s args RX19 D cy B ids A) (hA : ∀ q : Nat, s.heap.size ≤ q → A q) {r : Int32} {z' : St} (E : zEnd p l e rmX19_answer s m args below meth c cX19_answer D cy B ids A Q none z' .return_ True) {N : Nat}  (x0 : Nat) (x1 : Nat) (x2 : Int32) (hx0 : (19, x0) ∈ ids) (hx1 : (14, x1) ∈ ids) {z : St} {H : Heap} {locs : List Loc} {ls : Array Slot} (hr : zRep D cy B ids A s.heap z H locs) (hl : lv_has ls 3 [(0, .ref (B 19 x0)), (1, .ref (B 14 x1)), (2, .int x2)]) (h : fX19_answer N x0 x1 x2 z = some (r, z')) : W p l e rmX19_answer s m args below meth c H locs 0 0 Q (F0 m 0 ls []) := by
  unfold fX19_answer at h
  refine lv_aload_n F.1 F.2.1 dX19_answer_0 rfl (lv_at hl 0 rfl) ?_
  refine lv_iload_n F.1 F.2.1 dX19_answer_1 rfl (lv_at hl 2 rfl) ?_
  refine lv_iconst (v := (4 : Int32)) F.1 F.2.1 dX19_answer_2 (by decide) ?_
  replace h := zc_some h
  obtain ⟨r1, z2, hc3, h⟩ := h
  refine zr_calli (zrun_V (As := [.int x2, .int (4 : Int32)]) (rest := []) zq_2663 zq_2665 zs_X19_has zq_2666 zq_4 hdX19_has (by decide) (T := TX19) (N := 32) rfl (okX19_has l D cy B ids hst N x0 hx0 x2  (4 : Int32)  hr.2.2 hc3) F hr hx0 hl.1 rfl (by decide) dX19_answer_3 rfl rfl hroX19_answer_X19_has ⟨Nat.zero_le _, Nat.zero_le _⟩) F hA hr (fun H locs hw4 hr => ?_)
  clear hc3
  refine lv_if_ne (tgt := 53) F.1 F.2.1 dX19_answer_6 (by decide) (fun c5 => ?_) (fun c5 => ?_)
  · replace h := zi_t c5 h
    obtain ⟨rfl, rfl⟩ := zret h
    exact E _ _ _ _ dX19_answer_53 trivial hr
  · replace h := zi_f (fun q => q c5) h
    refine lv_aload_n F.1 F.2.1 dX19_answer_9 rfl (lv_at hl 0 rfl) ?_
    refine lv_iload_n F.1 F.2.1 dX19_answer_10 rfl (lv_at hl 2 rfl) ?_
    refine lv_bipush (v := (8 : Int32)) F.1 F.2.1 dX19_answer_11 (by decide) ?_
    replace h := zc_some h
    obtain ⟨r6, z7, hc8, h⟩ := h
    refine zr_calli (zrun_V (As := [.int x2, .int (8 : Int32)]) (rest := []) zq_2663 zq_2665 zs_X19_has zq_2666 zq_4 hdX19_has (by decide) (T := TX19) (N := 32) rfl (okX19_has l D cy B ids hst N x0 hx0 x2  (8 : Int32)  hr.2.2 hc8) F hr hx0 hl.1 rfl (by decide) dX19_answer_13 rfl rfl hroX19_answer_X19_has ⟨Nat.zero_le _, Nat.zero_le _⟩) F hA hr (fun H locs hw9 hr => ?_)
    clear hc8
    refine lv_if_eq (tgt := 34) F.1 F.2.1 dX19_answer_16 (by decide) (fun c10 => ?_) (fun c10 => ?_)
    · replace h := zi_t c10 h
      refine lv_aload_n F.1 F.2.1 dX19_answer_34 rfl (lv_at hl 1 rfl) ?_
      refine lv_bipush (v := (12 : Int32)) F.1 F.2.1 dX19_answer_35 (by decide) ?_
      refine lv_iconst (v := (0 : Int32)) F.1 F.2.1 dX19_answer_37 (by decide) ?_
      refine lv_aload_n F.1 F.2.1 dX19_answer_38 rfl (lv_at hl 0 rfl) ?_
      refine lv_iload_n F.1 F.2.1 dX19_answer_39 rfl (lv_at hl 2 rfl) ?_
      refine lv_iconst (v := (3 : Int32)) F.1 F.2.1 dX19_answer_40 (by decide) ?_
      replace h := zc_some h
      obtain ⟨r11, z12, hc13, h⟩ := h
      refine zr_calli (zrun_V (As := [.int x2, .int (3 : Int32)]) (rest := [.int (0 : Int32), .int (12 : Int32), .ref (B 14 x1)]) zq_2557 zq_2559 zs_X19_seg zq_2560 zq_4 hdX19_seg (by decide) (T := TX19) (N := 32) rfl (okX19_seg l D cy B ids hst N x0 hx0 x2  (3 : Int32)  hr.2.2 hc13) F hr hx0 hl.1 rfl (Nat.le_of_ble_eq_true rfl) dX19_answer_41 rfl rfl hroX19_answer_X19_seg ⟨Nat.zero_le _, Nat.zero_le _⟩) F hA hr (fun H locs hw14 hr => ?_)
      clear hc13
      refine lv_aload_n F.1 F.2.1 dX19_answer_44 rfl (lv_at hl 0 rfl) ?_
      refine lv_iload_n F.1 F.2.1 dX19_answer_45 rfl (lv_at hl 2 rfl) ?_
      replace h := zc_some h
      obtain ⟨r15, z16, hc17, h⟩ := h
      refine zr_calli (zrun_V (As := [.int x2]) (rest := [.int r11, .int (0 : Int32), .int (12 : Int32), .ref (B 14 x1)]) zq_2675 zq_2677 zs_X19_sizeOf zq_2678 zq_4 hdX19_sizeOf (by decide) (T := TX19) (N := 32) rfl (okX19_sizeOf l D cy B ids hst N x0 hx0 x2  hr.2.2 hc17) F hr hx0 hl.1 rfl (Nat.le_of_ble_eq_true rfl) dX19_answer_46 rfl rfl hroX19_answer_X19_sizeOf ⟨Nat.zero_le _, Nat.zero_le _⟩) F hA hr (fun H locs hw18 hr => ?_)
      clear hc17
      refine lv_iadd F.1 F.2.1 dX19_answer_49 ?_
      replace h := zc_some h
      obtain ⟨r19, z20, hc21, h⟩ := h
      refine zr_callv (zrun_VN (As := [.int (12 : Int32), .int (0 : Int32), .int (r11 + r15)]) (rest := []) zn_2671 zq_2673 zs_X14_resetWith zq_2674 zq_21 hdX14_resetWith (by decide) (T := TX14) (N := 47) rfl (okX14_resetWith l D cy B ids hst N x1 hx1 (12 : Int32)  (0 : Int32)  (r11 + r15)  hr.2.2 hc21) F hr hx1 hl.1 rfl (by decide) dX19_answer_50 rfl rfl hroX19_answer_X14_resetWith ⟨Nat.zero_le _, Nat.zero_le _⟩) F hA hr (fun H locs hw22 hr => ?_)
      clear hc21
      obtain ⟨rfl, rfl⟩ := zret h
      exact E _ _ _ _ dX19_answer_53 trivial hr
    · replace h := zi_f c10 h
      refine lv_aload_n F.1 F.2.1 dX19_answer_19 rfl (lv_at hl 1 rfl) ?_
      refine lv_iconst (v := (4 : Int32)) F.1 F.2.1 dX19_answer_20 (by decide) ?_
      refine lv_aload_n F.1 F.2.1 dX19_answer_21 rfl (lv_at hl 0 rfl) ?_
      refine lv_iload_n F.1 F.2.1 dX19_answer_22 rfl (lv_at hl 2 rfl) ?_
      refine lv_iconst (v := (4 : Int32)) F.1 F.2.1 dX19_answer_23 (by decide) ?_
      replace h := zc_some h
      obtain ⟨r23, z24, hc25, h⟩ := h
      refine zr_calli (zrun_V (As := [.int x2, .int (4 : Int32)]) (rest := [.int (4 : Int32), .ref (B 14 x1)]) zq_2557 zq_2559 zs_X19_seg zq_2560 zq_4 hdX19_seg (by decide) (T := TX19) (N := 32) rfl (okX19_seg l D cy B ids hst N x0 hx0 x2  (4 : Int32)  hr.2.2 hc25) F hr hx0 hl.1 rfl (Nat.le_of_ble_eq_true rfl) dX19_answer_24 rfl rfl hroX19_answer_X19_seg ⟨Nat.zero_le _, Nat.zero_le _⟩) F hA hr (fun H locs hw26 hr => ?_)
      clear hc25
      refine lv_iconst (v := (0 : Int32)) F.1 F.2.1 dX19_answer_27 (by decide) ?_
      replace h := zc_some h
      obtain ⟨r27, z28, hc29, h⟩ := h
      refine zr_callv (zrun_VN (As := [.int (4 : Int32), .int r23, .int (0 : Int32)]) (rest := []) zn_2671 zq_2673 zs_X14_resetWith zq_2674 zq_21 hdX14_resetWith (by decide) (T := TX14) (N := 47) rfl (okX14_resetWith l D cy B ids hst N x1 hx1 (4 : Int32)  r23  (0 : Int32)  hr.2.2 hc29) F hr hx1 hl.1 rfl (by decide) dX19_answer_28 rfl rfl hroX19_answer_X14_resetWith ⟨Nat.zero_le _, Nat.zero_le _⟩) F hA hr (fun H locs hw30 hr => ?_)
      clear hc29
      refine lv_goto (tgt := 53) F.1 F.2.1 dX19_answer_31 (by decide) ?_
      obtain ⟨rfl, rfl⟩ := zret h
      exact E _ _ _ _ dX19_answer_53 trivial hr
end SX19_answer
set_option maxRecDepth 100000 in
theorem okX19_answer (l : Launch) (D : va_G) (cy : Nat → ClassId) (B : Nat → Nat → Nat) (ids : List (Nat × Nat)) (hst : zSt B ids) (N : Nat) (x0 : Nat) (hx0 : (19, x0) ∈ ids) (x1 : Nat) (hx1 : (14, x1) ∈ ids) (x2 : Int32) {z : St} {r : Int32} {z' : St} (hW : zWf ids z) (h : fX19_answer N x0 x1 x2 z = some (r, z')) : zM l yX19_answer (zws yX19_answer cX19_answer 3 none) rmX19_answer D cy B ids [.ref (B 19 x0), .ref (B 14 x1), .int x2] none True z z' :=
  zM_of hst hW (by decide +kernel) (Nat.le_of_ble_eq_true rfl) (fun p e s m args below meth c A ls F hA hret hlocks hr hl => bX19_answer_0 hst F hA (zEnd_v F hret hlocks) x0 x1 x2 hx0 hx1 hr hl h)
abbrev rmX19_takeOpen : Room := { frames := 2, cells := 0, slots := 0, locals := 44 }
theorem hdX19_takeOpen : yX19_takeOpen.cls ≠ "java/lang/invoke/MethodHandle" ∧ yX19_takeOpen.cls ≠ "java/lang/invoke/VarHandle" ∧ (parseMethodDescriptor yX19_takeOpen.desc).map (fun d => d.parameters.length) = some 2 := by decide +kernel
theorem hroX19_takeOpen_X19_dropBook : rmX19_dropBook.frames + 1 ≤ rmX19_takeOpen.frames ∧ 8 + (2 + 11) + rmX19_dropBook.locals ≤ rmX19_takeOpen.locals := by decide
theorem hroX19_takeOpen_X19_has : rmX19_has.frames + 1 ≤ rmX19_takeOpen.frames ∧ 8 + (3 + 11) + rmX19_has.locals ≤ rmX19_takeOpen.locals := by decide
theorem hroX19_takeOpen_X19_seg : rmX19_seg.frames + 1 ≤ rmX19_takeOpen.frames ∧ 8 + (3 + 11) + rmX19_seg.locals ≤ rmX19_takeOpen.locals := by decide
section SX19_takeOpen
variable {p : Program} {l : Launch} {e : Env} {s : State} {m : MethodId} {args : Array Value} {below : List Frame} {meth : Method} {c : Code} {Q : State → Prop} {D : va_G} {cy : Nat → ClassId} {B : Nat → Nat → Nat} {ids : List (Nat × Nat)} {A : Nat → Prop}
def fX19_takeOpen_113 (N : Nat)  (x0 : Nat) (x1 : Nat) (x2 : Int32) (s0 : Nat) (s1 : Int32) (z : St) : Option (Int32 × St) := zl (zsI z 14 13 s0 s1) fun z1 => zc (fX19_dropBook N x0 (zgI z1 14 45 x1) z1) fun _ z3 => zl (zsI z3 14 45 x1 (-1 : Int32)) fun z6 => zl (zsI z6 14 46 x1 (0 : Int32)) fun z7 => zc (fX19_seg N x0 x2 (8 : Int32) z7) fun r8 z9 => if r8 = (-1 : Int32) then (some (0, z9)) else (zk r8 2592 <| if (zgA z9 183 x0 (Int32.toNatClampNeg r8)) ≤ 0 then (some (0, z9)) else (zk r8 2592 <| zc (fX19_seg N x0 x2 (9 : Int32) z9) fun r16 z17 => if ¬ (zgA z9 184 x0 (Int32.toNatClampNeg r8)) = r16 then (some (0, z17)) else (zl (zsI z17 14 45 x1 r8) fun z21 => zk r8 2592 <| zk r8 2592 <| zl (zsA z21 183 x0 (Int32.toNatClampNeg r8) ((zgA z21 183 x0 (Int32.toNatClampNeg r8)) + (1 : Int32))) fun z24 => some (0, z24))))
set_option maxHeartbeats 4000000 in
set_option maxRecDepth 100000 in
theorem bX19_takeOpen_113 (hst : zSt B ids) (F : zFx p m c cX19_takeOpen 5 s args RX19 D cy B ids A) (hA : ∀ q : Nat, s.heap.size ≤ q → A q) {r : Int32} {z' : St} (E : zEnd p l e rmX19_takeOpen s m args below meth c cX19_takeOpen D cy B ids A Q none z' .return_ True) {N : Nat}  (x0 : Nat) (x1 : Nat) (x2 : Int32) (s0 : Nat) (s1 : Int32) (hx0 : (19, x0) ∈ ids) (hx1 : (14, x1) ∈ ids) (hs0 : (14, s0) ∈ ids) {z : St} {H : Heap} {locs : List Loc} {ls : Array Slot} (hr : zRep D cy B ids A s.heap z H locs) (hl : lv_has ls 5 [(0, .ref (B 19 x0)), (1, .ref (B 14 x1)), (2, .int x2)]) (h : fX19_takeOpen_113 N x0 x1 x2 s0 s1 z = some (r, z')) : W p l e rmX19_takeOpen s m args below meth c H locs 0 0 Q (F0 m 113 ls [.int s1, .ref (B 14 s0)]) := by
  unfold fX19_takeOpen_113 at h
  refine pf19_591 F hs0 hr dX19_takeOpen_113 s1 (fun H locs z1 ez1 hr => ?_)
  replace h := zl_sub ez1 h
  clear ez1
  refine lv_aload_n F.1 F.2.1 dX19_takeOpen_116 rfl (lv_at hl 0 rfl) ?_
  refine lv_aload_n F.1 F.2.1 dX19_takeOpen_117 rfl (lv_at hl 1 rfl) ?_
  refine gf19_594 F hx1 hr dX19_takeOpen_118 ?_
  replace h := zc_some h
  obtain ⟨r2, z3, hc4, h⟩ := h
  refine zr_callv (zrun_V (As := [.int (zgI z1 14 45 x1)]) (rest := []) zq_2561 zq_2563 zs_X19_dropBook zq_2564 zq_4 hdX19_dropBook (by decide) (T := TX19) (N := 32) rfl (okX19_dropBook l D cy B ids hst N x0 hx0 (zgI z1 14 45 x1)  hr.2.2 hc4) F hr hx0 hl.1 rfl (by decide) dX19_takeOpen_121 rfl rfl hroX19_takeOpen_X19_dropBook ⟨Nat.zero_le _, Nat.zero_le _⟩) F hA hr (fun H locs hw5 hr => ?_)
  clear hc4
  refine lv_aload_n F.1 F.2.1 dX19_takeOpen_124 rfl (lv_at hl 1 rfl) ?_
  refine lv_iconst (v := (-1 : Int32)) F.1 F.2.1 dX19_takeOpen_125 (by decide) ?_
  refine pf19_594 F hx1 hr dX19_takeOpen_126 (-1 : Int32) (fun H locs z6 ez6 hr => ?_)
  replace h := zl_sub ez6 h
  clear ez6
  refine lv_aload_n F.1 F.2.1 dX19_takeOpen_129 rfl (lv_at hl 1 rfl) ?_
  refine lv_iconst (v := (0 : Int32)) F.1 F.2.1 dX19_takeOpen_130 (by decide) ?_
  refine pf19_597 F hx1 hr dX19_takeOpen_131 (0 : Int32) (fun H locs z7 ez7 hr => ?_)
  replace h := zl_sub ez7 h
  clear ez7
  refine lv_aload_n F.1 F.2.1 dX19_takeOpen_134 rfl (lv_at hl 0 rfl) ?_
  refine lv_iload_n F.1 F.2.1 dX19_takeOpen_135 rfl (lv_at hl 2 rfl) ?_
  refine lv_bipush (v := (8 : Int32)) F.1 F.2.1 dX19_takeOpen_136 (by decide) ?_
  replace h := zc_some h
  obtain ⟨r8, z9, hc10, h⟩ := h
  refine zr_calli (zrun_V (As := [.int x2, .int (8 : Int32)]) (rest := []) zq_2557 zq_2559 zs_X19_seg zq_2560 zq_4 hdX19_seg (by decide) (T := TX19) (N := 32) rfl (okX19_seg l D cy B ids hst N x0 hx0 x2  (8 : Int32)  hr.2.2 hc10) F hr hx0 hl.1 rfl (by decide) dX19_takeOpen_138 rfl rfl hroX19_takeOpen_X19_seg ⟨Nat.zero_le _, Nat.zero_le _⟩) F hA hr (fun H locs hw11 hr => ?_)
  clear hc10
  refine lv_istore (lv' := [(4, .int r8), (0, .ref (B 19 x0)), (1, .ref (B 14 x1)), (2, .int x2)]) F.1 F.2.1 dX19_takeOpen_141 hl (by decide) rfl (fun ls hl => ?_)
  refine lv_iload F.1 F.2.1 dX19_takeOpen_143 (lv_at hl 0 rfl) ?_
  refine lv_iconst (v := (-1 : Int32)) F.1 F.2.1 dX19_takeOpen_145 (by decide) ?_
  refine lv_icmp_eq (tgt := 193) F.1 F.2.1 dX19_takeOpen_146 (by decide) (fun c12 => ?_) (fun c12 => ?_)
  · replace h := zi_t c12 h
    obtain ⟨rfl, rfl⟩ := zret h
    exact E _ _ _ _ dX19_takeOpen_193 trivial hr
  · replace h := zi_f c12 h
    refine lv_aload_n F.1 F.2.1 dX19_takeOpen_149 rfl (lv_at hl 1 rfl) ?_
    refine gf19_93 F hx0 hr dX19_takeOpen_150 ?_
    refine lv_iload F.1 F.2.1 dX19_takeOpen_153 (lv_at hl 0 rfl) ?_
    replace h := zk_some h
    obtain ⟨c13, h⟩ := h
    refine zr_iald (k := 183) (by decide) rfl (by decide) F (zal_a F hx0 (j := 14) rfl) hr dX19_takeOpen_155 c13 ?_
    refine lv_if_le (tgt := 193) F.1 F.2.1 dX19_takeOpen_156 (by decide) (fun c14 => ?_) (fun c14 => ?_)
    · replace h := zi_t c14 h
      obtain ⟨rfl, rfl⟩ := zret h
      exact E _ _ _ _ dX19_takeOpen_193 trivial hr
    · replace h := zi_f c14 h
      refine lv_aload_n F.1 F.2.1 dX19_takeOpen_159 rfl (lv_at hl 1 rfl) ?_
      refine gf19_96 F hx0 hr dX19_takeOpen_160 ?_
      refine lv_iload F.1 F.2.1 dX19_takeOpen_163 (lv_at hl 0 rfl) ?_
      replace h := zk_some h
      obtain ⟨c15, h⟩ := h
      refine zr_iald (k := 184) (by decide) rfl (by decide) F (zal_a F hx0 (j := 15) rfl) hr dX19_takeOpen_165 c15 ?_
      refine lv_aload_n F.1 F.2.1 dX19_takeOpen_166 rfl (lv_at hl 1 rfl) ?_
      refine lv_iload_n F.1 F.2.1 dX19_takeOpen_167 rfl (lv_at hl 3 rfl) ?_
      refine lv_bipush (v := (9 : Int32)) F.1 F.2.1 dX19_takeOpen_168 (by decide) ?_
      replace h := zc_some h
      obtain ⟨r16, z17, hc18, h⟩ := h
      refine zr_calli (zrun_V (As := [.int x2, .int (9 : Int32)]) (rest := [.int (zgA z9 184 x0 (Int32.toNatClampNeg r8))]) zq_2557 zq_2559 zs_X19_seg zq_2560 zq_4 hdX19_seg (by decide) (T := TX19) (N := 32) rfl (okX19_seg l D cy B ids hst N x0 hx0 x2  (9 : Int32)  hr.2.2 hc18) F hr hx0 hl.1 rfl (Nat.le_of_ble_eq_true rfl) dX19_takeOpen_170 rfl rfl hroX19_takeOpen_X19_seg ⟨Nat.zero_le _, Nat.zero_le _⟩) F hA hr (fun H locs hw19 hr => ?_)
      clear hc18
      refine lv_icmp_ne (tgt := 193) F.1 F.2.1 dX19_takeOpen_173 (by decide) (fun c20 => ?_) (fun c20 => ?_)
      · replace h := zi_t c20 h
        obtain ⟨rfl, rfl⟩ := zret h
        exact E _ _ _ _ dX19_takeOpen_193 trivial hr
      · replace h := zi_f (fun q => q c20) h
        refine lv_aload_n F.1 F.2.1 dX19_takeOpen_176 rfl (lv_at hl 2 rfl) ?_
        refine lv_iload F.1 F.2.1 dX19_takeOpen_177 (lv_at hl 0 rfl) ?_
        refine pf19_594 F hx1 hr dX19_takeOpen_179 r8 (fun H locs z21 ez21 hr => ?_)
        replace h := zl_sub ez21 h
        clear ez21
        refine lv_aload_n F.1 F.2.1 dX19_takeOpen_182 rfl (lv_at hl 1 rfl) ?_
        refine gf19_93 F hx0 hr dX19_takeOpen_183 ?_
        refine lv_iload F.1 F.2.1 dX19_takeOpen_186 (lv_at hl 0 rfl) ?_
        refine lv_dup2_11 F.1 F.2.1 dX19_takeOpen_188 rfl rfl ?_
        replace h := zk_some h
        obtain ⟨c22, h⟩ := h
        refine zr_iald (k := 183) (by decide) rfl (by decide) F (zal_a F hx0 (j := 14) rfl) hr dX19_takeOpen_189 c22 ?_
        refine lv_iconst (v := (1 : Int32)) F.1 F.2.1 dX19_takeOpen_190 (by decide) ?_
        refine lv_iadd F.1 F.2.1 dX19_takeOpen_191 ?_
        replace h := zk_some h
        obtain ⟨c23, h⟩ := h
        refine zr_iast (k := 183) (by decide) rfl (by decide) F (zal_a F hx0 (j := 14) rfl) hr dX19_takeOpen_192 c23 (fun H locs z24 ez24 hr => ?_)
        replace h := zl_sub ez24 h
        clear ez24
        obtain ⟨rfl, rfl⟩ := zret h
        exact E _ _ _ _ dX19_takeOpen_193 trivial hr
def fX19_takeOpen_66 (N : Nat)  (x0 : Nat) (x1 : Nat) (x2 : Int32) (s0 : Nat) (s1 : Int32) (z : St) : Option (Int32 × St) := zl (zsI z 14 15 s0 s1) fun z1 => zc (fX19_seg N x0 x2 (5 : Int32) z1) fun r2 z3 => zl (zsI z3 14 11 x1 r2) fun z6 => zc (fX19_seg N x0 x2 (3 : Int32) z6) fun r7 z8 => zl (zsI z8 14 12 x1 r7) fun z11 => zc (fX19_has N x0 x2 (8 : Int32) z11) fun r12 z13 => if r12 = 0 then (fX19_takeOpen_113 N x0 x1 x2 x1 (zgI z13 14 5 x1) z13) else (zc (fX19_seg N x0 x2 (4 : Int32) z13) fun r17 z18 => fX19_takeOpen_113 N x0 x1 x2 x1 r17 z18)
set_option maxHeartbeats 4000000 in
set_option maxRecDepth 100000 in
theorem bX19_takeOpen_66 (hst : zSt B ids) (F : zFx p m c cX19_takeOpen 5 s args RX19 D cy B ids A) (hA : ∀ q : Nat, s.heap.size ≤ q → A q) {r : Int32} {z' : St} (E : zEnd p l e rmX19_takeOpen s m args below meth c cX19_takeOpen D cy B ids A Q none z' .return_ True) {N : Nat}  (x0 : Nat) (x1 : Nat) (x2 : Int32) (s0 : Nat) (s1 : Int32) (hx0 : (19, x0) ∈ ids) (hx1 : (14, x1) ∈ ids) (hs0 : (14, s0) ∈ ids) {z : St} {H : Heap} {locs : List Loc} {ls : Array Slot} (hr : zRep D cy B ids A s.heap z H locs) (hl : lv_has ls 5 [(0, .ref (B 19 x0)), (1, .ref (B 14 x1)), (2, .int x2)]) (h : fX19_takeOpen_66 N x0 x1 x2 s0 s1 z = some (r, z')) : W p l e rmX19_takeOpen s m args below meth c H locs 0 0 Q (F0 m 66 ls [.int s1, .ref (B 14 s0)]) := by
  unfold fX19_takeOpen_66 at h
  refine pf19_579 F hs0 hr dX19_takeOpen_66 s1 (fun H locs z1 ez1 hr => ?_)
  replace h := zl_sub ez1 h
  clear ez1
  refine lv_aload_n F.1 F.2.1 dX19_takeOpen_69 rfl (lv_at hl 1 rfl) ?_
  refine lv_aload_n F.1 F.2.1 dX19_takeOpen_70 rfl (lv_at hl 0 rfl) ?_
  refine lv_iload_n F.1 F.2.1 dX19_takeOpen_71 rfl (lv_at hl 2 rfl) ?_
  refine lv_iconst (v := (5 : Int32)) F.1 F.2.1 dX19_takeOpen_72 (by decide) ?_
  replace h := zc_some h
  obtain ⟨r2, z3, hc4, h⟩ := h
  refine zr_calli (zrun_V (As := [.int x2, .int (5 : Int32)]) (rest := [.ref (B 14 x1)]) zq_2557 zq_2559 zs_X19_seg zq_2560 zq_4 hdX19_seg (by decide) (T := TX19) (N := 32) rfl (okX19_seg l D cy B ids hst N x0 hx0 x2  (5 : Int32)  hr.2.2 hc4) F hr hx0 hl.1 rfl (Nat.le_of_ble_eq_true rfl) dX19_takeOpen_73 rfl rfl hroX19_takeOpen_X19_seg ⟨Nat.zero_le _, Nat.zero_le _⟩) F hA hr (fun H locs hw5 hr => ?_)
  clear hc4
  refine pf19_582 F hx1 hr dX19_takeOpen_76 r2 (fun H locs z6 ez6 hr => ?_)
  replace h := zl_sub ez6 h
  clear ez6
  refine lv_aload_n F.1 F.2.1 dX19_takeOpen_79 rfl (lv_at hl 1 rfl) ?_
  refine lv_aload_n F.1 F.2.1 dX19_takeOpen_80 rfl (lv_at hl 0 rfl) ?_
  refine lv_iload_n F.1 F.2.1 dX19_takeOpen_81 rfl (lv_at hl 2 rfl) ?_
  refine lv_iconst (v := (3 : Int32)) F.1 F.2.1 dX19_takeOpen_82 (by decide) ?_
  replace h := zc_some h
  obtain ⟨r7, z8, hc9, h⟩ := h
  refine zr_calli (zrun_V (As := [.int x2, .int (3 : Int32)]) (rest := [.ref (B 14 x1)]) zq_2557 zq_2559 zs_X19_seg zq_2560 zq_4 hdX19_seg (by decide) (T := TX19) (N := 32) rfl (okX19_seg l D cy B ids hst N x0 hx0 x2  (3 : Int32)  hr.2.2 hc9) F hr hx0 hl.1 rfl (Nat.le_of_ble_eq_true rfl) dX19_takeOpen_83 rfl rfl hroX19_takeOpen_X19_seg ⟨Nat.zero_le _, Nat.zero_le _⟩) F hA hr (fun H locs hw10 hr => ?_)
  clear hc9
  refine pf19_585 F hx1 hr dX19_takeOpen_86 r7 (fun H locs z11 ez11 hr => ?_)
  replace h := zl_sub ez11 h
  clear ez11
  refine lv_aload_n F.1 F.2.1 dX19_takeOpen_89 rfl (lv_at hl 1 rfl) ?_
  refine lv_aload_n F.1 F.2.1 dX19_takeOpen_90 rfl (lv_at hl 0 rfl) ?_
  refine lv_iload_n F.1 F.2.1 dX19_takeOpen_91 rfl (lv_at hl 2 rfl) ?_
  refine lv_bipush (v := (8 : Int32)) F.1 F.2.1 dX19_takeOpen_92 (by decide) ?_
  replace h := zc_some h
  obtain ⟨r12, z13, hc14, h⟩ := h
  refine zr_calli (zrun_V (As := [.int x2, .int (8 : Int32)]) (rest := [.ref (B 14 x1)]) zq_2663 zq_2665 zs_X19_has zq_2666 zq_4 hdX19_has (by decide) (T := TX19) (N := 32) rfl (okX19_has l D cy B ids hst N x0 hx0 x2  (8 : Int32)  hr.2.2 hc14) F hr hx0 hl.1 rfl (Nat.le_of_ble_eq_true rfl) dX19_takeOpen_94 rfl rfl hroX19_takeOpen_X19_has ⟨Nat.zero_le _, Nat.zero_le _⟩) F hA hr (fun H locs hw15 hr => ?_)
  clear hc14
  refine lv_if_eq (tgt := 109) F.1 F.2.1 dX19_takeOpen_97 (by decide) (fun c16 => ?_) (fun c16 => ?_)
  · replace h := zi_t c16 h
    refine lv_aload_n F.1 F.2.1 dX19_takeOpen_109 rfl (lv_at hl 1 rfl) ?_
    refine gf19_588 F hx1 hr dX19_takeOpen_110 ?_
    exact bX19_takeOpen_113 hst F hA E  x0 x1 x2 x1 (zgI z13 14 5 x1) hx0 hx1 hx1 hr (lv_sub hl [0, 1, 2] rfl) h
  · replace h := zi_f c16 h
    refine lv_aload_n F.1 F.2.1 dX19_takeOpen_100 rfl (lv_at hl 0 rfl) ?_
    refine lv_iload_n F.1 F.2.1 dX19_takeOpen_101 rfl (lv_at hl 2 rfl) ?_
    refine lv_iconst (v := (4 : Int32)) F.1 F.2.1 dX19_takeOpen_102 (by decide) ?_
    replace h := zc_some h
    obtain ⟨r17, z18, hc19, h⟩ := h
    refine zr_calli (zrun_V (As := [.int x2, .int (4 : Int32)]) (rest := [.ref (B 14 x1)]) zq_2557 zq_2559 zs_X19_seg zq_2560 zq_4 hdX19_seg (by decide) (T := TX19) (N := 32) rfl (okX19_seg l D cy B ids hst N x0 hx0 x2  (4 : Int32)  hr.2.2 hc19) F hr hx0 hl.1 rfl (Nat.le_of_ble_eq_true rfl) dX19_takeOpen_103 rfl rfl hroX19_takeOpen_X19_seg ⟨Nat.zero_le _, Nat.zero_le _⟩) F hA hr (fun H locs hw20 hr => ?_)
    clear hc19
    refine lv_goto (tgt := 113) F.1 F.2.1 dX19_takeOpen_106 (by decide) ?_
    exact bX19_takeOpen_113 hst F hA E  x0 x1 x2 x1 r17 hx0 hx1 hx1 hr (lv_sub hl [0, 1, 2] rfl) h
def fX19_takeOpen_48 (N : Nat)  (x0 : Nat) (x1 : Nat) (x2 : Int32) (s0 : Int32) (z : St) : Option (Int32 × St) := if s0 ≤ (zgI z 14 14 x1) then (fX19_takeOpen_66 N x0 x1 x2 x1 s0 z) else (fX19_takeOpen_66 N x0 x1 x2 x1 (zgI z 14 14 x1) z)
set_option maxHeartbeats 4000000 in
set_option maxRecDepth 100000 in
theorem bX19_takeOpen_48 (hst : zSt B ids) (F : zFx p m c cX19_takeOpen 5 s args RX19 D cy B ids A) (hA : ∀ q : Nat, s.heap.size ≤ q → A q) {r : Int32} {z' : St} (E : zEnd p l e rmX19_takeOpen s m args below meth c cX19_takeOpen D cy B ids A Q none z' .return_ True) {N : Nat}  (x0 : Nat) (x1 : Nat) (x2 : Int32) (s0 : Int32) (hx0 : (19, x0) ∈ ids) (hx1 : (14, x1) ∈ ids) {z : St} {H : Heap} {locs : List Loc} {ls : Array Slot} (hr : zRep D cy B ids A s.heap z H locs) (hl : lv_has ls 5 [(0, .ref (B 19 x0)), (1, .ref (B 14 x1)), (2, .int x2)]) (h : fX19_takeOpen_48 N x0 x1 x2 s0 z = some (r, z')) : W p l e rmX19_takeOpen s m args below meth c H locs 0 0 Q (F0 m 48 ls [.int s0]) := by
  unfold fX19_takeOpen_48 at h
  refine lv_istore_n (lv' := [(3, .int s0), (0, .ref (B 19 x0)), (1, .ref (B 14 x1)), (2, .int x2)]) F.1 F.2.1 dX19_takeOpen_48 rfl hl (by decide) rfl (fun ls hl => ?_)
  refine lv_aload_n F.1 F.2.1 dX19_takeOpen_49 rfl (lv_at hl 2 rfl) ?_
  refine lv_aload_n F.1 F.2.1 dX19_takeOpen_50 rfl (lv_at hl 2 rfl) ?_
  refine gf19_576 F hx1 hr dX19_takeOpen_51 ?_
  refine lv_iload_n F.1 F.2.1 dX19_takeOpen_54 rfl (lv_at hl 0 rfl) ?_
  refine lv_icmp_ge (tgt := 65) F.1 F.2.1 dX19_takeOpen_55 (by decide) (fun c1 => ?_) (fun c1 => ?_)
  · replace h := zi_t c1 h
    refine lv_iload_n F.1 F.2.1 dX19_takeOpen_65 rfl (lv_at hl 0 rfl) ?_
    exact bX19_takeOpen_66 hst F hA E  x0 x1 x2 x1 s0 hx0 hx1 hx1 hr (lv_sub hl [1, 2, 3] rfl) h
  · replace h := zi_f c1 h
    refine lv_aload_n F.1 F.2.1 dX19_takeOpen_58 rfl (lv_at hl 2 rfl) ?_
    refine gf19_576 F hx1 hr dX19_takeOpen_59 ?_
    refine lv_goto (tgt := 66) F.1 F.2.1 dX19_takeOpen_62 (by decide) ?_
    exact bX19_takeOpen_66 hst F hA E  x0 x1 x2 x1 (zgI z 14 14 x1) hx0 hx1 hx1 hr (lv_sub hl [1, 2, 3] rfl) h
def fX19_takeOpen (N : Nat)  (x0 : Nat) (x1 : Nat) (x2 : Int32) (z : St) : Option (Int32 × St) := zl (zsI z 14 17 x1 (1 : Int32)) fun z1 => zc (fX19_seg N x0 x2 (3 : Int32) z1) fun r2 z3 => zl (zsI z3 14 16 x1 (r2 + (1 : Int32))) fun z6 => zl (zsI z6 14 18 x1 (zgI z6 14 16 x1)) fun z7 => zc (fX19_seg N x0 x2 (6 : Int32) z7) fun r8 z9 => if ¬ r8 = 0 then (zc (fX19_seg N x0 x2 (6 : Int32) z9) fun r13 z14 => fX19_takeOpen_48 N x0 x1 x2 r13 z14) else (fX19_takeOpen_48 N x0 x1 x2 (536 : Int32) z9)
set_option maxHeartbeats 4000000 in
set_option maxRecDepth 100000 in
theorem bX19_takeOpen_0 (hst : zSt B ids) (F : zFx p m c cX19_takeOpen 5 s args RX19 D cy B ids A) (hA : ∀ q : Nat, s.heap.size ≤ q → A q) {r : Int32} {z' : St} (E : zEnd p l e rmX19_takeOpen s m args below meth c cX19_takeOpen D cy B ids A Q none z' .return_ True) {N : Nat}  (x0 : Nat) (x1 : Nat) (x2 : Int32) (hx0 : (19, x0) ∈ ids) (hx1 : (14, x1) ∈ ids) {z : St} {H : Heap} {locs : List Loc} {ls : Array Slot} (hr : zRep D cy B ids A s.heap z H locs) (hl : lv_has ls 5 [(0, .ref (B 19 x0)), (1, .ref (B 14 x1)), (2, .int x2)]) (h : fX19_takeOpen N x0 x1 x2 z = some (r, z')) : W p l e rmX19_takeOpen s m args below meth c H locs 0 0 Q (F0 m 0 ls []) := by
  unfold fX19_takeOpen at h
  refine lv_aload_n F.1 F.2.1 dX19_takeOpen_0 rfl (lv_at hl 1 rfl) ?_
  refine lv_iconst (v := (1 : Int32)) F.1 F.2.1 dX19_takeOpen_1 (by decide) ?_
  refine pf19_567 F hx1 hr dX19_takeOpen_2 (1 : Int32) (by decide) (fun H locs z1 ez1 hr => ?_)
  replace h := zl_sub ez1 h
  clear ez1
  refine lv_aload_n F.1 F.2.1 dX19_takeOpen_5 rfl (lv_at hl 1 rfl) ?_
  refine lv_aload_n F.1 F.2.1 dX19_takeOpen_6 rfl (lv_at hl 0 rfl) ?_
  refine lv_iload_n F.1 F.2.1 dX19_takeOpen_7 rfl (lv_at hl 2 rfl) ?_
  refine lv_iconst (v := (3 : Int32)) F.1 F.2.1 dX19_takeOpen_8 (by decide) ?_
  replace h := zc_some h
  obtain ⟨r2, z3, hc4, h⟩ := h
  refine zr_calli (zrun_V (As := [.int x2, .int (3 : Int32)]) (rest := [.ref (B 14 x1)]) zq_2557 zq_2559 zs_X19_seg zq_2560 zq_4 hdX19_seg (by decide) (T := TX19) (N := 32) rfl (okX19_seg l D cy B ids hst N x0 hx0 x2  (3 : Int32)  hr.2.2 hc4) F hr hx0 hl.1 rfl (Nat.le_of_ble_eq_true rfl) dX19_takeOpen_9 rfl rfl hroX19_takeOpen_X19_seg ⟨Nat.zero_le _, Nat.zero_le _⟩) F hA hr (fun H locs hw5 hr => ?_)
  clear hc4
  refine lv_iconst (v := (1 : Int32)) F.1 F.2.1 dX19_takeOpen_12 (by decide) ?_
  refine lv_iadd F.1 F.2.1 dX19_takeOpen_13 ?_
  refine pf19_570 F hx1 hr dX19_takeOpen_14 (r2 + (1 : Int32)) (fun H locs z6 ez6 hr => ?_)
  replace h := zl_sub ez6 h
  clear ez6
  refine lv_aload_n F.1 F.2.1 dX19_takeOpen_17 rfl (lv_at hl 1 rfl) ?_
  refine lv_aload_n F.1 F.2.1 dX19_takeOpen_18 rfl (lv_at hl 1 rfl) ?_
  refine gf19_570 F hx1 hr dX19_takeOpen_19 ?_
  refine pf19_573 F hx1 hr dX19_takeOpen_22 (zgI z6 14 16 x1) (fun H locs z7 ez7 hr => ?_)
  replace h := zl_sub ez7 h
  clear ez7
  refine lv_aload_n F.1 F.2.1 dX19_takeOpen_25 rfl (lv_at hl 0 rfl) ?_
  refine lv_iload_n F.1 F.2.1 dX19_takeOpen_26 rfl (lv_at hl 2 rfl) ?_
  refine lv_bipush (v := (6 : Int32)) F.1 F.2.1 dX19_takeOpen_27 (by decide) ?_
  replace h := zc_some h
  obtain ⟨r8, z9, hc10, h⟩ := h
  refine zr_calli (zrun_V (As := [.int x2, .int (6 : Int32)]) (rest := []) zq_2557 zq_2559 zs_X19_seg zq_2560 zq_4 hdX19_seg (by decide) (T := TX19) (N := 32) rfl (okX19_seg l D cy B ids hst N x0 hx0 x2  (6 : Int32)  hr.2.2 hc10) F hr hx0 hl.1 rfl (by decide) dX19_takeOpen_29 rfl rfl hroX19_takeOpen_X19_seg ⟨Nat.zero_le _, Nat.zero_le _⟩) F hA hr (fun H locs hw11 hr => ?_)
  clear hc10
  refine lv_if_ne (tgt := 41) F.1 F.2.1 dX19_takeOpen_32 (by decide) (fun c12 => ?_) (fun c12 => ?_)
  · replace h := zi_t c12 h
    refine lv_aload_n F.1 F.2.1 dX19_takeOpen_41 rfl (lv_at hl 0 rfl) ?_
    refine lv_iload_n F.1 F.2.1 dX19_takeOpen_42 rfl (lv_at hl 2 rfl) ?_
    refine lv_bipush (v := (6 : Int32)) F.1 F.2.1 dX19_takeOpen_43 (by decide) ?_
    replace h := zc_some h
    obtain ⟨r13, z14, hc15, h⟩ := h
    refine zr_calli (zrun_V (As := [.int x2, .int (6 : Int32)]) (rest := []) zq_2557 zq_2559 zs_X19_seg zq_2560 zq_4 hdX19_seg (by decide) (T := TX19) (N := 32) rfl (okX19_seg l D cy B ids hst N x0 hx0 x2  (6 : Int32)  hr.2.2 hc15) F hr hx0 hl.1 rfl (by decide) dX19_takeOpen_45 rfl rfl hroX19_takeOpen_X19_seg ⟨Nat.zero_le _, Nat.zero_le _⟩) F hA hr (fun H locs hw16 hr => ?_)
    clear hc15
    exact bX19_takeOpen_48 hst F hA E  x0 x1 x2 r13 hx0 hx1 hr (lv_sub hl [0, 1, 2] rfl) h
  · replace h := zi_f (fun q => q c12) h
    refine lv_sipush (v := (536 : Int32)) F.1 F.2.1 dX19_takeOpen_35 (by decide) ?_
    refine lv_goto (tgt := 48) F.1 F.2.1 dX19_takeOpen_38 (by decide) ?_
    exact bX19_takeOpen_48 hst F hA E  x0 x1 x2 (536 : Int32) hx0 hx1 hr (lv_sub hl [0, 1, 2] rfl) h
end SX19_takeOpen
set_option maxRecDepth 100000 in
theorem okX19_takeOpen (l : Launch) (D : va_G) (cy : Nat → ClassId) (B : Nat → Nat → Nat) (ids : List (Nat × Nat)) (hst : zSt B ids) (N : Nat) (x0 : Nat) (hx0 : (19, x0) ∈ ids) (x1 : Nat) (hx1 : (14, x1) ∈ ids) (x2 : Int32) {z : St} {r : Int32} {z' : St} (hW : zWf ids z) (h : fX19_takeOpen N x0 x1 x2 z = some (r, z')) : zM l yX19_takeOpen (zws yX19_takeOpen cX19_takeOpen 5 none) rmX19_takeOpen D cy B ids [.ref (B 19 x0), .ref (B 14 x1), .int x2] none True z z' :=
  zM_of hst hW (by decide +kernel) (Nat.le_of_ble_eq_true rfl) (fun p e s m args below meth c A ls F hA hret hlocks hr hl => bX19_takeOpen_0 hst F hA (zEnd_v F hret hlocks) x0 x1 x2 hx0 hx1 hr hl h)
abbrev rmX19_arriveAsking : Room := { frames := 4, cells := 0, slots := 0, locals := 87 }
theorem hdX19_arriveAsking : yX19_arriveAsking.cls ≠ "java/lang/invoke/MethodHandle" ∧ yX19_arriveAsking.cls ≠ "java/lang/invoke/VarHandle" ∧ (parseMethodDescriptor yX19_arriveAsking.desc).map (fun d => d.parameters.length) = some 2 := by decide +kernel
theorem hroX19_arriveAsking_X14_become : rmX14_become.frames + 1 ≤ rmX19_arriveAsking.frames ∧ 8 + (3 + 11) + rmX14_become.locals ≤ rmX19_arriveAsking.locals := by decide
theorem hroX19_arriveAsking_X14_thankedFor : rmX14_thankedFor.frames + 1 ≤ rmX19_arriveAsking.frames ∧ 8 + (3 + 11) + rmX14_thankedFor.locals ≤ rmX19_arriveAsking.locals := by decide
theorem hroX19_arriveAsking_X19_answer : rmX19_answer.frames + 1 ≤ rmX19_arriveAsking.frames ∧ 8 + (3 + 11) + rmX19_answer.locals ≤ rmX19_arriveAsking.locals := by decide
theorem hroX19_arriveAsking_X19_has : rmX19_has.frames + 1 ≤ rmX19_arriveAsking.frames ∧ 8 + (3 + 11) + rmX19_has.locals ≤ rmX19_arriveAsking.locals := by decide
theorem hroX19_arriveAsking_X19_seg : rmX19_seg.frames + 1 ≤ rmX19_arriveAsking.frames ∧ 8 + (3 + 11) + rmX19_seg.locals ≤ rmX19_arriveAsking.locals := by decide
theorem hroX19_arriveAsking_X19_takeOpen : rmX19_takeOpen.frames + 1 ≤ rmX19_arriveAsking.frames ∧ 8 + (5 + 11) + rmX19_takeOpen.locals ≤ rmX19_arriveAsking.locals := by decide
section SX19_arriveAsking
variable {p : Program} {l : Launch} {e : Env} {s : State} {m : MethodId} {args : Array Value} {below : List Frame} {meth : Method} {c : Code} {Q : State → Prop} {D : va_G} {cy : Nat → ClassId} {B : Nat → Nat → Nat} {ids : List (Nat × Nat)} {A : Nat → Prop}
def fX19_arriveAsking_32 (N : Nat)  (x0 : Nat) (x1 : Nat) (x2 : Int32) (z : St) : Option (Int32 × St) := zc (fX19_has N x0 x2 (4 : Int32) z) fun r1 z2 => if r1 = 0 then (zc (fX19_has N x0 x2 (1 : Int32) z2) fun r6 z7 => if r6 = 0 then (some (0, z7)) else (zc (fX19_takeOpen N x0 x1 x2 z7) fun _ z12 => zc (fX19_has N x0 x2 (8 : Int32) z12) fun r15 z16 => if r15 = 0 then (zl (zsI z16 14 0 x1 (3 : Int32)) fun z20 => zl (zsI z20 14 28 x1 (1 : Int32)) fun z21 => some (0, z21)) else (zl (zsI z16 14 0 x1 (4 : Int32)) fun z22 => zc (fX19_seg N x0 x2 (4 : Int32) z22) fun r23 z24 => zc (fX14_thankedFor N x1 r23 (zgI z24 19 24 x0) z24) fun _ z28 => zl (zsI z28 14 28 x1 (0 : Int32)) fun z31 => zl (zsI z31 14 32 x1 (1 : Int32)) fun z32 => some (0, z32)))) else (zc (fX19_has N x0 x2 (8 : Int32) z2) fun r33 z34 => if r33 = 0 then (some (0, z34)) else (zc (fX14_become N x1 (11 : Int32) (zgI z34 19 24 x0) z34) fun _ z39 => some (0, z39)))
set_option maxHeartbeats 4000000 in
set_option maxRecDepth 100000 in
theorem bX19_arriveAsking_32 (hst : zSt B ids) (F : zFx p m c cX19_arriveAsking 3 s args RX19 D cy B ids A) (hA : ∀ q : Nat, s.heap.size ≤ q → A q) {r : Int32} {z' : St} (E : zEnd p l e rmX19_arriveAsking s m args below meth c cX19_arriveAsking D cy B ids A Q none z' .return_ True) {N : Nat}  (x0 : Nat) (x1 : Nat) (x2 : Int32) (hx0 : (19, x0) ∈ ids) (hx1 : (14, x1) ∈ ids) {z : St} {H : Heap} {locs : List Loc} {ls : Array Slot} (hr : zRep D cy B ids A s.heap z H locs) (hl : lv_has ls 3 [(0, .ref (B 19 x0)), (1, .ref (B 14 x1)), (2, .int x2)]) (h : fX19_arriveAsking_32 N x0 x1 x2 z = some (r, z')) : W p l e rmX19_arriveAsking s m args below meth c H locs 0 0 Q (F0 m 32 ls []) := by
  unfold fX19_arriveAsking_32 at h
  refine lv_aload_n F.1 F.2.1 dX19_arriveAsking_32 rfl (lv_at hl 0 rfl) ?_
  refine lv_iload_n F.1 F.2.1 dX19_arriveAsking_33 rfl (lv_at hl 2 rfl) ?_
  refine lv_iconst (v := (4 : Int32)) F.1 F.2.1 dX19_arriveAsking_34 (by decide) ?_
  replace h := zc_some h
  obtain ⟨r1, z2, hc3, h⟩ := h
  refine zr_calli (zrun_V (As := [.int x2, .int (4 : Int32)]) (rest := []) zq_2663 zq_2665 zs_X19_has zq_2666 zq_4 hdX19_has (by decide) (T := TX19) (N := 32) rfl (okX19_has l D cy B ids hst N x0 hx0 x2  (4 : Int32)  hr.2.2 hc3) F hr hx0 hl.1 rfl (by decide) dX19_arriveAsking_35 rfl rfl hroX19_arriveAsking_X19_has ⟨Nat.zero_le _, Nat.zero_le _⟩) F hA hr (fun H locs hw4 hr => ?_)
  clear hc3
  refine lv_if_eq (tgt := 64) F.1 F.2.1 dX19_arriveAsking_38 (by decide) (fun c5 => ?_) (fun c5 => ?_)
  · replace h := zi_t c5 h
    refine lv_aload_n F.1 F.2.1 dX19_arriveAsking_64 rfl (lv_at hl 0 rfl) ?_
    refine lv_iload_n F.1 F.2.1 dX19_arriveAsking_65 rfl (lv_at hl 2 rfl) ?_
    refine lv_iconst (v := (1 : Int32)) F.1 F.2.1 dX19_arriveAsking_66 (by decide) ?_
    replace h := zc_some h
    obtain ⟨r6, z7, hc8, h⟩ := h
    refine zr_calli (zrun_V (As := [.int x2, .int (1 : Int32)]) (rest := []) zq_2663 zq_2665 zs_X19_has zq_2666 zq_4 hdX19_has (by decide) (T := TX19) (N := 32) rfl (okX19_has l D cy B ids hst N x0 hx0 x2  (1 : Int32)  hr.2.2 hc8) F hr hx0 hl.1 rfl (by decide) dX19_arriveAsking_67 rfl rfl hroX19_arriveAsking_X19_has ⟨Nat.zero_le _, Nat.zero_le _⟩) F hA hr (fun H locs hw9 hr => ?_)
    clear hc8
    refine lv_if_eq (tgt := 131) F.1 F.2.1 dX19_arriveAsking_70 (by decide) (fun c10 => ?_) (fun c10 => ?_)
    · replace h := zi_t c10 h
      obtain ⟨rfl, rfl⟩ := zret h
      exact E _ _ _ _ dX19_arriveAsking_131 trivial hr
    · replace h := zi_f c10 h
      refine lv_aload_n F.1 F.2.1 dX19_arriveAsking_73 rfl (lv_at hl 0 rfl) ?_
      refine lv_aload_n F.1 F.2.1 dX19_arriveAsking_74 rfl (lv_at hl 1 rfl) ?_
      refine lv_iload_n F.1 F.2.1 dX19_arriveAsking_75 rfl (lv_at hl 2 rfl) ?_
      replace h := zc_some h
      obtain ⟨r11, z12, hc13, h⟩ := h
      refine zr_callv (zrun_V (As := [.ref (B 14 x1), .int x2]) (rest := []) zq_2679 zq_2681 zs_X19_takeOpen zq_2682 zq_4 hdX19_takeOpen (by decide) (T := TX19) (N := 32) rfl (okX19_takeOpen l D cy B ids hst N x0 hx0 x1 hx1 x2  hr.2.2 hc13) F hr hx0 hl.1 rfl (by decide) dX19_arriveAsking_76 rfl rfl hroX19_arriveAsking_X19_takeOpen ⟨Nat.zero_le _, Nat.zero_le _⟩) F hA hr (fun H locs hw14 hr => ?_)
      clear hc13
      refine lv_aload_n F.1 F.2.1 dX19_arriveAsking_79 rfl (lv_at hl 0 rfl) ?_
      refine lv_iload_n F.1 F.2.1 dX19_arriveAsking_80 rfl (lv_at hl 2 rfl) ?_
      refine lv_bipush (v := (8 : Int32)) F.1 F.2.1 dX19_arriveAsking_81 (by decide) ?_
      replace h := zc_some h
      obtain ⟨r15, z16, hc17, h⟩ := h
      refine zr_calli (zrun_V (As := [.int x2, .int (8 : Int32)]) (rest := []) zq_2663 zq_2665 zs_X19_has zq_2666 zq_4 hdX19_has (by decide) (T := TX19) (N := 32) rfl (okX19_has l D cy B ids hst N x0 hx0 x2  (8 : Int32)  hr.2.2 hc17) F hr hx0 hl.1 rfl (by decide) dX19_arriveAsking_83 rfl rfl hroX19_arriveAsking_X19_has ⟨Nat.zero_le _, Nat.zero_le _⟩) F hA hr (fun H locs hw18 hr => ?_)
      clear hc17
      refine lv_if_eq (tgt := 121) F.1 F.2.1 dX19_arriveAsking_86 (by decide) (fun c19 => ?_) (fun c19 => ?_)
      · replace h := zi_t c19 h
        refine lv_aload_n F.1 F.2.1 dX19_arriveAsking_121 rfl (lv_at hl 1 rfl) ?_
        refine lv_iconst (v := (3 : Int32)) F.1 F.2.1 dX19_arriveAsking_122 (by decide) ?_
        refine pf19_353 F hx1 hr dX19_arriveAsking_123 (3 : Int32) (fun H locs z20 ez20 hr => ?_)
        replace h := zl_sub ez20 h
        clear ez20
        refine lv_aload_n F.1 F.2.1 dX19_arriveAsking_126 rfl (lv_at hl 1 rfl) ?_
        refine lv_iconst (v := (1 : Int32)) F.1 F.2.1 dX19_arriveAsking_127 (by decide) ?_
        refine pf19_613 F hx1 hr dX19_arriveAsking_128 (1 : Int32) (by decide) (fun H locs z21 ez21 hr => ?_)
        replace h := zl_sub ez21 h
        clear ez21
        obtain ⟨rfl, rfl⟩ := zret h
        exact E _ _ _ _ dX19_arriveAsking_131 trivial hr
      · replace h := zi_f c19 h
        refine lv_aload_n F.1 F.2.1 dX19_arriveAsking_89 rfl (lv_at hl 1 rfl) ?_
        refine lv_iconst (v := (4 : Int32)) F.1 F.2.1 dX19_arriveAsking_90 (by decide) ?_
        refine pf19_353 F hx1 hr dX19_arriveAsking_91 (4 : Int32) (fun H locs z22 ez22 hr => ?_)
        replace h := zl_sub ez22 h
        clear ez22
        refine lv_aload_n F.1 F.2.1 dX19_arriveAsking_94 rfl (lv_at hl 1 rfl) ?_
        refine lv_aload_n F.1 F.2.1 dX19_arriveAsking_95 rfl (lv_at hl 0 rfl) ?_
        refine lv_iload_n F.1 F.2.1 dX19_arriveAsking_96 rfl (lv_at hl 2 rfl) ?_
        refine lv_iconst (v := (4 : Int32)) F.1 F.2.1 dX19_arriveAsking_97 (by decide) ?_
        replace h := zc_some h
        obtain ⟨r23, z24, hc25, h⟩ := h
        refine zr_calli (zrun_V (As := [.int x2, .int (4 : Int32)]) (rest := [.ref (B 14 x1)]) zq_2557 zq_2559 zs_X19_seg zq_2560 zq_4 hdX19_seg (by decide) (T := TX19) (N := 32) rfl (okX19_seg l D cy B ids hst N x0 hx0 x2  (4 : Int32)  hr.2.2 hc25) F hr hx0 hl.1 rfl (Nat.le_of_ble_eq_true rfl) dX19_arriveAsking_98 rfl rfl hroX19_arriveAsking_X19_seg ⟨Nat.zero_le _, Nat.zero_le _⟩) F hA hr (fun H locs hw26 hr => ?_)
        clear hc25
        refine lv_aload_n F.1 F.2.1 dX19_arriveAsking_101 rfl (lv_at hl 0 rfl) ?_
        refine gf19_143 F hx0 hr dX19_arriveAsking_102 ?_
        replace h := zc_some h
        obtain ⟨r27, z28, hc29, h⟩ := h
        refine zr_callv (zrun_VN (As := [.int r23, .int (zgI z24 19 24 x0)]) (rest := []) zn_2687 zq_2689 zs_X14_thankedFor zq_2690 zq_21 hdX14_thankedFor (by decide) (T := TX14) (N := 47) rfl (okX14_thankedFor l D cy B ids hst N x1 hx1 r23  (zgI z24 19 24 x0)  hr.2.2 hc29) F hr hx1 hl.1 rfl (by decide) dX19_arriveAsking_105 rfl rfl hroX19_arriveAsking_X14_thankedFor ⟨Nat.zero_le _, Nat.zero_le _⟩) F hA hr (fun H locs hw30 hr => ?_)
        clear hc29
        refine lv_aload_n F.1 F.2.1 dX19_arriveAsking_108 rfl (lv_at hl 1 rfl) ?_
        refine lv_iconst (v := (0 : Int32)) F.1 F.2.1 dX19_arriveAsking_109 (by decide) ?_
        refine pf19_613 F hx1 hr dX19_arriveAsking_110 (0 : Int32) (by decide) (fun H locs z31 ez31 hr => ?_)
        replace h := zl_sub ez31 h
        clear ez31
        refine lv_aload_n F.1 F.2.1 dX19_arriveAsking_113 rfl (lv_at hl 1 rfl) ?_
        refine lv_iconst (v := (1 : Int32)) F.1 F.2.1 dX19_arriveAsking_114 (by decide) ?_
        refine pf19_616 F hx1 hr dX19_arriveAsking_115 (1 : Int32) (by decide) (fun H locs z32 ez32 hr => ?_)
        replace h := zl_sub ez32 h
        clear ez32
        refine lv_goto (tgt := 131) F.1 F.2.1 dX19_arriveAsking_118 (by decide) ?_
        obtain ⟨rfl, rfl⟩ := zret h
        exact E _ _ _ _ dX19_arriveAsking_131 trivial hr
  · replace h := zi_f c5 h
    refine lv_aload_n F.1 F.2.1 dX19_arriveAsking_41 rfl (lv_at hl 0 rfl) ?_
    refine lv_iload_n F.1 F.2.1 dX19_arriveAsking_42 rfl (lv_at hl 2 rfl) ?_
    refine lv_bipush (v := (8 : Int32)) F.1 F.2.1 dX19_arriveAsking_43 (by decide) ?_
    replace h := zc_some h
    obtain ⟨r33, z34, hc35, h⟩ := h
    refine zr_calli (zrun_V (As := [.int x2, .int (8 : Int32)]) (rest := []) zq_2663 zq_2665 zs_X19_has zq_2666 zq_4 hdX19_has (by decide) (T := TX19) (N := 32) rfl (okX19_has l D cy B ids hst N x0 hx0 x2  (8 : Int32)  hr.2.2 hc35) F hr hx0 hl.1 rfl (by decide) dX19_arriveAsking_45 rfl rfl hroX19_arriveAsking_X19_has ⟨Nat.zero_le _, Nat.zero_le _⟩) F hA hr (fun H locs hw36 hr => ?_)
    clear hc35
    refine lv_if_eq (tgt := 131) F.1 F.2.1 dX19_arriveAsking_48 (by decide) (fun c37 => ?_) (fun c37 => ?_)
    · replace h := zi_t c37 h
      obtain ⟨rfl, rfl⟩ := zret h
      exact E _ _ _ _ dX19_arriveAsking_131 trivial hr
    · replace h := zi_f c37 h
      refine lv_aload_n F.1 F.2.1 dX19_arriveAsking_51 rfl (lv_at hl 1 rfl) ?_
      refine lv_bipush (v := (11 : Int32)) F.1 F.2.1 dX19_arriveAsking_52 (by decide) ?_
      refine lv_aload_n F.1 F.2.1 dX19_arriveAsking_54 rfl (lv_at hl 0 rfl) ?_
      refine gf19_143 F hx0 hr dX19_arriveAsking_55 ?_
      replace h := zc_some h
      obtain ⟨r38, z39, hc40, h⟩ := h
      refine zr_callv (zrun_VN (As := [.int (11 : Int32), .int (zgI z34 19 24 x0)]) (rest := []) zn_2643 zq_2645 zs_X14_become zq_2646 zq_21 hdX14_become (by decide) (T := TX14) (N := 47) rfl (okX14_become l D cy B ids hst N x1 hx1 (11 : Int32)  (zgI z34 19 24 x0)  hr.2.2 hc40) F hr hx1 hl.1 rfl (by decide) dX19_arriveAsking_58 rfl rfl hroX19_arriveAsking_X14_become ⟨Nat.zero_le _, Nat.zero_le _⟩) F hA hr (fun H locs hw41 hr => ?_)
      clear hc40
      refine lv_goto (tgt := 131) F.1 F.2.1 dX19_arriveAsking_61 (by decide) ?_
      obtain ⟨rfl, rfl⟩ := zret h
      exact E _ _ _ _ dX19_arriveAsking_131 trivial hr
def fX19_arriveAsking (N : Nat)  (x0 : Nat) (x1 : Nat) (x2 : Int32) (z : St) : Option (Int32 × St) := zc (fX19_has N x0 x2 (8 : Int32) z) fun r1 z2 => if r1 = 0 then (fX19_arriveAsking_32 N x0 x1 x2 z2) else (zc (fX19_seg N x0 x2 (4 : Int32) z2) fun r6 z7 => if r6 = (zgI z7 14 7 x1) then (fX19_arriveAsking_32 N x0 x1 x2 z7) else (zc (fX19_answer N x0 x1 x2 z7) fun _ z12 => some (0, z12)))
set_option maxHeartbeats 4000000 in
set_option maxRecDepth 100000 in
theorem bX19_arriveAsking_0 (hst : zSt B ids) (F : zFx p m c cX19_arriveAsking 3 s args RX19 D cy B ids A) (hA : ∀ q : Nat, s.heap.size ≤ q → A q) {r : Int32} {z' : St} (E : zEnd p l e rmX19_arriveAsking s m args below meth c cX19_arriveAsking D cy B ids A Q none z' .return_ True) {N : Nat}  (x0 : Nat) (x1 : Nat) (x2 : Int32) (hx0 : (19, x0) ∈ ids) (hx1 : (14, x1) ∈ ids) {z : St} {H : Heap} {locs : List Loc} {ls : Array Slot} (hr : zRep D cy B ids A s.heap z H locs) (hl : lv_has ls 3 [(0, .ref (B 19 x0)), (1, .ref (B 14 x1)), (2, .int x2)]) (h : fX19_arriveAsking N x0 x1 x2 z = some (r, z')) : W p l e rmX19_arriveAsking s m args below meth c H locs 0 0 Q (F0 m 0 ls []) := by
  unfold fX19_arriveAsking at h
  refine lv_aload_n F.1 F.2.1 dX19_arriveAsking_0 rfl (lv_at hl 0 rfl) ?_
  refine lv_iload_n F.1 F.2.1 dX19_arriveAsking_1 rfl (lv_at hl 2 rfl) ?_
  refine lv_bipush (v := (8 : Int32)) F.1 F.2.1 dX19_arriveAsking_2 (by decide) ?_
  replace h := zc_some h
  obtain ⟨r1, z2, hc3, h⟩ := h
  refine zr_calli (zrun_V (As := [.int x2, .int (8 : Int32)]) (rest := []) zq_2663 zq_2665 zs_X19_has zq_2666 zq_4 hdX19_has (by decide) (T := TX19) (N := 32) rfl (okX19_has l D cy B ids hst N x0 hx0 x2  (8 : Int32)  hr.2.2 hc3) F hr hx0 hl.1 rfl (by decide) dX19_arriveAsking_4 rfl rfl hroX19_arriveAsking_X19_has ⟨Nat.zero_le _, Nat.zero_le _⟩) F hA hr (fun H locs hw4 hr => ?_)
  clear hc3
  refine lv_if_eq (tgt := 32) F.1 F.2.1 dX19_arriveAsking_7 (by decide) (fun c5 => ?_) (fun c5 => ?_)
  · replace h := zi_t c5 h
    exact bX19_arriveAsking_32 hst F hA E  x0 x1 x2 hx0 hx1 hr (lv_sub hl [0, 1, 2] rfl) h
  · replace h := zi_f c5 h
    refine lv_aload_n F.1 F.2.1 dX19_arriveAsking_10 rfl (lv_at hl 0 rfl) ?_
    refine lv_iload_n F.1 F.2.1 dX19_arriveAsking_11 rfl (lv_at hl 2 rfl) ?_
    refine lv_iconst (v := (4 : Int32)) F.1 F.2.1 dX19_arriveAsking_12 (by decide) ?_
    replace h := zc_some h
    obtain ⟨r6, z7, hc8, h⟩ := h
    refine zr_calli (zrun_V (As := [.int x2, .int (4 : Int32)]) (rest := []) zq_2557 zq_2559 zs_X19_seg zq_2560 zq_4 hdX19_seg (by decide) (T := TX19) (N := 32) rfl (okX19_seg l D cy B ids hst N x0 hx0 x2  (4 : Int32)  hr.2.2 hc8) F hr hx0 hl.1 rfl (by decide) dX19_arriveAsking_13 rfl rfl hroX19_arriveAsking_X19_seg ⟨Nat.zero_le _, Nat.zero_le _⟩) F hA hr (fun H locs hw9 hr => ?_)
    clear hc8
    refine lv_aload_n F.1 F.2.1 dX19_arriveAsking_16 rfl (lv_at hl 1 rfl) ?_
    refine gf19_600 F hx1 hr dX19_arriveAsking_17 ?_
    refine lv_icmp_eq (tgt := 32) F.1 F.2.1 dX19_arriveAsking_20 (by decide) (fun c10 => ?_) (fun c10 => ?_)
    · replace h := zi_t c10 h
      exact bX19_arriveAsking_32 hst F hA E  x0 x1 x2 hx0 hx1 hr (lv_sub hl [0, 1, 2] rfl) h
    · replace h := zi_f c10 h
      refine lv_aload_n F.1 F.2.1 dX19_arriveAsking_23 rfl (lv_at hl 0 rfl) ?_
      refine lv_aload_n F.1 F.2.1 dX19_arriveAsking_24 rfl (lv_at hl 1 rfl) ?_
      refine lv_iload_n F.1 F.2.1 dX19_arriveAsking_25 rfl (lv_at hl 2 rfl) ?_
      replace h := zc_some h
      obtain ⟨r11, z12, hc13, h⟩ := h
      refine zr_callv (zrun_V (As := [.ref (B 14 x1), .int x2]) (rest := []) zq_2667 zq_2669 zs_X19_answer zq_2670 zq_4 hdX19_answer (by decide) (T := TX19) (N := 32) rfl (okX19_answer l D cy B ids hst N x0 hx0 x1 hx1 x2  hr.2.2 hc13) F hr hx0 hl.1 rfl (by decide) dX19_arriveAsking_26 rfl rfl hroX19_arriveAsking_X19_answer ⟨Nat.zero_le _, Nat.zero_le _⟩) F hA hr (fun H locs hw14 hr => ?_)
      clear hc13
      refine lv_goto (tgt := 131) F.1 F.2.1 dX19_arriveAsking_29 (by decide) ?_
      obtain ⟨rfl, rfl⟩ := zret h
      exact E _ _ _ _ dX19_arriveAsking_131 trivial hr
end SX19_arriveAsking
set_option maxRecDepth 100000 in
theorem okX19_arriveAsking (l : Launch) (D : va_G) (cy : Nat → ClassId) (B : Nat → Nat → Nat) (ids : List (Nat × Nat)) (hst : zSt B ids) (N : Nat) (x0 : Nat) (hx0 : (19, x0) ∈ ids) (x1 : Nat) (hx1 : (14, x1) ∈ ids) (x2 : Int32) {z : St} {r : Int32} {z' : St} (hW : zWf ids z) (h : fX19_arriveAsking N x0 x1 x2 z = some (r, z')) : zM l yX19_arriveAsking (zws yX19_arriveAsking cX19_arriveAsking 3 none) rmX19_arriveAsking D cy B ids [.ref (B 19 x0), .ref (B 14 x1), .int x2] none True z z' :=
  zM_of hst hW (by decide +kernel) (Nat.le_of_ble_eq_true rfl) (fun p e s m args below meth c A ls F hA hret hlocks hr hl => bX19_arriveAsking_0 hst F hA (zEnd_v F hret hlocks) x0 x1 x2 hx0 hx1 hr hl h)
