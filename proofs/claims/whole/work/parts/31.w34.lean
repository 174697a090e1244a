abbrev rmX19_ways : Room := { frames := 4, cells := 0, slots := 0, locals := 100 }
theorem hdX19_ways : yX19_ways.cls ≠ "java/lang/invoke/MethodHandle" ∧ yX19_ways.cls ≠ "java/lang/invoke/VarHandle" ∧ (parseMethodDescriptor yX19_ways.desc).map (fun d => d.parameters.length) = some 1 := by decide +kernel
theorem hroX19_ways_X19_farWay : rmX19_farWay.frames + 1 ≤ rmX19_ways.frames ∧ 8 + (11 + 11) + rmX19_farWay.locals ≤ rmX19_ways.locals := by decide
theorem hroX19_ways_X19_leastSums : rmX19_leastSums.frames + 1 ≤ rmX19_ways.frames ∧ 8 + (7 + 11) + rmX19_leastSums.locals ≤ rmX19_ways.locals := by decide
section SX19_ways
variable {p : Program} {l : Launch} {e : Env} {s : State} {m : MethodId} {args : Array Value} {below : List Frame} {meth : Method} {c : Code} {Q : State → Prop} {D : va_G} {cy : Nat → ClassId} {B : Nat → Nat → Nat} {ids : List (Nat × Nat)} {A : Nat → Prop}
def fX19_ways_102 (N : Nat) (K20 : Nat → Nat → Int32 → St → Option (Int32 × St)) (K52 : Nat → Nat → Int32 → Option Nat → Int32 → St → Option (Int32 × St)) (x0 : Nat) (x1 : Nat) (x2 : Int32) (x4 : Int32) (s0 : Option Nat) (z : St) : Option (Int32 × St) := zl (x4 + 1) fun v1 => K52 x0 x1 x2 s0 v1 z
set_option maxHeartbeats 4000000 in
set_option maxRecDepth 100000 in
theorem bX19_ways_102 (hst : zSt B ids) (F : zFx p m c cX19_ways 5 s args RX19 D cy B ids A) (hA : ∀ q : Nat, s.heap.size ≤ q → A q) {r : Int32} {z' : St} (E : zEnd p l e rmX19_ways s m args below meth c cX19_ways D cy B ids A Q none z' .return_ True) {N : Nat} {K20 : Nat → Nat → Int32 → St → Option (Int32 × St)} {K52 : Nat → Nat → Int32 → Option Nat → Int32 → St → Option (Int32 × St)} (hK20 : ∀ (x0 : Nat) (x1 : Nat) (x2 : Int32) (hx0 : (19, x0) ∈ ids) (hx1 : (12, x1) ∈ ids) {z : St} {H : Heap} {locs : List Loc} {ls : Array Slot} (hr : zRep D cy B ids A s.heap z H locs) (hl : lv_has ls 5 [(0, .ref (B 19 x0)), (1, .ref (B 12 x1)), (2, .int x2)]), K20 x0 x1 x2 z = some (r, z') → W p l e rmX19_ways s m args below meth c H locs 0 0 Q (F0 m 20 ls [])) (hK52 : ∀ (x0 : Nat) (x1 : Nat) (x2 : Int32) (x3 : Option Nat) (x4 : Int32) (hx0 : (19, x0) ∈ ids) (hx1 : (12, x1) ∈ ids) (hx3 : ∀ t, x3 = some t → (18, t) ∈ ids) {z : St} {H : Heap} {locs : List Loc} {ls : Array Slot} (hr : zRep D cy B ids A s.heap z H locs) (hl : lv_has ls 5 [(0, .ref (B 19 x0)), (1, .ref (B 12 x1)), (2, .int x2), (3, va_rf (Option.map (B 18) x3)), (4, .int x4)]), K52 x0 x1 x2 x3 x4 z = some (r, z') → W p l e rmX19_ways s m args below meth c H locs 0 0 Q (F0 m 52 ls [])) (x0 : Nat) (x1 : Nat) (x2 : Int32) (x4 : Int32) (s0 : Option Nat) (hx0 : (19, x0) ∈ ids) (hx1 : (12, x1) ∈ ids) (hs0 : ∀ t, s0 = some t → (18, t) ∈ ids) {z : St} {H : Heap} {locs : List Loc} {ls : Array Slot} (hr : zRep D cy B ids A s.heap z H locs) (hl : lv_has ls 5 [(0, .ref (B 19 x0)), (1, .ref (B 12 x1)), (2, .int x2), (4, .int x4)]) (h : fX19_ways_102 N K20 K52 x0 x1 x2 x4 s0 z = some (r, z')) : W p l e rmX19_ways s m args below meth c H locs 0 0 Q (F0 m 102 ls [va_rf (Option.map (B 18) s0)]) := by
  unfold fX19_ways_102 at h
  refine zr_astore_n (lv' := [(3, va_rf (Option.map (B 18) s0)), (0, .ref (B 19 x0)), (1, .ref (B 12 x1)), (2, .int x2), (4, .int x4)]) F.1 F.2.1 dX19_ways_102 rfl hl (by decide) rfl (fun ls hl => ?_)
  obtain ⟨v1, ev1⟩ : ∃ y : Int32, y = (x4 + 1) := ⟨_, rfl⟩
  replace h := zl_sub ev1 h
  refine lv_iinc (v := v1) (lv' := [(4, .int v1), (3, va_rf (Option.map (B 18) s0)), (0, .ref (B 19 x0)), (1, .ref (B 12 x1)), (2, .int x2)]) F.1 F.2.1 dX19_ways_103 hl (k := 4) rfl (by rw [ev1]; rfl) (by decide) (by simp only [List.filter, zrf_cat]; rfl) (fun ls hl => ?_)
  refine lv_goto (tgt := 52) F.1 F.2.1 dX19_ways_106 (by decide) ?_
  exact hK52 x0 x1 x2 s0 v1 hx0 hx1 hs0 hr (lv_sub hl [2, 3, 4, 1, 0] rfl) h
def fX19_ways_101 (N : Nat) (K20 : Nat → Nat → Int32 → St → Option (Int32 × St)) (K52 : Nat → Nat → Int32 → Option Nat → Int32 → St → Option (Int32 × St)) (x0 : Nat) (x1 : Nat) (x2 : Int32) (x3 : Option Nat) (x4 : Int32) (z : St) : Option (Int32 × St) := fX19_ways_102 N K20 K52 x0 x1 x2 x4 x3 z
set_option maxHeartbeats 4000000 in
set_option maxRecDepth 100000 in
theorem bX19_ways_101 (hst : zSt B ids) (F : zFx p m c cX19_ways 5 s args RX19 D cy B ids A) (hA : ∀ q : Nat, s.heap.size ≤ q → A q) {r : Int32} {z' : St} (E : zEnd p l e rmX19_ways s m args below meth c cX19_ways D cy B ids A Q none z' .return_ True) {N : Nat} {K20 : Nat → Nat → Int32 → St → Option (Int32 × St)} {K52 : Nat → Nat → Int32 → Option Nat → Int32 → St → Option (Int32 × St)} (hK20 : ∀ (x0 : Nat) (x1 : Nat) (x2 : Int32) (hx0 : (19, x0) ∈ ids) (hx1 : (12, x1) ∈ ids) {z : St} {H : Heap} {locs : List Loc} {ls : Array Slot} (hr : zRep D cy B ids A s.heap z H locs) (hl : lv_has ls 5 [(0, .ref (B 19 x0)), (1, .ref (B 12 x1)), (2, .int x2)]), K20 x0 x1 x2 z = some (r, z') → W p l e rmX19_ways s m args below meth c H locs 0 0 Q (F0 m 20 ls [])) (hK52 : ∀ (x0 : Nat) (x1 : Nat) (x2 : Int32) (x3 : Option Nat) (x4 : Int32) (hx0 : (19, x0) ∈ ids) (hx1 : (12, x1) ∈ ids) (hx3 : ∀ t, x3 = some t → (18, t) ∈ ids) {z : St} {H : Heap} {locs : List Loc} {ls : Array Slot} (hr : zRep D cy B ids A s.heap z H locs) (hl : lv_has ls 5 [(0, .ref (B 19 x0)), (1, .ref (B 12 x1)), (2, .int x2), (3, va_rf (Option.map (B 18) x3)), (4, .int x4)]), K52 x0 x1 x2 x3 x4 z = some (r, z') → W p l e rmX19_ways s m args below meth c H locs 0 0 Q (F0 m 52 ls [])) (x0 : Nat) (x1 : Nat) (x2 : Int32) (x3 : Option Nat) (x4 : Int32) (hx0 : (19, x0) ∈ ids) (hx1 : (12, x1) ∈ ids) (hx3 : ∀ t, x3 = some t → (18, t) ∈ ids) {z : St} {H : Heap} {locs : List Loc} {ls : Array Slot} (hr : zRep D cy B ids A s.heap z H locs) (hl : lv_has ls 5 [(0, .ref (B 19 x0)), (1, .ref (B 12 x1)), (2, .int x2), (3, va_rf (Option.map (B 18) x3)), (4, .int x4)]) (h : fX19_ways_101 N K20 K52 x0 x1 x2 x3 x4 z = some (r, z')) : W p l e rmX19_ways s m args below meth c H locs 0 0 Q (F0 m 101 ls []) := by
  unfold fX19_ways_101 at h
  refine zr_aload_n F.1 F.2.1 dX19_ways_101 rfl (lv_at hl 3 rfl) ?_
  exact bX19_ways_102 hst F hA E hK20 hK52 x0 x1 x2 x4 x3 hx0 hx1 hx3 hr (lv_sub hl [0, 1, 2, 4] rfl) h
def fX19_ways_149 (N : Nat) (K20 : Nat → Nat → Int32 → St → Option (Int32 × St)) (x0 : Nat) (x1 : Nat) (x2 : Int32) (z : St) : Option (Int32 × St) := zl (x2 + 1) fun v1 => K20 x0 x1 v1 z
set_option maxHeartbeats 4000000 in
set_option maxRecDepth 100000 in
theorem bX19_ways_149 (hst : zSt B ids) (F : zFx p m c cX19_ways 5 s args RX19 D cy B ids A) (hA : ∀ q : Nat, s.heap.size ≤ q → A q) {r : Int32} {z' : St} (E : zEnd p l e rmX19_ways s m args below meth c cX19_ways D cy B ids A Q none z' .return_ True) {N : Nat} {K20 : Nat → Nat → Int32 → St → Option (Int32 × St)} (hK20 : ∀ (x0 : Nat) (x1 : Nat) (x2 : Int32) (hx0 : (19, x0) ∈ ids) (hx1 : (12, x1) ∈ ids) {z : St} {H : Heap} {locs : List Loc} {ls : Array Slot} (hr : zRep D cy B ids A s.heap z H locs) (hl : lv_has ls 5 [(0, .ref (B 19 x0)), (1, .ref (B 12 x1)), (2, .int x2)]), K20 x0 x1 x2 z = some (r, z') → W p l e rmX19_ways s m args below meth c H locs 0 0 Q (F0 m 20 ls [])) (x0 : Nat) (x1 : Nat) (x2 : Int32) (hx0 : (19, x0) ∈ ids) (hx1 : (12, x1) ∈ ids) {z : St} {H : Heap} {locs : List Loc} {ls : Array Slot} (hr : zRep D cy B ids A s.heap z H locs) (hl : lv_has ls 5 [(0, .ref (B 19 x0)), (1, .ref (B 12 x1)), (2, .int x2)]) (h : fX19_ways_149 N K20 x0 x1 x2 z = some (r, z')) : W p l e rmX19_ways s m args below meth c H locs 0 0 Q (F0 m 149 ls []) := by
  unfold fX19_ways_149 at h
  obtain ⟨v1, ev1⟩ : ∃ y : Int32, y = (x2 + 1) := ⟨_, rfl⟩
  replace h := zl_sub ev1 h
  refine lv_iinc (v := v1) (lv' := [(2, .int v1), (0, .ref (B 19 x0)), (1, .ref (B 12 x1))]) F.1 F.2.1 dX19_ways_149 hl (k := 2) rfl (by rw [ev1]; rfl) (by decide) rfl (fun ls hl => ?_)
  refine lv_goto (tgt := 20) F.1 F.2.1 dX19_ways_152 (by decide) ?_
  exact hK20 x0 x1 v1 hx0 hx1 hr (lv_sub hl [1, 2, 0] rfl) h
def fX19_ways_52b (N : Nat) (K20 : Nat → Nat → Int32 → St → Option (Int32 × St)) (K52 : Nat → Nat → Int32 → Option Nat → Int32 → St → Option (Int32 × St)) (x0 : Nat) (x1 : Nat) (x2 : Int32) (x3 : Option Nat) (x4 : Int32) (z : St) : Option (Int32 × St) := if (zgI z 12 3 x1) ≤ x4 then (zo x3 (zc (fX19_farWay N x0 x1 x2 z) fun _ z5 => fX19_ways_149 N K20 x0 x1 x2 z5) fun a3 => zk x2 24 <| zl (zsA z 155 x1 (Int32.toNatClampNeg x2) (zgI z 18 4 a3)) fun z9 => zk x2 24 <| zl (zsA z9 156 x1 (Int32.toNatClampNeg x2) (zgI z9 12 0 x1)) fun z11 => zk x2 24 <| zl (zsA z11 157 x1 (Int32.toNatClampNeg x2) x2) fun z13 => fX19_ways_149 N K20 x0 x1 x2 z13) else (zk x4 6 <| zl (zgQ z 147 x1 (Int32.toNatClampNeg x4)) fun y15 => zd y15 fun a16 => zl (zgR z 18 2 a16) fun y17 => zd y17 fun a18 => if ¬ (zgI z 16 0 a18) = x2 then (fX19_ways_101 N K20 K52 x0 x1 x2 x3 x4 z) else (zk x4 6 <| zl (zgQ z 147 x1 (Int32.toNatClampNeg x4)) fun y21 => zd y21 fun a22 => if (zgI z 18 5 a22) = 0 then (fX19_ways_101 N K20 K52 x0 x1 x2 x3 x4 z) else (zk x4 6 <| zl (zgQ z 147 x1 (Int32.toNatClampNeg x4)) fun y25 => fX19_ways_102 N K20 K52 x0 x1 x2 x4 y25 z)))
def fX19_ways_52 (N : Nat) (K20 : Nat → Nat → Int32 → St → Option (Int32 × St)) : Nat → Nat → Nat → Int32 → Option Nat → Int32 → St → Option (Int32 × St)
  | 0 => fun _ _ _ _ _ _ => none
  | n + 1 => fX19_ways_52b N K20 (fX19_ways_52 N K20 n)
set_option maxHeartbeats 4000000 in
set_option maxRecDepth 100000 in
theorem bX19_ways_52 (hst : zSt B ids) (F : zFx p m c cX19_ways 5 s args RX19 D cy B ids A) (hA : ∀ q : Nat, s.heap.size ≤ q → A q) {r : Int32} {z' : St} (E : zEnd p l e rmX19_ways s m args below meth c cX19_ways D cy B ids A Q none z' .return_ True) {N : Nat} {K20 : Nat → Nat → Int32 → St → Option (Int32 × St)} {K52 : Nat → Nat → Int32 → Option Nat → Int32 → St → Option (Int32 × St)} (hK20 : ∀ (x0 : Nat) (x1 : Nat) (x2 : Int32) (hx0 : (19, x0) ∈ ids) (hx1 : (12, x1) ∈ ids) {z : St} {H : Heap} {locs : List Loc} {ls : Array Slot} (hr : zRep D cy B ids A s.heap z H locs) (hl : lv_has ls 5 [(0, .ref (B 19 x0)), (1, .ref (B 12 x1)), (2, .int x2)]), K20 x0 x1 x2 z = some (r, z') → W p l e rmX19_ways s m args below meth c H locs 0 0 Q (F0 m 20 ls [])) (hK52 : ∀ (x0 : Nat) (x1 : Nat) (x2 : Int32) (x3 : Option Nat) (x4 : Int32) (hx0 : (19, x0) ∈ ids) (hx1 : (12, x1) ∈ ids) (hx3 : ∀ t, x3 = some t → (18, t) ∈ ids) {z : St} {H : Heap} {locs : List Loc} {ls : Array Slot} (hr : zRep D cy B ids A s.heap z H locs) (hl : lv_has ls 5 [(0, .ref (B 19 x0)), (1, .ref (B 12 x1)), (2, .int x2), (3, va_rf (Option.map (B 18) x3)), (4, .int x4)]), K52 x0 x1 x2 x3 x4 z = some (r, z') → W p l e rmX19_ways s m args below meth c H locs 0 0 Q (F0 m 52 ls [])) (x0 : Nat) (x1 : Nat) (x2 : Int32) (x3 : Option Nat) (x4 : Int32) (hx0 : (19, x0) ∈ ids) (hx1 : (12, x1) ∈ ids) (hx3 : ∀ t, x3 = some t → (18, t) ∈ ids) {z : St} {H : Heap} {locs : List Loc} {ls : Array Slot} (hr : zRep D cy B ids A s.heap z H locs) (hl : lv_has ls 5 [(0, .ref (B 19 x0)), (1, .ref (B 12 x1)), (2, .int x2), (3, va_rf (Option.map (B 18) x3)), (4, .int x4)]) (h : fX19_ways_52b N K20 K52 x0 x1 x2 x3 x4 z = some (r, z')) : W p l e rmX19_ways s m args below meth c H locs 0 0 Q (F0 m 52 ls []) := by
  unfold fX19_ways_52b at h
  refine lv_iload F.1 F.2.1 dX19_ways_52 (lv_at hl 4 rfl) ?_
  refine lv_aload_n F.1 F.2.1 dX19_ways_54 rfl (lv_at hl 1 rfl) ?_
  refine gf19_273 F hx1 hr dX19_ways_55 ?_
  refine lv_icmp_ge (tgt := 109) F.1 F.2.1 dX19_ways_58 (by decide) (fun c1 => ?_) (fun c1 => ?_)
  · replace h := zi_t c1 h
    refine zr_aload_n F.1 F.2.1 dX19_ways_109 rfl (lv_at hl 3 rfl) ?_
    refine zr_ifnull (tgt := 143) F.1 F.2.1 dX19_ways_110 (by decide) (fun e2 => ?_) (fun a3 e2 => ?_)
    · replace h := zo_n e2 h
      subst e2
      refine lv_aload_n F.1 F.2.1 dX19_ways_143 rfl (lv_at hl 0 rfl) ?_
      refine lv_aload_n F.1 F.2.1 dX19_ways_144 rfl (lv_at hl 1 rfl) ?_
      refine lv_iload_n F.1 F.2.1 dX19_ways_145 rfl (lv_at hl 2 rfl) ?_
      replace h := zc_some h
      obtain ⟨r4, z5, hc6, h⟩ := h
      refine zr_callv (zrun_V (As := [.ref (B 12 x1), .int x2]) (rest := []) zq_2916 zq_2918 zs_X19_farWay zq_2919 zq_4 hdX19_farWay (by decide) (T := TX19) (N := 32) rfl (okX19_farWay l D cy B ids hst N x0 hx0 x1 hx1 x2  hr.2.2 hc6) F hr hx0 hl.1 rfl (by decide) dX19_ways_146 rfl rfl hroX19_ways_X19_farWay ⟨Nat.zero_le _, Nat.zero_le _⟩) F hA hr (fun H locs hw7 hr => ?_)
      clear hc6
      exact bX19_ways_149 hst F hA E hK20 x0 x1 x2 hx0 hx1 hr (lv_sub hl [0, 1, 2] rfl) h
    · replace h := zo_s e2 h
      subst e2
      refine lv_aload_n F.1 F.2.1 dX19_ways_113 rfl (lv_at hl 1 rfl) ?_
      refine gf19_301 F hx1 hr dX19_ways_114 ?_
      refine lv_iload_n F.1 F.2.1 dX19_ways_117 rfl (lv_at hl 2 rfl) ?_
      refine lv_aload_n F.1 F.2.1 dX19_ways_118 rfl (lv_at hl 3 rfl) ?_
      refine gf19_520 F (hx3 _ rfl) hr dX19_ways_119 ?_
      replace h := zk_some h
      obtain ⟨c8, h⟩ := h
      refine zr_iast (k := 155) (by decide) rfl (by decide) F (zal_a F hx1 (j := 25) rfl) hr dX19_ways_122 c8 (fun H locs z9 ez9 hr => ?_)
      replace h := zl_sub ez9 h
      clear ez9
      refine lv_aload_n F.1 F.2.1 dX19_ways_123 rfl (lv_at hl 1 rfl) ?_
      refine gf19_307 F hx1 hr dX19_ways_124 ?_
      refine lv_iload_n F.1 F.2.1 dX19_ways_127 rfl (lv_at hl 2 rfl) ?_
      refine lv_aload_n F.1 F.2.1 dX19_ways_128 rfl (lv_at hl 1 rfl) ?_
      refine gf19_310 F hx1 hr dX19_ways_129 ?_
      replace h := zk_some h
      obtain ⟨c10, h⟩ := h
      refine zr_iast (k := 156) (by decide) rfl (by decide) F (zal_a F hx1 (j := 26) rfl) hr dX19_ways_132 c10 (fun H locs z11 ez11 hr => ?_)
      replace h := zl_sub ez11 h
      clear ez11
      refine lv_aload_n F.1 F.2.1 dX19_ways_133 rfl (lv_at hl 1 rfl) ?_
      refine gf19_304 F hx1 hr dX19_ways_134 ?_
      refine lv_iload_n F.1 F.2.1 dX19_ways_137 rfl (lv_at hl 2 rfl) ?_
      refine lv_iload_n F.1 F.2.1 dX19_ways_138 rfl (lv_at hl 2 rfl) ?_
      replace h := zk_some h
      obtain ⟨c12, h⟩ := h
      refine zr_iast (k := 157) (by decide) rfl (by decide) F (zal_a F hx1 (j := 27) rfl) hr dX19_ways_139 c12 (fun H locs z13 ez13 hr => ?_)
      replace h := zl_sub ez13 h
      clear ez13
      refine lv_goto (tgt := 149) F.1 F.2.1 dX19_ways_140 (by decide) ?_
      exact bX19_ways_149 hst F hA E hK20 x0 x1 x2 hx0 hx1 hr (lv_sub hl [0, 1, 2] rfl) h
  · replace h := zi_f c1 h
    refine lv_aload_n F.1 F.2.1 dX19_ways_61 rfl (lv_at hl 1 rfl) ?_
    refine gf19_276 F hx1 hr dX19_ways_62 ?_
    refine lv_iload F.1 F.2.1 dX19_ways_65 (lv_at hl 4 rfl) ?_
    replace h := zk_some h
    obtain ⟨c14, h⟩ := h
    refine zr_aaldv (k := 147) (by decide) rfl rfl (zlen_d (by decide)) F (zal_a F hx1 (j := 2) rfl) hr dX19_ways_67 c14 (fun y15 ey15 => ?_)
    replace h := zl_sub ey15 h
    have hy15 := zal_q hr (zal_a F hx1 (j := 2) rfl) rfl ey15
    clear ey15
    replace h := zd_some h
    obtain ⟨a16, rfl, h⟩ := h
    refine gf19_149 F (hy15 _ rfl) hr dX19_ways_68 (fun y17 ey17 => ?_)
    replace h := zl_sub ey17 h
    have hy17 := zal_g hr (hy15 _ rfl) (j := 2) rfl ey17
    clear ey17
    replace h := zd_some h
    obtain ⟨a18, rfl, h⟩ := h
    refine gf19_181 F (hy17 _ rfl) hr dX19_ways_71 ?_
    refine lv_iload_n F.1 F.2.1 dX19_ways_74 rfl (lv_at hl 2 rfl) ?_
    refine lv_icmp_ne (tgt := 101) F.1 F.2.1 dX19_ways_75 (by decide) (fun c19 => ?_) (fun c19 => ?_)
    · replace h := zi_t c19 h
      exact bX19_ways_101 hst F hA E hK20 hK52 x0 x1 x2 x3 x4 hx0 hx1 hx3 hr (lv_sub hl [0, 1, 2, 3, 4] rfl) h
    · replace h := zi_f (fun q => q c19) h
      refine lv_aload_n F.1 F.2.1 dX19_ways_78 rfl (lv_at hl 1 rfl) ?_
      refine gf19_276 F hx1 hr dX19_ways_79 ?_
      refine lv_iload F.1 F.2.1 dX19_ways_82 (lv_at hl 4 rfl) ?_
      replace h := zk_some h
      obtain ⟨c20, h⟩ := h
      refine zr_aaldv (k := 147) (by decide) rfl rfl (zlen_d (by decide)) F (zal_a F hx1 (j := 2) rfl) hr dX19_ways_84 c20 (fun y21 ey21 => ?_)
      replace h := zl_sub ey21 h
      have hy21 := zal_q hr (zal_a F hx1 (j := 2) rfl) rfl ey21
      clear ey21
      replace h := zd_some h
      obtain ⟨a22, rfl, h⟩ := h
      refine gf19_479 F (hy21 _ rfl) hr dX19_ways_85 ?_
      refine lv_if_eq (tgt := 101) F.1 F.2.1 dX19_ways_88 (by decide) (fun c23 => ?_) (fun c23 => ?_)
      · replace h := zi_t c23 h
        exact bX19_ways_101 hst F hA E hK20 hK52 x0 x1 x2 x3 x4 hx0 hx1 hx3 hr (lv_sub hl [0, 1, 2, 3, 4] rfl) h
      · replace h := zi_f c23 h
        refine lv_aload_n F.1 F.2.1 dX19_ways_91 rfl (lv_at hl 1 rfl) ?_
        refine gf19_276 F hx1 hr dX19_ways_92 ?_
        refine lv_iload F.1 F.2.1 dX19_ways_95 (lv_at hl 4 rfl) ?_
        replace h := zk_some h
        obtain ⟨c24, h⟩ := h
        refine zr_aaldv (k := 147) (by decide) rfl rfl (zlen_d (by decide)) F (zal_a F hx1 (j := 2) rfl) hr dX19_ways_97 c24 (fun y25 ey25 => ?_)
        replace h := zl_sub ey25 h
        have hy25 := zal_q hr (zal_a F hx1 (j := 2) rfl) rfl ey25
        clear ey25
        refine lv_goto (tgt := 102) F.1 F.2.1 dX19_ways_98 (by decide) ?_
        exact bX19_ways_102 hst F hA E hK20 hK52 x0 x1 x2 x4 y25 hx0 hx1 hy25 hr (lv_sub hl [0, 1, 2, 4] rfl) h
theorem lX19_ways_52 (hst : zSt B ids) (F : zFx p m c cX19_ways 5 s args RX19 D cy B ids A) (hA : ∀ q : Nat, s.heap.size ≤ q → A q) {r : Int32} {z' : St} (E : zEnd p l e rmX19_ways s m args below meth c cX19_ways D cy B ids A Q none z' .return_ True) {N : Nat} {K20 : Nat → Nat → Int32 → St → Option (Int32 × St)} (hK20 : ∀ (x0 : Nat) (x1 : Nat) (x2 : Int32) (hx0 : (19, x0) ∈ ids) (hx1 : (12, x1) ∈ ids) {z : St} {H : Heap} {locs : List Loc} {ls : Array Slot} (hr : zRep D cy B ids A s.heap z H locs) (hl : lv_has ls 5 [(0, .ref (B 19 x0)), (1, .ref (B 12 x1)), (2, .int x2)]), K20 x0 x1 x2 z = some (r, z') → W p l e rmX19_ways s m args below meth c H locs 0 0 Q (F0 m 20 ls [])) : ∀ (n : Nat) (x0 : Nat) (x1 : Nat) (x2 : Int32) (x3 : Option Nat) (x4 : Int32) (hx0 : (19, x0) ∈ ids) (hx1 : (12, x1) ∈ ids) (hx3 : ∀ t, x3 = some t → (18, t) ∈ ids) {z : St} {H : Heap} {locs : List Loc} {ls : Array Slot} (hr : zRep D cy B ids A s.heap z H locs) (hl : lv_has ls 5 [(0, .ref (B 19 x0)), (1, .ref (B 12 x1)), (2, .int x2), (3, va_rf (Option.map (B 18) x3)), (4, .int x4)]), fX19_ways_52 N K20 n x0 x1 x2 x3 x4 z = some (r, z') → W p l e rmX19_ways s m args below meth c H locs 0 0 Q (F0 m 52 ls []) := by
  intro n
  induction n with
  | zero => intro x0 x1 x2 x3 x4 hx0 hx1 hx3 z H locs ls hr hl h; cases h
  | succ n ih => intro x0 x1 x2 x3 x4 hx0 hx1 hx3 z H locs ls hr hl h; exact bX19_ways_52 hst F hA E hK20 ih x0 x1 x2 x3 x4 hx0 hx1 hx3 hr hl h
def fX19_ways_20b (N : Nat) (K20 : Nat → Nat → Int32 → St → Option (Int32 × St)) (x0 : Nat) (x1 : Nat) (x2 : Int32) (z : St) : Option (Int32 × St) := if (24 : Int32) ≤ x2 then (some (0, z)) else (zk x2 24 <| zl (zsA z 155 x1 (Int32.toNatClampNeg x2) (-1 : Int32)) fun z3 => zk x2 24 <| zl (zsA z3 156 x1 (Int32.toNatClampNeg x2) (-1 : Int32)) fun z5 => zk x2 24 <| zl (zsA z5 157 x1 (Int32.toNatClampNeg x2) (-1 : Int32)) fun z7 => fX19_ways_52 N K20 N x0 x1 x2 none (0 : Int32) z7)
def fX19_ways_20 (N : Nat)  : Nat → Nat → Nat → Int32 → St → Option (Int32 × St)
  | 0 => fun _ _ _ _ => none
  | n + 1 => fX19_ways_20b N (fX19_ways_20 N  n)
set_option maxHeartbeats 4000000 in
set_option maxRecDepth 100000 in
theorem bX19_ways_20 (hst : zSt B ids) (F : zFx p m c cX19_ways 5 s args RX19 D cy B ids A) (hA : ∀ q : Nat, s.heap.size ≤ q → A q) {r : Int32} {z' : St} (E : zEnd p l e rmX19_ways s m args below meth c cX19_ways D cy B ids A Q none z' .return_ True) {N : Nat} {K20 : Nat → Nat → Int32 → St → Option (Int32 × St)} (hK20 : ∀ (x0 : Nat) (x1 : Nat) (x2 : Int32) (hx0 : (19, x0) ∈ ids) (hx1 : (12, x1) ∈ ids) {z : St} {H : Heap} {locs : List Loc} {ls : Array Slot} (hr : zRep D cy B ids A s.heap z H locs) (hl : lv_has ls 5 [(0, .ref (B 19 x0)), (1, .ref (B 12 x1)), (2, .int x2)]), K20 x0 x1 x2 z = some (r, z') → W p l e rmX19_ways s m args below meth c H locs 0 0 Q (F0 m 20 ls [])) (x0 : Nat) (x1 : Nat) (x2 : Int32) (hx0 : (19, x0) ∈ ids) (hx1 : (12, x1) ∈ ids) {z : St} {H : Heap} {locs : List Loc} {ls : Array Slot} (hr : zRep D cy B ids A s.heap z H locs) (hl : lv_has ls 5 [(0, .ref (B 19 x0)), (1, .ref (B 12 x1)), (2, .int x2)]) (h : fX19_ways_20b N K20 x0 x1 x2 z = some (r, z')) : W p l e rmX19_ways s m args below meth c H locs 0 0 Q (F0 m 20 ls []) := by
  unfold fX19_ways_20b at h
  refine lv_iload_n F.1 F.2.1 dX19_ways_20 rfl (lv_at hl 2 rfl) ?_
  refine lv_bipush (v := (24 : Int32)) F.1 F.2.1 dX19_ways_21 (by decide) ?_
  refine lv_icmp_ge (tgt := 155) F.1 F.2.1 dX19_ways_23 (by decide) (fun c1 => ?_) (fun c1 => ?_)
  · replace h := zi_t c1 h
    obtain ⟨rfl, rfl⟩ := zret h
    exact E _ _ _ _ dX19_ways_155 trivial hr
  · replace h := zi_f c1 h
    refine lv_aload_n F.1 F.2.1 dX19_ways_26 rfl (lv_at hl 1 rfl) ?_
    refine gf19_301 F hx1 hr dX19_ways_27 ?_
    refine lv_iload_n F.1 F.2.1 dX19_ways_30 rfl (lv_at hl 2 rfl) ?_
    refine lv_iconst (v := (-1 : Int32)) F.1 F.2.1 dX19_ways_31 (by decide) ?_
    replace h := zk_some h
    obtain ⟨c2, h⟩ := h
    refine zr_iast (k := 155) (by decide) rfl (by decide) F (zal_a F hx1 (j := 25) rfl) hr dX19_ways_32 c2 (fun H locs z3 ez3 hr => ?_)
    replace h := zl_sub ez3 h
    clear ez3
    refine lv_aload_n F.1 F.2.1 dX19_ways_33 rfl (lv_at hl 1 rfl) ?_
    refine gf19_307 F hx1 hr dX19_ways_34 ?_
    refine lv_iload_n F.1 F.2.1 dX19_ways_37 rfl (lv_at hl 2 rfl) ?_
    refine lv_iconst (v := (-1 : Int32)) F.1 F.2.1 dX19_ways_38 (by decide) ?_
    replace h := zk_some h
    obtain ⟨c4, h⟩ := h
    refine zr_iast (k := 156) (by decide) rfl (by decide) F (zal_a F hx1 (j := 26) rfl) hr dX19_ways_39 c4 (fun H locs z5 ez5 hr => ?_)
    replace h := zl_sub ez5 h
    clear ez5
    refine lv_aload_n F.1 F.2.1 dX19_ways_40 rfl (lv_at hl 1 rfl) ?_
    refine gf19_304 F hx1 hr dX19_ways_41 ?_
    refine lv_iload_n F.1 F.2.1 dX19_ways_44 rfl (lv_at hl 2 rfl) ?_
    refine lv_iconst (v := (-1 : Int32)) F.1 F.2.1 dX19_ways_45 (by decide) ?_
    replace h := zk_some h
    obtain ⟨c6, h⟩ := h
    refine zr_iast (k := 157) (by decide) rfl (by decide) F (zal_a F hx1 (j := 27) rfl) hr dX19_ways_46 c6 (fun H locs z7 ez7 hr => ?_)
    replace h := zl_sub ez7 h
    clear ez7
    refine lv_null F.1 F.2.1 dX19_ways_47 ?_
    refine lv_astore_nN (lv' := [(3, .null), (0, .ref (B 19 x0)), (1, .ref (B 12 x1)), (2, .int x2)]) F.1 F.2.1 dX19_ways_48 rfl hl (by decide) rfl (fun ls hl => ?_)
    refine lv_iconst (v := (0 : Int32)) F.1 F.2.1 dX19_ways_49 (by decide) ?_
    refine lv_istore (lv' := [(4, .int (0 : Int32)), (3, .null), (0, .ref (B 19 x0)), (1, .ref (B 12 x1)), (2, .int x2)]) F.1 F.2.1 dX19_ways_50 hl (by decide) rfl (fun ls hl => ?_)
    exact lX19_ways_52 hst F hA E hK20 _ x0 x1 x2 none (0 : Int32) hx0 hx1 zal_0 hr (lv_sub hl [2, 3, 4, 1, 0] rfl) h
theorem lX19_ways_20 (hst : zSt B ids) (F : zFx p m c cX19_ways 5 s args RX19 D cy B ids A) (hA : ∀ q : Nat, s.heap.size ≤ q → A q) {r : Int32} {z' : St} (E : zEnd p l e rmX19_ways s m args below meth c cX19_ways D cy B ids A Q none z' .return_ True) {N : Nat}  : ∀ (n : Nat) (x0 : Nat) (x1 : Nat) (x2 : Int32) (hx0 : (19, x0) ∈ ids) (hx1 : (12, x1) ∈ ids) {z : St} {H : Heap} {locs : List Loc} {ls : Array Slot} (hr : zRep D cy B ids A s.heap z H locs) (hl : lv_has ls 5 [(0, .ref (B 19 x0)), (1, .ref (B 12 x1)), (2, .int x2)]), fX19_ways_20 N  n x0 x1 x2 z = some (r, z') → W p l e rmX19_ways s m args below meth c H locs 0 0 Q (F0 m 20 ls []) := by
  intro n
  induction n with
  | zero => intro x0 x1 x2 hx0 hx1 z H locs ls hr hl h; cases h
  | succ n ih => intro x0 x1 x2 hx0 hx1 z H locs ls hr hl h; exact bX19_ways_20 hst F hA E ih x0 x1 x2 hx0 hx1 hr hl h
def fX19_ways (N : Nat)  (x0 : Nat) (x1 : Nat) (z : St) : Option (Int32 × St) := if ¬ (zgI z 12 23 x1) = 0 then (zl (zsI z 12 23 x1 (0 : Int32)) fun z2 => zc (fX19_leastSums N x0 x1 z2) fun _ z4 => fX19_ways_20 N N x0 x1 (0 : Int32) z4) else (some (0, z))
set_option maxHeartbeats 4000000 in
set_option maxRecDepth 100000 in
theorem bX19_ways_0 (hst : zSt B ids) (F : zFx p m c cX19_ways 5 s args RX19 D cy B ids A) (hA : ∀ q : Nat, s.heap.size ≤ q → A q) {r : Int32} {z' : St} (E : zEnd p l e rmX19_ways s m args below meth c cX19_ways D cy B ids A Q none z' .return_ True) {N : Nat}  (x0 : Nat) (x1 : Nat) (hx0 : (19, x0) ∈ ids) (hx1 : (12, x1) ∈ ids) {z : St} {H : Heap} {locs : List Loc} {ls : Array Slot} (hr : zRep D cy B ids A s.heap z H locs) (hl : lv_has ls 5 [(0, .ref (B 19 x0)), (1, .ref (B 12 x1))]) (h : fX19_ways N x0 x1 z = some (r, z')) : W p l e rmX19_ways s m args below meth c H locs 0 0 Q (F0 m 0 ls []) := by
  unfold fX19_ways at h
  refine lv_aload_n F.1 F.2.1 dX19_ways_0 rfl (lv_at hl 1 rfl) ?_
  refine gf19_489 F hx1 hr dX19_ways_1 ?_
  refine lv_if_ne (tgt := 8) F.1 F.2.1 dX19_ways_4 (by decide) (fun c1 => ?_) (fun c1 => ?_)
  · replace h := zi_t c1 h
    refine lv_aload_n F.1 F.2.1 dX19_ways_8 rfl (lv_at hl 1 rfl) ?_
    refine lv_iconst (v := (0 : Int32)) F.1 F.2.1 dX19_ways_9 (by decide) ?_
    refine pf19_489 F hx1 hr dX19_ways_10 (0 : Int32) (by decide) (fun H locs z2 ez2 hr => ?_)
    replace h := zl_sub ez2 h
    clear ez2
    refine lv_aload_n F.1 F.2.1 dX19_ways_13 rfl (lv_at hl 0 rfl) ?_
    refine lv_aload_n F.1 F.2.1 dX19_ways_14 rfl (lv_at hl 1 rfl) ?_
    replace h := zc_some h
    obtain ⟨r3, z4, hc5, h⟩ := h
    refine zr_callv (zrun_V (As := [.ref (B 12 x1)]) (rest := []) zq_2899 zq_2901 zs_X19_leastSums zq_2902 zq_4 hdX19_leastSums (by decide) (T := TX19) (N := 32) rfl (okX19_leastSums l D cy B ids hst N x0 hx0 x1 hx1 hr.2.2 hc5) F hr hx0 hl.1 rfl (by decide) dX19_ways_15 rfl rfl hroX19_ways_X19_leastSums ⟨Nat.zero_le _, Nat.zero_le _⟩) F hA hr (fun H locs hw6 hr => ?_)
    clear hc5
    refine lv_iconst (v := (0 : Int32)) F.1 F.2.1 dX19_ways_18 (by decide) ?_
    refine lv_istore_n (lv' := [(2, .int (0 : Int32)), (0, .ref (B 19 x0)), (1, .ref (B 12 x1))]) F.1 F.2.1 dX19_ways_19 rfl hl (by decide) rfl (fun ls hl => ?_)
    exact lX19_ways_20 hst F hA E  _ x0 x1 (0 : Int32) hx0 hx1 hr (lv_sub hl [1, 2, 0] rfl) h
  · replace h := zi_f (fun q => q c1) h
    obtain ⟨rfl, rfl⟩ := zret h
    exact E _ _ _ _ dX19_ways_7 trivial hr
end SX19_ways
set_option maxRecDepth 100000 in
theorem okX19_ways (l : Launch) (D : va_G) (cy : Nat → ClassId) (B : Nat → Nat → Nat) (ids : List (Nat × Nat)) (hst : zSt B ids) (N : Nat) (x0 : Nat) (hx0 : (19, x0) ∈ ids) (x1 : Nat) (hx1 : (12, x1) ∈ ids) {z : St} {r : Int32} {z' : St} (hW : zWf ids z) (h : fX19_ways N x0 x1 z = some (r, z')) : zM l yX19_ways (zws yX19_ways cX19_ways 5 none) rmX19_ways D cy B ids [.ref (B 19 x0), .ref (B 12 x1)] none True z z' :=
  zM_of hst hW (by decide +kernel) (Nat.le_of_ble_eq_true rfl) (fun p e s m args below meth c A ls F hA hret hlocks hr hl => bX19_ways_0 hst F hA (zEnd_v F hret hlocks) x0 x1 hx0 hx1 hr hl h)
abbrev rmX19_toldBy : Room := { frames := 2, cells := 0, slots := 0, locals := 47 }
theorem hdX19_toldBy : yX19_toldBy.cls ≠ "java/lang/invoke/MethodHandle" ∧ yX19_toldBy.cls ≠ "java/lang/invoke/VarHandle" ∧ (parseMethodDescriptor yX19_toldBy.desc).map (fun d => d.parameters.length) = some 4 := by decide +kernel
theorem hroX19_toldBy_X14_room : rmX14_room.frames + 1 ≤ rmX19_toldBy.frames ∧ 8 + (1 + 11) + rmX14_room.locals ≤ rmX19_toldBy.locals := by decide
theorem hroX19_toldBy_X19_newSegment : rmX19_newSegment.frames + 1 ≤ rmX19_toldBy.frames ∧ 8 + (5 + 11) + rmX19_newSegment.locals ≤ rmX19_toldBy.locals := by decide
theorem hroX19_toldBy_X19_setByte : rmX19_setByte.frames + 1 ≤ rmX19_toldBy.frames ∧ 8 + (6 + 11) + rmX19_setByte.locals ≤ rmX19_toldBy.locals := by decide
theorem hroX19_toldBy_X19_setSeg : rmX19_setSeg.frames + 1 ≤ rmX19_toldBy.frames ∧ 8 + (4 + 11) + rmX19_setSeg.locals ≤ rmX19_toldBy.locals := by decide
section SX19_toldBy
variable {p : Program} {l : Launch} {e : Env} {s : State} {m : MethodId} {args : Array Value} {below : List Frame} {meth : Method} {c : Code} {Q : State → Prop} {D : va_G} {cy : Nat → ClassId} {B : Nat → Nat → Nat} {ids : List (Nat × Nat)} {A : Nat → Prop}
def fX19_toldBy_128 (N : Nat)  (x5 : Int32) (s0 : Nat) (z : St) : Option (Int32 × St) := zl (zsI z 14 32 s0 (0 : Int32)) fun z1 => some (x5, z1)
set_option maxHeartbeats 4000000 in
set_option maxRecDepth 100000 in
theorem bX19_toldBy_128 (hst : zSt B ids) (F : zFx p m c cX19_toldBy 7 s args RX19 D cy B ids A) (hA : ∀ q : Nat, s.heap.size ≤ q → A q) {r : Int32} {z' : St} (E : zEnd p l e rmX19_toldBy s m args below meth c cX19_toldBy D cy B ids A Q (some (.int r)) z' .ireturn True) {N : Nat}  (x5 : Int32) (s0 : Nat) (hs0 : (14, s0) ∈ ids) {z : St} {H : Heap} {locs : List Loc} {ls : Array Slot} (hr : zRep D cy B ids A s.heap z H locs) (hl : lv_has ls 7 [(5, .int x5)]) (h : fX19_toldBy_128 N x5 s0 z = some (r, z')) : W p l e rmX19_toldBy s m args below meth c H locs 0 0 Q (F0 m 128 ls [.ref (B 14 s0)]) := by
  unfold fX19_toldBy_128 at h
  refine lv_iconst (v := (0 : Int32)) F.1 F.2.1 dX19_toldBy_128 (by decide) ?_
  refine pf19_616 F hs0 hr dX19_toldBy_129 (0 : Int32) (by decide) (fun H locs z1 ez1 hr => ?_)
  replace h := zl_sub ez1 h
  clear ez1
  refine lv_iload F.1 F.2.1 dX19_toldBy_132 (lv_at hl 0 rfl) ?_
  obtain ⟨rfl, rfl⟩ := zret h
  exact E _ _ _ _ dX19_toldBy_134 trivial hr
def fX19_toldBy_68b (N : Nat) (K68 : Nat → Nat → Int32 → Int32 → Int32 → Int32 → St → Option (Int32 × St)) (x0 : Nat) (x1 : Nat) (x3 : Int32) (x4 : Int32) (x5 : Int32) (x6 : Int32) (z : St) : Option (Int32 × St) := if x4 ≤ x6 then (if (zgI z 14 32 x1) = 0 then (fX19_toldBy_128 N x5 x1 z) else (if ¬ (zgI z 14 17 x1) = 0 then (fX19_toldBy_128 N x5 x1 z) else (zl (zsI z 14 32 x1 (1 : Int32)) fun z4 => some (x5, z4)))) else (zk (((x3 + x6) - ((zgI z 14 5 x1) + (1 : Int32))) &&& (2047 : Int32)) 2048 <| zc (fX19_setByte N x0 x5 x6 (zgA z 159 x1 (Int32.toNatClampNeg (((x3 + x6) - ((zgI z 14 5 x1) + (1 : Int32))) &&& (2047 : Int32)))) z) fun _ z7 => zl (x6 + 1) fun v10 => K68 x0 x1 x3 x4 x5 v10 z7)
def fX19_toldBy_68 (N : Nat)  : Nat → Nat → Nat → Int32 → Int32 → Int32 → Int32 → St → Option (Int32 × St)
  | 0 => fun _ _ _ _ _ _ _ => none
  | n + 1 => fX19_toldBy_68b N (fX19_toldBy_68 N  n)
set_option maxHeartbeats 4000000 in
set_option maxRecDepth 100000 in
theorem bX19_toldBy_68 (hst : zSt B ids) (F : zFx p m c cX19_toldBy 7 s args RX19 D cy B ids A) (hA : ∀ q : Nat, s.heap.size ≤ q → A q) {r : Int32} {z' : St} (E : zEnd p l e rmX19_toldBy s m args below meth c cX19_toldBy D cy B ids A Q (some (.int r)) z' .ireturn True) {N : Nat} {K68 : Nat → Nat → Int32 → Int32 → Int32 → Int32 → St → Option (Int32 × St)} (hK68 : ∀ (x0 : Nat) (x1 : Nat) (x3 : Int32) (x4 : Int32) (x5 : Int32) (x6 : Int32) (hx0 : (19, x0) ∈ ids) (hx1 : (14, x1) ∈ ids) {z : St} {H : Heap} {locs : List Loc} {ls : Array Slot} (hr : zRep D cy B ids A s.heap z H locs) (hl : lv_has ls 7 [(0, .ref (B 19 x0)), (1, .ref (B 14 x1)), (3, .int x3), (4, .int x4), (5, .int x5), (6, .int x6)]), K68 x0 x1 x3 x4 x5 x6 z = some (r, z') → W p l e rmX19_toldBy s m args below meth c H locs 0 0 Q (F0 m 68 ls [])) (x0 : Nat) (x1 : Nat) (x3 : Int32) (x4 : Int32) (x5 : Int32) (x6 : Int32) (hx0 : (19, x0) ∈ ids) (hx1 : (14, x1) ∈ ids) {z : St} {H : Heap} {locs : List Loc} {ls : Array Slot} (hr : zRep D cy B ids A s.heap z H locs) (hl : lv_has ls 7 [(0, .ref (B 19 x0)), (1, .ref (B 14 x1)), (3, .int x3), (4, .int x4), (5, .int x5), (6, .int x6)]) (h : fX19_toldBy_68b N K68 x0 x1 x3 x4 x5 x6 z = some (r, z')) : W p l e rmX19_toldBy s m args below meth c H locs 0 0 Q (F0 m 68 ls []) := by
  unfold fX19_toldBy_68b at h
  refine lv_iload F.1 F.2.1 dX19_toldBy_68 (lv_at hl 5 rfl) ?_
  refine lv_iload F.1 F.2.1 dX19_toldBy_70 (lv_at hl 3 rfl) ?_
  refine lv_icmp_ge (tgt := 109) F.1 F.2.1 dX19_toldBy_72 (by decide) (fun c1 => ?_) (fun c1 => ?_)
  · replace h := zi_t c1 h
    refine lv_aload_n F.1 F.2.1 dX19_toldBy_109 rfl (lv_at hl 1 rfl) ?_
    refine lv_aload_n F.1 F.2.1 dX19_toldBy_110 rfl (lv_at hl 1 rfl) ?_
    refine gf19_616 F hx1 hr dX19_toldBy_111 ?_
    refine lv_if_eq (tgt := 128) F.1 F.2.1 dX19_toldBy_114 (by decide) (fun c2 => ?_) (fun c2 => ?_)
    · replace h := zi_t c2 h
      exact bX19_toldBy_128 hst F hA E  x5 x1 hx1 hr (lv_sub hl [4] rfl) h
    · replace h := zi_f c2 h
      refine lv_aload_n F.1 F.2.1 dX19_toldBy_117 rfl (lv_at hl 1 rfl) ?_
      refine gf19_567 F hx1 hr dX19_toldBy_118 ?_
      refine lv_if_ne (tgt := 128) F.1 F.2.1 dX19_toldBy_121 (by decide) (fun c3 => ?_) (fun c3 => ?_)
      · replace h := zi_t c3 h
        exact bX19_toldBy_128 hst F hA E  x5 x1 hx1 hr (lv_sub hl [4] rfl) h
      · replace h := zi_f (fun q => q c3) h
        refine lv_iconst (v := (1 : Int32)) F.1 F.2.1 dX19_toldBy_124 (by decide) ?_
        refine lv_goto (tgt := 129) F.1 F.2.1 dX19_toldBy_125 (by decide) ?_
        refine pf19_616 F hx1 hr dX19_toldBy_129 (1 : Int32) (by decide) (fun H locs z4 ez4 hr => ?_)
        replace h := zl_sub ez4 h
        clear ez4
        refine lv_iload F.1 F.2.1 dX19_toldBy_132 (lv_at hl 4 rfl) ?_
        obtain ⟨rfl, rfl⟩ := zret h
        exact E _ _ _ _ dX19_toldBy_134 trivial hr
  · replace h := zi_f c1 h
    refine lv_aload_n F.1 F.2.1 dX19_toldBy_75 rfl (lv_at hl 0 rfl) ?_
    refine lv_iload F.1 F.2.1 dX19_toldBy_76 (lv_at hl 4 rfl) ?_
    refine lv_iload F.1 F.2.1 dX19_toldBy_78 (lv_at hl 5 rfl) ?_
    refine lv_aload_n F.1 F.2.1 dX19_toldBy_80 rfl (lv_at hl 1 rfl) ?_
    refine gf19_688 F hx1 hr dX19_toldBy_81 ?_
    refine lv_iload_n F.1 F.2.1 dX19_toldBy_84 rfl (lv_at hl 2 rfl) ?_
    refine lv_iload F.1 F.2.1 dX19_toldBy_85 (lv_at hl 5 rfl) ?_
    refine lv_iadd F.1 F.2.1 dX19_toldBy_87 ?_
    refine lv_aload_n F.1 F.2.1 dX19_toldBy_88 rfl (lv_at hl 1 rfl) ?_
    refine gf19_588 F hx1 hr dX19_toldBy_89 ?_
    refine lv_iconst (v := (1 : Int32)) F.1 F.2.1 dX19_toldBy_92 (by decide) ?_
    refine lv_iadd F.1 F.2.1 dX19_toldBy_93 ?_
    refine lv_isub F.1 F.2.1 dX19_toldBy_94 ?_
    refine lv_sipush (v := (2047 : Int32)) F.1 F.2.1 dX19_toldBy_95 (by decide) ?_
    refine lv_iand F.1 F.2.1 dX19_toldBy_98 ?_
    replace h := zk_some h
    obtain ⟨c5, h⟩ := h
    refine zr_bald (k := 159) (by decide) rfl (by decide) F (zal_a F hx1 (j := 10) rfl) hr dX19_toldBy_99 c5 ?_
    replace h := zc_some h
    obtain ⟨r6, z7, hc8, h⟩ := h
    refine zr_callv (zrun_V (As := [.int x5, .int x6, .int (zgA z 159 x1 (Int32.toNatClampNeg (((x3 + x6) - ((zgI z 14 5 x1) + (1 : Int32))) &&& (2047 : Int32))))]) (rest := []) zq_2945 zq_2947 zs_X19_setByte zq_2948 zq_4 hdX19_setByte (by decide) (T := TX19) (N := 32) rfl (okX19_setByte l D cy B ids hst N x0 hx0 x5  x6  (zgA z 159 x1 (Int32.toNatClampNeg (((x3 + x6) - ((zgI z 14 5 x1) + (1 : Int32))) &&& (2047 : Int32))))  hr.2.2 hc8) F hr hx0 hl.1 rfl (by decide) dX19_toldBy_100 rfl rfl hroX19_toldBy_X19_setByte ⟨Nat.zero_le _, Nat.zero_le _⟩) F hA hr (fun H locs hw9 hr => ?_)
    clear hc8
    obtain ⟨v10, ev10⟩ : ∃ y : Int32, y = (x6 + 1) := ⟨_, rfl⟩
    replace h := zl_sub ev10 h
    refine lv_iinc (v := v10) (lv' := [(6, .int v10), (0, .ref (B 19 x0)), (1, .ref (B 14 x1)), (3, .int x3), (4, .int x4), (5, .int x5)]) F.1 F.2.1 dX19_toldBy_103 hl (k := 5) rfl (by rw [ev10]; rfl) (by decide) rfl (fun ls hl => ?_)
    refine lv_goto (tgt := 68) F.1 F.2.1 dX19_toldBy_106 (by decide) ?_
    exact hK68 x0 x1 x3 x4 x5 v10 hx0 hx1 hr (lv_sub hl [1, 2, 3, 4, 5, 0] rfl) h
theorem lX19_toldBy_68 (hst : zSt B ids) (F : zFx p m c cX19_toldBy 7 s args RX19 D cy B ids A) (hA : ∀ q : Nat, s.heap.size ≤ q → A q) {r : Int32} {z' : St} (E : zEnd p l e rmX19_toldBy s m args below meth c cX19_toldBy D cy B ids A Q (some (.int r)) z' .ireturn True) {N : Nat}  : ∀ (n : Nat) (x0 : Nat) (x1 : Nat) (x3 : Int32) (x4 : Int32) (x5 : Int32) (x6 : Int32) (hx0 : (19, x0) ∈ ids) (hx1 : (14, x1) ∈ ids) {z : St} {H : Heap} {locs : List Loc} {ls : Array Slot} (hr : zRep D cy B ids A s.heap z H locs) (hl : lv_has ls 7 [(0, .ref (B 19 x0)), (1, .ref (B 14 x1)), (3, .int x3), (4, .int x4), (5, .int x5), (6, .int x6)]), fX19_toldBy_68 N  n x0 x1 x3 x4 x5 x6 z = some (r, z') → W p l e rmX19_toldBy s m args below meth c H locs 0 0 Q (F0 m 68 ls []) := by
  intro n
  induction n with
  | zero => intro x0 x1 x3 x4 x5 x6 hx0 hx1 z H locs ls hr hl h; cases h
  | succ n ih => intro x0 x1 x3 x4 x5 x6 hx0 hx1 z H locs ls hr hl h; exact bX19_toldBy_68 hst F hA E ih x0 x1 x3 x4 x5 x6 hx0 hx1 hr hl h
def fX19_toldBy_41 (N : Nat)  (x0 : Nat) (x1 : Nat) (x3 : Int32) (x4 : Int32) (x5 : Int32) (s0 : Nat) (s1 : Int32) (s2 : Int32) (s3 : Int32) (z : St) : Option (Int32 × St) := zc (fX19_setSeg N s0 s1 s2 s3 z) fun _ z2 => zc (fX14_room N x1 z2) fun r5 z6 => zc (fX19_setSeg N x0 x5 (5 : Int32) r5 z6) fun _ z10 => zc (fX19_setSeg N x0 x5 (7 : Int32) x4 z10) fun _ z14 => fX19_toldBy_68 N N x0 x1 x3 x4 x5 (0 : Int32) z14
set_option maxHeartbeats 4000000 in
set_option maxRecDepth 100000 in
theorem bX19_toldBy_41 (hst : zSt B ids) (F : zFx p m c cX19_toldBy 7 s args RX19 D cy B ids A) (hA : ∀ q : Nat, s.heap.size ≤ q → A q) {r : Int32} {z' : St} (E : zEnd p l e rmX19_toldBy s m args below meth c cX19_toldBy D cy B ids A Q (some (.int r)) z' .ireturn True) {N : Nat}  (x0 : Nat) (x1 : Nat) (x3 : Int32) (x4 : Int32) (x5 : Int32) (s0 : Nat) (s1 : Int32) (s2 : Int32) (s3 : Int32) (hx0 : (19, x0) ∈ ids) (hx1 : (14, x1) ∈ ids) (hs0 : (19, s0) ∈ ids) {z : St} {H : Heap} {locs : List Loc} {ls : Array Slot} (hr : zRep D cy B ids A s.heap z H locs) (hl : lv_has ls 7 [(0, .ref (B 19 x0)), (1, .ref (B 14 x1)), (3, .int x3), (4, .int x4), (5, .int x5)]) (h : fX19_toldBy_41 N x0 x1 x3 x4 x5 s0 s1 s2 s3 z = some (r, z')) : W p l e rmX19_toldBy s m args below meth c H locs 0 0 Q (F0 m 41 ls [.int s3, .int s2, .int s1, .ref (B 19 s0)]) := by
  unfold fX19_toldBy_41 at h
  replace h := zc_some h
  obtain ⟨r1, z2, hc3, h⟩ := h
  refine zr_callv (zrun_V (As := [.int s1, .int s2, .int s3]) (rest := []) zq_2757 zq_2759 zs_X19_setSeg zq_2760 zq_4 hdX19_setSeg (by decide) (T := TX19) (N := 32) rfl (okX19_setSeg l D cy B ids hst N s0 hs0 s1  s2  s3  hr.2.2 hc3) F hr hs0 hl.1 rfl (by decide) dX19_toldBy_41 rfl rfl hroX19_toldBy_X19_setSeg ⟨Nat.zero_le _, Nat.zero_le _⟩) F hA hr (fun H locs hw4 hr => ?_)
  clear hc3
  refine lv_aload_n F.1 F.2.1 dX19_toldBy_44 rfl (lv_at hl 0 rfl) ?_
  refine lv_iload F.1 F.2.1 dX19_toldBy_45 (lv_at hl 4 rfl) ?_
  refine lv_iconst (v := (5 : Int32)) F.1 F.2.1 dX19_toldBy_47 (by decide) ?_
  refine lv_aload_n F.1 F.2.1 dX19_toldBy_48 rfl (lv_at hl 1 rfl) ?_
  replace h := zc_some h
  obtain ⟨r5, z6, hc7, h⟩ := h
  refine zr_calli (zrun_VN (As := []) (rest := [.int (5 : Int32), .int x5, .ref (B 19 x0)]) zn_2723 zq_2708 zs_X14_room zq_2709 zq_21 hdX14_room (by decide) (T := TX14) (N := 47) rfl (okX14_room l D cy B ids hst N x1 hx1 hr.2.2 hc7) F hr hx1 hl.1 rfl (Nat.le_of_ble_eq_true rfl) dX19_toldBy_49 rfl rfl hroX19_toldBy_X14_room ⟨Nat.zero_le _, Nat.zero_le _⟩) F hA hr (fun H locs hw8 hr => ?_)
  clear hc7
  replace h := zc_some h
  obtain ⟨r9, z10, hc11, h⟩ := h
  refine zr_callv (zrun_V (As := [.int x5, .int (5 : Int32), .int r5]) (rest := []) zq_2757 zq_2759 zs_X19_setSeg zq_2760 zq_4 hdX19_setSeg (by decide) (T := TX19) (N := 32) rfl (okX19_setSeg l D cy B ids hst N x0 hx0 x5  (5 : Int32)  r5  hr.2.2 hc11) F hr hx0 hl.1 rfl (by decide) dX19_toldBy_52 rfl rfl hroX19_toldBy_X19_setSeg ⟨Nat.zero_le _, Nat.zero_le _⟩) F hA hr (fun H locs hw12 hr => ?_)
  clear hc11
  refine lv_aload_n F.1 F.2.1 dX19_toldBy_55 rfl (lv_at hl 0 rfl) ?_
  refine lv_iload F.1 F.2.1 dX19_toldBy_56 (lv_at hl 4 rfl) ?_
  refine lv_bipush (v := (7 : Int32)) F.1 F.2.1 dX19_toldBy_58 (by decide) ?_
  refine lv_iload F.1 F.2.1 dX19_toldBy_60 (lv_at hl 3 rfl) ?_
  replace h := zc_some h
  obtain ⟨r13, z14, hc15, h⟩ := h
  refine zr_callv (zrun_V (As := [.int x5, .int (7 : Int32), .int x4]) (rest := []) zq_2757 zq_2759 zs_X19_setSeg zq_2760 zq_4 hdX19_setSeg (by decide) (T := TX19) (N := 32) rfl (okX19_setSeg l D cy B ids hst N x0 hx0 x5  (7 : Int32)  x4  hr.2.2 hc15) F hr hx0 hl.1 rfl (by decide) dX19_toldBy_62 rfl rfl hroX19_toldBy_X19_setSeg ⟨Nat.zero_le _, Nat.zero_le _⟩) F hA hr (fun H locs hw16 hr => ?_)
  clear hc15
  refine lv_iconst (v := (0 : Int32)) F.1 F.2.1 dX19_toldBy_65 (by decide) ?_
  refine lv_istore (lv' := [(6, .int (0 : Int32)), (0, .ref (B 19 x0)), (1, .ref (B 14 x1)), (3, .int x3), (4, .int x4), (5, .int x5)]) F.1 F.2.1 dX19_toldBy_66 hl (by decide) rfl (fun ls hl => ?_)
  exact lX19_toldBy_68 hst F hA E  _ x0 x1 x3 x4 x5 (0 : Int32) hx0 hx1 hr (lv_sub hl [1, 2, 3, 4, 5, 0] rfl) h
def fX19_toldBy_16 (N : Nat)  (x0 : Nat) (x1 : Nat) (x3 : Int32) (x4 : Int32) (s0 : Nat) (s1 : Int32) (z : St) : Option (Int32 × St) := zc (fX19_newSegment N s0 s1 x3 z) fun r1 z2 => if (zgI z2 14 17 x1) = 0 then (fX19_toldBy_41 N x0 x1 x3 x4 r1 x0 r1 (4 : Int32) (0 : Int32) z2) else (fX19_toldBy_41 N x0 x1 x3 x4 r1 x0 r1 (4 : Int32) (zgI z2 14 16 x1) z2)
set_option maxHeartbeats 4000000 in
set_option maxRecDepth 100000 in
theorem bX19_toldBy_16 (hst : zSt B ids) (F : zFx p m c cX19_toldBy 7 s args RX19 D cy B ids A) (hA : ∀ q : Nat, s.heap.size ≤ q → A q) {r : Int32} {z' : St} (E : zEnd p l e rmX19_toldBy s m args below meth c cX19_toldBy D cy B ids A Q (some (.int r)) z' .ireturn True) {N : Nat}  (x0 : Nat) (x1 : Nat) (x3 : Int32) (x4 : Int32) (s0 : Nat) (s1 : Int32) (hx0 : (19, x0) ∈ ids) (hx1 : (14, x1) ∈ ids) (hs0 : (19, s0) ∈ ids) {z : St} {H : Heap} {locs : List Loc} {ls : Array Slot} (hr : zRep D cy B ids A s.heap z H locs) (hl : lv_has ls 7 [(0, .ref (B 19 x0)), (1, .ref (B 14 x1)), (3, .int x3), (4, .int x4)]) (h : fX19_toldBy_16 N x0 x1 x3 x4 s0 s1 z = some (r, z')) : W p l e rmX19_toldBy s m args below meth c H locs 0 0 Q (F0 m 16 ls [.int s1, .ref (B 19 s0)]) := by
  unfold fX19_toldBy_16 at h
  refine lv_iload_n F.1 F.2.1 dX19_toldBy_16 rfl (lv_at hl 2 rfl) ?_
  replace h := zc_some h
  obtain ⟨r1, z2, hc3, h⟩ := h
  refine zr_calli (zrun_V (As := [.int s1, .int x3]) (rest := []) zq_2753 zq_2755 zs_X19_newSegment zq_2756 zq_4 hdX19_newSegment (by decide) (T := TX19) (N := 32) rfl (okX19_newSegment l D cy B ids hst N s0 hs0 s1  x3  hr.2.2 hc3) F hr hs0 hl.1 rfl (by decide) dX19_toldBy_17 rfl rfl hroX19_toldBy_X19_newSegment ⟨Nat.zero_le _, Nat.zero_le _⟩) F hA hr (fun H locs hw4 hr => ?_)
  clear hc3
  refine lv_istore (lv' := [(5, .int r1), (0, .ref (B 19 x0)), (1, .ref (B 14 x1)), (3, .int x3), (4, .int x4)]) F.1 F.2.1 dX19_toldBy_20 hl (by decide) rfl (fun ls hl => ?_)
  refine lv_aload_n F.1 F.2.1 dX19_toldBy_22 rfl (lv_at hl 1 rfl) ?_
  refine lv_iload F.1 F.2.1 dX19_toldBy_23 (lv_at hl 0 rfl) ?_
  refine lv_iconst (v := (4 : Int32)) F.1 F.2.1 dX19_toldBy_25 (by decide) ?_
  refine lv_aload_n F.1 F.2.1 dX19_toldBy_26 rfl (lv_at hl 2 rfl) ?_
  refine gf19_567 F hx1 hr dX19_toldBy_27 ?_
  refine lv_if_eq (tgt := 40) F.1 F.2.1 dX19_toldBy_30 (by decide) (fun c5 => ?_) (fun c5 => ?_)
  · replace h := zi_t c5 h
    refine lv_iconst (v := (0 : Int32)) F.1 F.2.1 dX19_toldBy_40 (by decide) ?_
    exact bX19_toldBy_41 hst F hA E  x0 x1 x3 x4 r1 x0 r1 (4 : Int32) (0 : Int32) hx0 hx1 hx0 hr (lv_sub hl [1, 2, 3, 4, 0] rfl) h
  · replace h := zi_f c5 h
    refine lv_aload_n F.1 F.2.1 dX19_toldBy_33 rfl (lv_at hl 2 rfl) ?_
    refine gf19_570 F hx1 hr dX19_toldBy_34 ?_
    refine lv_goto (tgt := 41) F.1 F.2.1 dX19_toldBy_37 (by decide) ?_
    exact bX19_toldBy_41 hst F hA E  x0 x1 x3 x4 r1 x0 r1 (4 : Int32) (zgI z2 14 16 x1) hx0 hx1 hx0 hr (lv_sub hl [1, 2, 3, 4, 0] rfl) h
def fX19_toldBy (N : Nat)  (x0 : Nat) (x1 : Nat) (x2 : Int32) (x3 : Int32) (x4 : Int32) (z : St) : Option (Int32 × St) := if (zgI z 14 17 x1) = 0 then (fX19_toldBy_16 N x0 x1 x3 x4 x0 x2 z) else (fX19_toldBy_16 N x0 x1 x3 x4 x0 (x2 ||| (8 : Int32)) z)
set_option maxHeartbeats 4000000 in
set_option maxRecDepth 100000 in
theorem bX19_toldBy_0 (hst : zSt B ids) (F : zFx p m c cX19_toldBy 7 s args RX19 D cy B ids A) (hA : ∀ q : Nat, s.heap.size ≤ q → A q) {r : Int32} {z' : St} (E : zEnd p l e rmX19_toldBy s m args below meth c cX19_toldBy D cy B ids A Q (some (.int r)) z' .ireturn True) {N : Nat}  (x0 : Nat) (x1 : Nat) (x2 : Int32) (x3 : Int32) (x4 : Int32) (hx0 : (19, x0) ∈ ids) (hx1 : (14, x1) ∈ ids) {z : St} {H : Heap} {locs : List Loc} {ls : Array Slot} (hr : zRep D cy B ids A s.heap z H locs) (hl : lv_has ls 7 [(0, .ref (B 19 x0)), (1, .ref (B 14 x1)), (2, .int x2), (3, .int x3), (4, .int x4)]) (h : fX19_toldBy N x0 x1 x2 x3 x4 z = some (r, z')) : W p l e rmX19_toldBy s m args below meth c H locs 0 0 Q (F0 m 0 ls []) := by
  unfold fX19_toldBy at h
  refine lv_aload_n F.1 F.2.1 dX19_toldBy_0 rfl (lv_at hl 0 rfl) ?_
  refine lv_aload_n F.1 F.2.1 dX19_toldBy_1 rfl (lv_at hl 1 rfl) ?_
  refine gf19_567 F hx1 hr dX19_toldBy_2 ?_
  refine lv_if_eq (tgt := 15) F.1 F.2.1 dX19_toldBy_5 (by decide) (fun c1 => ?_) (fun c1 => ?_)
  · replace h := zi_t c1 h
    refine lv_iload_n F.1 F.2.1 dX19_toldBy_15 rfl (lv_at hl 2 rfl) ?_
    exact bX19_toldBy_16 hst F hA E  x0 x1 x3 x4 x0 x2 hx0 hx1 hx0 hr (lv_sub hl [0, 1, 3, 4] rfl) h
  · replace h := zi_f c1 h
    refine lv_iload_n F.1 F.2.1 dX19_toldBy_8 rfl (lv_at hl 2 rfl) ?_
    refine lv_bipush (v := (8 : Int32)) F.1 F.2.1 dX19_toldBy_9 (by decide) ?_
    refine lv_ior F.1 F.2.1 dX19_toldBy_11 ?_
    refine lv_goto (tgt := 16) F.1 F.2.1 dX19_toldBy_12 (by decide) ?_
    exact bX19_toldBy_16 hst F hA E  x0 x1 x3 x4 x0 (x2 ||| (8 : Int32)) hx0 hx1 hx0 hr (lv_sub hl [0, 1, 3, 4] rfl) h
end SX19_toldBy
set_option maxRecDepth 100000 in
theorem okX19_toldBy (l : Launch) (D : va_G) (cy : Nat → ClassId) (B : Nat → Nat → Nat) (ids : List (Nat × Nat)) (hst : zSt B ids) (N : Nat) (x0 : Nat) (hx0 : (19, x0) ∈ ids) (x1 : Nat) (hx1 : (14, x1) ∈ ids) (x2 : Int32) (x3 : Int32) (x4 : Int32) {z : St} {r : Int32} {z' : St} (hW : zWf ids z) (h : fX19_toldBy N x0 x1 x2 x3 x4 z = some (r, z')) : zM l yX19_toldBy (zws yX19_toldBy cX19_toldBy 7 (some .int)) rmX19_toldBy D cy B ids [.ref (B 19 x0), .ref (B 14 x1), .int x2, .int x3, .int x4] (some (.int r)) True z z' :=
  zM_of hst hW (by decide +kernel) (Nat.le_of_ble_eq_true rfl) (fun p e s m args below meth c A ls F hA hret hlocks hr hl => bX19_toldBy_0 hst F hA (zEnd_i F hret hlocks) x0 x1 x2 x3 x4 hx0 hx1 hr hl h)
abbrev rmX19_sendNew : Room := { frames := 3, cells := 0, slots := 0, locals := 73 }
theorem hdX19_sendNew : yX19_sendNew.cls ≠ "java/lang/invoke/MethodHandle" ∧ yX19_sendNew.cls ≠ "java/lang/invoke/VarHandle" ∧ (parseMethodDescriptor yX19_sendNew.desc).map (fun d => d.parameters.length) = some 1 := by decide +kernel
theorem hroX19_sendNew_X14_hasNew : rmX14_hasNew.frames + 1 ≤ rmX19_sendNew.frames ∧ 8 + (1 + 11) + rmX14_hasNew.locals ≤ rmX19_sendNew.locals := by decide
theorem hroX19_sendNew_X14_isNew : rmX14_isNew.frames + 1 ≤ rmX19_sendNew.frames ∧ 8 + (2 + 11) + rmX14_isNew.locals ≤ rmX19_sendNew.locals := by decide
theorem hroX19_sendNew_X19_toldBy : rmX19_toldBy.frames + 1 ≤ rmX19_sendNew.frames ∧ 8 + (7 + 11) + rmX19_toldBy.locals ≤ rmX19_sendNew.locals := by decide
section SX19_sendNew
variable {p : Program} {l : Launch} {e : Env} {s : State} {m : MethodId} {args : Array Value} {below : List Frame} {meth : Method} {c : Code} {Q : State → Prop} {D : va_G} {cy : Nat → ClassId} {B : Nat → Nat → Nat} {ids : List (Nat × Nat)} {A : Nat → Prop}
def fX19_sendNew_148 (N : Nat)  (x0 : Nat) (x1 : Nat) (x6 : Int32) (s0 : Nat) (s1 : Int32) (s2 : Int32) (s3 : Int32) (z : St) : Option (Int32 × St) := zl (zsI z 14 7 s0 (s1 + (s2 + s3))) fun z1 => zc (fX14_isNew N x1 (zgI z1 19 24 x0) z1) fun _ z3 => some (x6, z3)
set_option maxHeartbeats 4000000 in
set_option maxRecDepth 100000 in
theorem bX19_sendNew_148 (hst : zSt B ids) (F : zFx p m c cX19_sendNew 7 s args RX19 D cy B ids A) (hA : ∀ q : Nat, s.heap.size ≤ q → A q) {r : Int32} {z' : St} (E : zEnd p l e rmX19_sendNew s m args below meth c cX19_sendNew D cy B ids A Q (some (.int r)) z' .ireturn True) {N : Nat}  (x0 : Nat) (x1 : Nat) (x6 : Int32) (s0 : Nat) (s1 : Int32) (s2 : Int32) (s3 : Int32) (hx0 : (19, x0) ∈ ids) (hx1 : (14, x1) ∈ ids) (hs0 : (14, s0) ∈ ids) {z : St} {H : Heap} {locs : List Loc} {ls : Array Slot} (hr : zRep D cy B ids A s.heap z H locs) (hl : lv_has ls 7 [(0, .ref (B 19 x0)), (1, .ref (B 14 x1)), (6, .int x6)]) (h : fX19_sendNew_148 N x0 x1 x6 s0 s1 s2 s3 z = some (r, z')) : W p l e rmX19_sendNew s m args below meth c H locs 0 0 Q (F0 m 148 ls [.int s3, .int s2, .int s1, .ref (B 14 s0)]) := by
  unfold fX19_sendNew_148 at h
  refine lv_iadd F.1 F.2.1 dX19_sendNew_148 ?_
  refine lv_iadd F.1 F.2.1 dX19_sendNew_149 ?_
  refine pf19_600 F hs0 hr dX19_sendNew_150 (s1 + (s2 + s3)) (fun H locs z1 ez1 hr => ?_)
  replace h := zl_sub ez1 h
  clear ez1
  refine lv_aload_n F.1 F.2.1 dX19_sendNew_153 rfl (lv_at hl 1 rfl) ?_
  refine lv_aload_n F.1 F.2.1 dX19_sendNew_154 rfl (lv_at hl 0 rfl) ?_
  refine gf19_143 F hx0 hr dX19_sendNew_155 ?_
  replace h := zc_some h
  obtain ⟨r2, z3, hc4, h⟩ := h
  refine zr_callv (zrun_VN (As := [.int (zgI z1 19 24 x0)]) (rest := []) zn_2969 zq_2971 zs_X14_isNew zq_2972 zq_21 hdX14_isNew (by decide) (T := TX14) (N := 47) rfl (okX14_isNew l D cy B ids hst N x1 hx1 (zgI z1 19 24 x0)  hr.2.2 hc4) F hr hx1 hl.1 rfl (by decide) dX19_sendNew_158 rfl rfl hroX19_sendNew_X14_isNew ⟨Nat.zero_le _, Nat.zero_le _⟩) F hA hr (fun H locs hw5 hr => ?_)
  clear hc4
  refine lv_iload F.1 F.2.1 dX19_sendNew_161 (lv_at hl 2 rfl) ?_
  obtain ⟨rfl, rfl⟩ := zret h
  exact E _ _ _ _ dX19_sendNew_163 trivial hr
def fX19_sendNew_120 (N : Nat)  (x0 : Nat) (x1 : Nat) (x4 : Int32) (x5 : Int32) (s0 : Nat) (s1 : Nat) (s2 : Int32) (z : St) : Option (Int32 × St) := zc (fX19_toldBy N s0 s1 s2 (zgI z 14 7 x1) x4 z) fun r1 z2 => if x5 = 0 then (fX19_sendNew_148 N x0 x1 r1 x1 (zgI z2 14 7 x1) x4 (0 : Int32) z2) else (fX19_sendNew_148 N x0 x1 r1 x1 (zgI z2 14 7 x1) x4 (1 : Int32) z2)
set_option maxHeartbeats 4000000 in
set_option maxRecDepth 100000 in
theorem bX19_sendNew_120 (hst : zSt B ids) (F : zFx p m c cX19_sendNew 7 s args RX19 D cy B ids A) (hA : ∀ q : Nat, s.heap.size ≤ q → A q) {r : Int32} {z' : St} (E : zEnd p l e rmX19_sendNew s m args below meth c cX19_sendNew D cy B ids A Q (some (.int r)) z' .ireturn True) {N : Nat}  (x0 : Nat) (x1 : Nat) (x4 : Int32) (x5 : Int32) (s0 : Nat) (s1 : Nat) (s2 : Int32) (hx0 : (19, x0) ∈ ids) (hx1 : (14, x1) ∈ ids) (hs0 : (19, s0) ∈ ids) (hs1 : (14, s1) ∈ ids) {z : St} {H : Heap} {locs : List Loc} {ls : Array Slot} (hr : zRep D cy B ids A s.heap z H locs) (hl : lv_has ls 7 [(0, .ref (B 19 x0)), (1, .ref (B 14 x1)), (4, .int x4), (5, .int x5)]) (h : fX19_sendNew_120 N x0 x1 x4 x5 s0 s1 s2 z = some (r, z')) : W p l e rmX19_sendNew s m args below meth c H locs 0 0 Q (F0 m 120 ls [.int s2, .ref (B 14 s1), .ref (B 19 s0)]) := by
  unfold fX19_sendNew_120 at h
  refine lv_aload_n F.1 F.2.1 dX19_sendNew_120 rfl (lv_at hl 1 rfl) ?_
  refine gf19_600 F hx1 hr dX19_sendNew_121 ?_
  refine lv_iload F.1 F.2.1 dX19_sendNew_124 (lv_at hl 2 rfl) ?_
  replace h := zc_some h
  obtain ⟨r1, z2, hc3, h⟩ := h
  refine zr_calli (zrun_V (As := [.ref (B 14 s1), .int s2, .int (zgI z 14 7 x1), .int x4]) (rest := []) zq_2941 zq_2943 zs_X19_toldBy zq_2944 zq_4 hdX19_toldBy (by decide) (T := TX19) (N := 32) rfl (okX19_toldBy l D cy B ids hst N s0 hs0 s1 hs1 s2  (zgI z 14 7 x1)  x4  hr.2.2 hc3) F hr hs0 hl.1 rfl (by decide) dX19_sendNew_126 rfl rfl hroX19_sendNew_X19_toldBy ⟨Nat.zero_le _, Nat.zero_le _⟩) F hA hr (fun H locs hw4 hr => ?_)
  clear hc3
  refine lv_istore (lv' := [(6, .int r1), (0, .ref (B 19 x0)), (1, .ref (B 14 x1)), (4, .int x4), (5, .int x5)]) F.1 F.2.1 dX19_sendNew_129 hl (by decide) rfl (fun ls hl => ?_)
  refine lv_aload_n F.1 F.2.1 dX19_sendNew_131 rfl (lv_at hl 2 rfl) ?_
  refine lv_dup F.1 F.2.1 dX19_sendNew_132 rfl ?_
  refine gf19_600 F hx1 hr dX19_sendNew_133 ?_
  refine lv_iload F.1 F.2.1 dX19_sendNew_136 (lv_at hl 3 rfl) ?_
  refine lv_iload F.1 F.2.1 dX19_sendNew_138 (lv_at hl 4 rfl) ?_
  refine lv_if_eq (tgt := 147) F.1 F.2.1 dX19_sendNew_140 (by decide) (fun c5 => ?_) (fun c5 => ?_)
  · replace h := zi_t c5 h
    refine lv_iconst (v := (0 : Int32)) F.1 F.2.1 dX19_sendNew_147 (by decide) ?_
    exact bX19_sendNew_148 hst F hA E  x0 x1 r1 x1 (zgI z2 14 7 x1) x4 (0 : Int32) hx0 hx1 hx1 hr (lv_sub hl [1, 2, 0] rfl) h
  · replace h := zi_f c5 h
    refine lv_iconst (v := (1 : Int32)) F.1 F.2.1 dX19_sendNew_143 (by decide) ?_
    refine lv_goto (tgt := 148) F.1 F.2.1 dX19_sendNew_144 (by decide) ?_
    exact bX19_sendNew_148 hst F hA E  x0 x1 r1 x1 (zgI z2 14 7 x1) x4 (1 : Int32) hx0 hx1 hx1 hr (lv_sub hl [1, 2, 0] rfl) h
def fX19_sendNew_108 (N : Nat)  (x0 : Nat) (x1 : Nat) (x4 : Int32) (x5 : Int32) (z : St) : Option (Int32 × St) := if x5 = 0 then (fX19_sendNew_120 N x0 x1 x4 x5 x0 x1 (0 : Int32) z) else (fX19_sendNew_120 N x0 x1 x4 x5 x0 x1 (2 : Int32) z)
set_option maxHeartbeats 4000000 in
set_option maxRecDepth 100000 in
theorem bX19_sendNew_108 (hst : zSt B ids) (F : zFx p m c cX19_sendNew 7 s args RX19 D cy B ids A) (hA : ∀ q : Nat, s.heap.size ≤ q → A q) {r : Int32} {z' : St} (E : zEnd p l e rmX19_sendNew s m args below meth c cX19_sendNew D cy B ids A Q (some (.int r)) z' .ireturn True) {N : Nat}  (x0 : Nat) (x1 : Nat) (x4 : Int32) (x5 : Int32) (hx0 : (19, x0) ∈ ids) (hx1 : (14, x1) ∈ ids) {z : St} {H : Heap} {locs : List Loc} {ls : Array Slot} (hr : zRep D cy B ids A s.heap z H locs) (hl : lv_has ls 7 [(0, .ref (B 19 x0)), (1, .ref (B 14 x1)), (4, .int x4), (5, .int x5)]) (h : fX19_sendNew_108 N x0 x1 x4 x5 z = some (r, z')) : W p l e rmX19_sendNew s m args below meth c H locs 0 0 Q (F0 m 108 ls []) := by
  unfold fX19_sendNew_108 at h
  refine lv_aload_n F.1 F.2.1 dX19_sendNew_108 rfl (lv_at hl 0 rfl) ?_
  refine lv_aload_n F.1 F.2.1 dX19_sendNew_109 rfl (lv_at hl 1 rfl) ?_
  refine lv_iload F.1 F.2.1 dX19_sendNew_110 (lv_at hl 3 rfl) ?_
  refine lv_if_eq (tgt := 119) F.1 F.2.1 dX19_sendNew_112 (by decide) (fun c1 => ?_) (fun c1 => ?_)
  · replace h := zi_t c1 h
    refine lv_iconst (v := (0 : Int32)) F.1 F.2.1 dX19_sendNew_119 (by decide) ?_
    exact bX19_sendNew_120 hst F hA E  x0 x1 x4 x5 x0 x1 (0 : Int32) hx0 hx1 hx0 hx1 hr (lv_sub hl [0, 1, 2, 3] rfl) h
  · replace h := zi_f c1 h
    refine lv_iconst (v := (2 : Int32)) F.1 F.2.1 dX19_sendNew_115 (by decide) ?_
    refine lv_goto (tgt := 120) F.1 F.2.1 dX19_sendNew_116 (by decide) ?_
    exact bX19_sendNew_120 hst F hA E  x0 x1 x4 x5 x0 x1 (2 : Int32) hx0 hx1 hx0 hx1 hr (lv_sub hl [0, 1, 2, 3] rfl) h
def fX19_sendNew_94 (N : Nat)  (x0 : Nat) (x1 : Nat) (x4 : Int32) (s0 : Int32) (z : St) : Option (Int32 × St) := if ¬ x4 = 0 then (fX19_sendNew_108 N x0 x1 x4 s0 z) else (if ¬ s0 = 0 then (fX19_sendNew_108 N x0 x1 x4 s0 z) else (some ((-1 : Int32), z)))
set_option maxHeartbeats 4000000 in
set_option maxRecDepth 100000 in
theorem bX19_sendNew_94 (hst : zSt B ids) (F : zFx p m c cX19_sendNew 7 s args RX19 D cy B ids A) (hA : ∀ q : Nat, s.heap.size ≤ q → A q) {r : Int32} {z' : St} (E : zEnd p l e rmX19_sendNew s m args below meth c cX19_sendNew D cy B ids A Q (some (.int r)) z' .ireturn True) {N : Nat}  (x0 : Nat) (x1 : Nat) (x4 : Int32) (s0 : Int32) (hx0 : (19, x0) ∈ ids) (hx1 : (14, x1) ∈ ids) {z : St} {H : Heap} {locs : List Loc} {ls : Array Slot} (hr : zRep D cy B ids A s.heap z H locs) (hl : lv_has ls 7 [(0, .ref (B 19 x0)), (1, .ref (B 14 x1)), (4, .int x4)]) (h : fX19_sendNew_94 N x0 x1 x4 s0 z = some (r, z')) : W p l e rmX19_sendNew s m args below meth c H locs 0 0 Q (F0 m 94 ls [.int s0]) := by
  unfold fX19_sendNew_94 at h
  refine lv_istore (lv' := [(5, .int s0), (0, .ref (B 19 x0)), (1, .ref (B 14 x1)), (4, .int x4)]) F.1 F.2.1 dX19_sendNew_94 hl (by decide) rfl (fun ls hl => ?_)
  refine lv_iload F.1 F.2.1 dX19_sendNew_96 (lv_at hl 3 rfl) ?_
  refine lv_if_ne (tgt := 108) F.1 F.2.1 dX19_sendNew_98 (by decide) (fun c1 => ?_) (fun c1 => ?_)
  · replace h := zi_t c1 h
    exact bX19_sendNew_108 hst F hA E  x0 x1 x4 s0 hx0 hx1 hr (lv_sub hl [1, 2, 3, 0] rfl) h
  · replace h := zi_f (fun q => q c1) h
    refine lv_iload F.1 F.2.1 dX19_sendNew_101 (lv_at hl 0 rfl) ?_
    refine lv_if_ne (tgt := 108) F.1 F.2.1 dX19_sendNew_103 (by decide) (fun c2 => ?_) (fun c2 => ?_)
    · replace h := zi_t c2 h
      exact bX19_sendNew_108 hst F hA E  x0 x1 x4 s0 hx0 hx1 hr (lv_sub hl [1, 2, 3, 0] rfl) h
    · replace h := zi_f (fun q => q c2) h
      refine lv_iconst (v := (-1 : Int32)) F.1 F.2.1 dX19_sendNew_106 (by decide) ?_
      obtain ⟨rfl, rfl⟩ := zret h
      exact E _ _ _ _ dX19_sendNew_107 trivial hr
def fX19_sendNew_93 (N : Nat)  (x0 : Nat) (x1 : Nat) (x4 : Int32) (z : St) : Option (Int32 × St) := fX19_sendNew_94 N x0 x1 x4 (0 : Int32) z
set_option maxHeartbeats 4000000 in
set_option maxRecDepth 100000 in
theorem bX19_sendNew_93 (hst : zSt B ids) (F : zFx p m c cX19_sendNew 7 s args RX19 D cy B ids A) (hA : ∀ q : Nat, s.heap.size ≤ q → A q) {r : Int32} {z' : St} (E : zEnd p l e rmX19_sendNew s m args below meth c cX19_sendNew D cy B ids A Q (some (.int r)) z' .ireturn True) {N : Nat}  (x0 : Nat) (x1 : Nat) (x4 : Int32) (hx0 : (19, x0) ∈ ids) (hx1 : (14, x1) ∈ ids) {z : St} {H : Heap} {locs : List Loc} {ls : Array Slot} (hr : zRep D cy B ids A s.heap z H locs) (hl : lv_has ls 7 [(0, .ref (B 19 x0)), (1, .ref (B 14 x1)), (4, .int x4)]) (h : fX19_sendNew_93 N x0 x1 x4 z = some (r, z')) : W p l e rmX19_sendNew s m args below meth c H locs 0 0 Q (F0 m 93 ls []) := by
  unfold fX19_sendNew_93 at h
  refine lv_iconst (v := (0 : Int32)) F.1 F.2.1 dX19_sendNew_93 (by decide) ?_
  exact bX19_sendNew_94 hst F hA E  x0 x1 x4 (0 : Int32) hx0 hx1 hr (lv_sub hl [0, 1, 2] rfl) h
def fX19_sendNew_68 (N : Nat)  (x0 : Nat) (x1 : Nat) (x2 : Int32) (x3 : Int32) (s0 : Int32) (z : St) : Option (Int32 × St) := if (zgI z 14 9 x1) = 0 then (fX19_sendNew_93 N x0 x1 s0 z) else (if ¬ s0 = x3 then (fX19_sendNew_93 N x0 x1 s0 z) else (if x2 ≤ s0 then (fX19_sendNew_93 N x0 x1 s0 z) else (fX19_sendNew_94 N x0 x1 s0 (1 : Int32) z)))
set_option maxHeartbeats 4000000 in
set_option maxRecDepth 100000 in
theorem bX19_sendNew_68 (hst : zSt B ids) (F : zFx p m c cX19_sendNew 7 s args RX19 D cy B ids A) (hA : ∀ q : Nat, s.heap.size ≤ q → A q) {r : Int32} {z' : St} (E : zEnd p l e rmX19_sendNew s m args below meth c cX19_sendNew D cy B ids A Q (some (.int r)) z' .ireturn True) {N : Nat}  (x0 : Nat) (x1 : Nat) (x2 : Int32) (x3 : Int32) (s0 : Int32) (hx0 : (19, x0) ∈ ids) (hx1 : (14, x1) ∈ ids) {z : St} {H : Heap} {locs : List Loc} {ls : Array Slot} (hr : zRep D cy B ids A s.heap z H locs) (hl : lv_has ls 7 [(0, .ref (B 19 x0)), (1, .ref (B 14 x1)), (2, .int x2), (3, .int x3)]) (h : fX19_sendNew_68 N x0 x1 x2 x3 s0 z = some (r, z')) : W p l e rmX19_sendNew s m args below meth c H locs 0 0 Q (F0 m 68 ls [.int s0]) := by
  unfold fX19_sendNew_68 at h
  refine lv_istore (lv' := [(4, .int s0), (0, .ref (B 19 x0)), (1, .ref (B 14 x1)), (2, .int x2), (3, .int x3)]) F.1 F.2.1 dX19_sendNew_68 hl (by decide) rfl (fun ls hl => ?_)
  refine lv_aload_n F.1 F.2.1 dX19_sendNew_70 rfl (lv_at hl 2 rfl) ?_
  refine gf19_634 F hx1 hr dX19_sendNew_71 ?_
  refine lv_if_eq (tgt := 93) F.1 F.2.1 dX19_sendNew_74 (by decide) (fun c1 => ?_) (fun c1 => ?_)
  · replace h := zi_t c1 h
    exact bX19_sendNew_93 hst F hA E  x0 x1 s0 hx0 hx1 hr (lv_sub hl [1, 2, 0] rfl) h
  · replace h := zi_f c1 h
    refine lv_iload F.1 F.2.1 dX19_sendNew_77 (lv_at hl 0 rfl) ?_
    refine lv_iload_n F.1 F.2.1 dX19_sendNew_79 rfl (lv_at hl 4 rfl) ?_
    refine lv_icmp_ne (tgt := 93) F.1 F.2.1 dX19_sendNew_80 (by decide) (fun c2 => ?_) (fun c2 => ?_)
    · replace h := zi_t c2 h
      exact bX19_sendNew_93 hst F hA E  x0 x1 s0 hx0 hx1 hr (lv_sub hl [1, 2, 0] rfl) h
    · replace h := zi_f (fun q => q c2) h
      refine lv_iload_n F.1 F.2.1 dX19_sendNew_83 rfl (lv_at hl 3 rfl) ?_
      refine lv_iload F.1 F.2.1 dX19_sendNew_84 (lv_at hl 0 rfl) ?_
      refine lv_icmp_le (tgt := 93) F.1 F.2.1 dX19_sendNew_86 (by decide) (fun c3 => ?_) (fun c3 => ?_)
      · replace h := zi_t c3 h
        exact bX19_sendNew_93 hst F hA E  x0 x1 s0 hx0 hx1 hr (lv_sub hl [1, 2, 0] rfl) h
      · replace h := zi_f c3 h
        refine lv_iconst (v := (1 : Int32)) F.1 F.2.1 dX19_sendNew_89 (by decide) ?_
        refine lv_goto (tgt := 94) F.1 F.2.1 dX19_sendNew_90 (by decide) ?_
        exact bX19_sendNew_94 hst F hA E  x0 x1 s0 (1 : Int32) hx0 hx1 hr (lv_sub hl [1, 2, 0] rfl) h
def fX19_sendNew_54 (N : Nat)  (x0 : Nat) (x1 : Nat) (x2 : Int32) (x3 : Int32) (s0 : Int32) (z : St) : Option (Int32 × St) := if x2 ≤ s0 then (fX19_sendNew_68 N x0 x1 x2 x3 x2 z) else (fX19_sendNew_68 N x0 x1 x2 x3 s0 z)
set_option maxHeartbeats 4000000 in
set_option maxRecDepth 100000 in
theorem bX19_sendNew_54 (hst : zSt B ids) (F : zFx p m c cX19_sendNew 7 s args RX19 D cy B ids A) (hA : ∀ q : Nat, s.heap.size ≤ q → A q) {r : Int32} {z' : St} (E : zEnd p l e rmX19_sendNew s m args below meth c cX19_sendNew D cy B ids A Q (some (.int r)) z' .ireturn True) {N : Nat}  (x0 : Nat) (x1 : Nat) (x2 : Int32) (x3 : Int32) (s0 : Int32) (hx0 : (19, x0) ∈ ids) (hx1 : (14, x1) ∈ ids) {z : St} {H : Heap} {locs : List Loc} {ls : Array Slot} (hr : zRep D cy B ids A s.heap z H locs) (hl : lv_has ls 7 [(0, .ref (B 19 x0)), (1, .ref (B 14 x1)), (2, .int x2), (3, .int x3)]) (h : fX19_sendNew_54 N x0 x1 x2 x3 s0 z = some (r, z')) : W p l e rmX19_sendNew s m args below meth c H locs 0 0 Q (F0 m 54 ls [.int s0]) := by
  unfold fX19_sendNew_54 at h
  refine lv_istore (lv' := [(4, .int s0), (0, .ref (B 19 x0)), (1, .ref (B 14 x1)), (2, .int x2), (3, .int x3)]) F.1 F.2.1 dX19_sendNew_54 hl (by decide) rfl (fun ls hl => ?_)
  refine lv_iload F.1 F.2.1 dX19_sendNew_56 (lv_at hl 0 rfl) ?_
  refine lv_iload_n F.1 F.2.1 dX19_sendNew_58 rfl (lv_at hl 3 rfl) ?_
  refine lv_icmp_ge (tgt := 67) F.1 F.2.1 dX19_sendNew_59 (by decide) (fun c1 => ?_) (fun c1 => ?_)
  · replace h := zi_t c1 h
    refine lv_iload_n F.1 F.2.1 dX19_sendNew_67 rfl (lv_at hl 3 rfl) ?_
    exact bX19_sendNew_68 hst F hA E  x0 x1 x2 x3 x2 hx0 hx1 hr (lv_sub hl [1, 2, 3, 4] rfl) h
  · replace h := zi_f c1 h
    refine lv_iload F.1 F.2.1 dX19_sendNew_62 (lv_at hl 0 rfl) ?_
    refine lv_goto (tgt := 68) F.1 F.2.1 dX19_sendNew_64 (by decide) ?_
    exact bX19_sendNew_68 hst F hA E  x0 x1 x2 x3 s0 hx0 hx1 hr (lv_sub hl [1, 2, 3, 4] rfl) h
def fX19_sendNew (N : Nat)  (x0 : Nat) (x1 : Nat) (z : St) : Option (Int32 × St) := zl (((zgI z 14 6 x1) + (zgI z 14 11 x1)) - (zgI z 14 7 x1)) fun v1 => zc (fX14_hasNew N x1 z) fun r2 z3 => if r2 = 0 then (some ((-1 : Int32), z3)) else (if 0 < v1 then (zl ((zgI z3 14 8 x1) - (zgI z3 14 7 x1)) fun v8 => if (zgI z3 14 15 x1) ≤ v8 then (fX19_sendNew_54 N x0 x1 v1 v8 (zgI z3 14 15 x1) z3) else (fX19_sendNew_54 N x0 x1 v1 v8 v8 z3)) else (some ((-1 : Int32), z3)))
set_option maxHeartbeats 4000000 in
set_option maxRecDepth 100000 in
theorem bX19_sendNew_0 (hst : zSt B ids) (F : zFx p m c cX19_sendNew 7 s args RX19 D cy B ids A) (hA : ∀ q : Nat, s.heap.size ≤ q → A q) {r : Int32} {z' : St} (E : zEnd p l e rmX19_sendNew s m args below meth c cX19_sendNew D cy B ids A Q (some (.int r)) z' .ireturn True) {N : Nat}  (x0 : Nat) (x1 : Nat) (hx0 : (19, x0) ∈ ids) (hx1 : (14, x1) ∈ ids) {z : St} {H : Heap} {locs : List Loc} {ls : Array Slot} (hr : zRep D cy B ids A s.heap z H locs) (hl : lv_has ls 7 [(0, .ref (B 19 x0)), (1, .ref (B 14 x1))]) (h : fX19_sendNew N x0 x1 z = some (r, z')) : W p l e rmX19_sendNew s m args below meth c H locs 0 0 Q (F0 m 0 ls []) := by
  unfold fX19_sendNew at h
  refine lv_aload_n F.1 F.2.1 dX19_sendNew_0 rfl (lv_at hl 1 rfl) ?_
  refine gf19_646 F hx1 hr dX19_sendNew_1 ?_
  refine lv_aload_n F.1 F.2.1 dX19_sendNew_4 rfl (lv_at hl 1 rfl) ?_
  refine gf19_582 F hx1 hr dX19_sendNew_5 ?_
  refine lv_iadd F.1 F.2.1 dX19_sendNew_8 ?_
  refine lv_aload_n F.1 F.2.1 dX19_sendNew_9 rfl (lv_at hl 1 rfl) ?_
  refine gf19_600 F hx1 hr dX19_sendNew_10 ?_
  refine lv_isub F.1 F.2.1 dX19_sendNew_13 ?_
  refine lv_topi (fun v1 ev1 => ?_)
  replace h := zl_sub ev1 h
  refine lv_istore_n (lv' := [(2, .int v1), (0, .ref (B 19 x0)), (1, .ref (B 14 x1))]) F.1 F.2.1 dX19_sendNew_14 rfl hl (by decide) rfl (fun ls hl => ?_)
  refine lv_aload_n F.1 F.2.1 dX19_sendNew_15 rfl (lv_at hl 2 rfl) ?_
  replace h := zc_some h
  obtain ⟨r2, z3, hc4, h⟩ := h
  refine zr_calli (zrun_VN (As := []) (rest := []) zn_2960 zq_2962 zs_X14_hasNew zq_2963 zq_21 hdX14_hasNew (by decide) (T := TX14) (N := 47) rfl (okX14_hasNew l D cy B ids hst N x1 hx1 hr.2.2 hc4) F hr hx1 hl.1 rfl (by decide) dX19_sendNew_16 rfl rfl hroX19_sendNew_X14_hasNew ⟨Nat.zero_le _, Nat.zero_le _⟩) F hA hr (fun H locs hw5 hr => ?_)
  clear hc4
  refine lv_if_eq (tgt := 26) F.1 F.2.1 dX19_sendNew_19 (by decide) (fun c6 => ?_) (fun c6 => ?_)
  · replace h := zi_t c6 h
    refine lv_iconst (v := (-1 : Int32)) F.1 F.2.1 dX19_sendNew_26 (by decide) ?_
    obtain ⟨rfl, rfl⟩ := zret h
    exact E _ _ _ _ dX19_sendNew_27 trivial hr
  · replace h := zi_f c6 h
    refine lv_iload_n F.1 F.2.1 dX19_sendNew_22 rfl (lv_at hl 0 rfl) ?_
    refine lv_if_gt (tgt := 28) F.1 F.2.1 dX19_sendNew_23 (by decide) (fun c7 => ?_) (fun c7 => ?_)
    · replace h := zi_t c7 h
      refine lv_aload_n F.1 F.2.1 dX19_sendNew_28 rfl (lv_at hl 2 rfl) ?_
      refine gf19_658 F hx1 hr dX19_sendNew_29 ?_
      refine lv_aload_n F.1 F.2.1 dX19_sendNew_32 rfl (lv_at hl 2 rfl) ?_
      refine gf19_600 F hx1 hr dX19_sendNew_33 ?_
      refine lv_isub F.1 F.2.1 dX19_sendNew_36 ?_
      refine lv_topi (fun v8 ev8 => ?_)
      replace h := zl_sub ev8 h
      refine lv_istore_n (lv' := [(3, .int v8), (2, .int v1), (0, .ref (B 19 x0)), (1, .ref (B 14 x1))]) F.1 F.2.1 dX19_sendNew_37 rfl hl (by decide) rfl (fun ls hl => ?_)
      refine lv_iload_n F.1 F.2.1 dX19_sendNew_38 rfl (lv_at hl 0 rfl) ?_
      refine lv_aload_n F.1 F.2.1 dX19_sendNew_39 rfl (lv_at hl 3 rfl) ?_
      refine gf19_579 F hx1 hr dX19_sendNew_40 ?_
      refine lv_icmp_ge (tgt := 50) F.1 F.2.1 dX19_sendNew_43 (by decide) (fun c9 => ?_) (fun c9 => ?_)
      · replace h := zi_t c9 h
        refine lv_aload_n F.1 F.2.1 dX19_sendNew_50 rfl (lv_at hl 3 rfl) ?_
        refine gf19_579 F hx1 hr dX19_sendNew_51 ?_
        exact bX19_sendNew_54 hst F hA E  x0 x1 v1 v8 (zgI z3 14 15 x1) hx0 hx1 hr (lv_sub hl [2, 3, 1, 0] rfl) h
      · replace h := zi_f c9 h
        refine lv_iload_n F.1 F.2.1 dX19_sendNew_46 rfl (lv_at hl 0 rfl) ?_
        refine lv_goto (tgt := 54) F.1 F.2.1 dX19_sendNew_47 (by decide) ?_
        exact bX19_sendNew_54 hst F hA E  x0 x1 v1 v8 v8 hx0 hx1 hr (lv_sub hl [2, 3, 1, 0] rfl) h
    · replace h := zi_f c7 h
      refine lv_iconst (v := (-1 : Int32)) F.1 F.2.1 dX19_sendNew_26 (by decide) ?_
      obtain ⟨rfl, rfl⟩ := zret h
      exact E _ _ _ _ dX19_sendNew_27 trivial hr
end SX19_sendNew
set_option maxRecDepth 100000 in
theorem okX19_sendNew (l : Launch) (D : va_G) (cy : Nat → ClassId) (B : Nat → Nat → Nat) (ids : List (Nat × Nat)) (hst : zSt B ids) (N : Nat) (x0 : Nat) (hx0 : (19, x0) ∈ ids) (x1 : Nat) (hx1 : (14, x1) ∈ ids) {z : St} {r : Int32} {z' : St} (hW : zWf ids z) (h : fX19_sendNew N x0 x1 z = some (r, z')) : zM l yX19_sendNew (zws yX19_sendNew cX19_sendNew 7 (some .int)) rmX19_sendNew D cy B ids [.ref (B 19 x0), .ref (B 14 x1)] (some (.int r)) True z z' :=
  zM_of hst hW (by decide +kernel) (Nat.le_of_ble_eq_true rfl) (fun p e s m args below meth c A ls F hA hret hlocks hr hl => bX19_sendNew_0 hst F hA (zEnd_i F hret hlocks) x0 x1 hx0 hx1 hr hl h)
abbrev rmX19_sendOpen : Room := { frames := 3, cells := 0, slots := 0, locals := 73 }
theorem hdX19_sendOpen : yX19_sendOpen.cls ≠ "java/lang/invoke/MethodHandle" ∧ yX19_sendOpen.cls ≠ "java/lang/invoke/VarHandle" ∧ (parseMethodDescriptor yX19_sendOpen.desc).map (fun d => d.parameters.length) = some 1 := by decide +kernel
theorem hroX19_sendOpen_X14_setAlarm : rmX14_setAlarm.frames + 1 ≤ rmX19_sendOpen.frames ∧ 8 + (2 + 11) + rmX14_setAlarm.locals ≤ rmX19_sendOpen.locals := by decide
theorem hroX19_sendOpen_X19_setSeg : rmX19_setSeg.frames + 1 ≤ rmX19_sendOpen.frames ∧ 8 + (4 + 11) + rmX19_setSeg.locals ≤ rmX19_sendOpen.locals := by decide
theorem hroX19_sendOpen_X19_toldBy : rmX19_toldBy.frames + 1 ≤ rmX19_sendOpen.frames ∧ 8 + (7 + 11) + rmX19_toldBy.locals ≤ rmX19_sendOpen.locals := by decide
section SX19_sendOpen
variable {p : Program} {l : Launch} {e : Env} {s : State} {m : MethodId} {args : Array Value} {below : List Frame} {meth : Method} {c : Code} {Q : State → Prop} {D : va_G} {cy : Nat → ClassId} {B : Nat → Nat → Nat} {ids : List (Nat × Nat)} {A : Nat → Prop}
def fX19_sendOpen_111 (N : Nat)  (x0 : Nat) (x1 : Nat) (x2 : Int32) (z : St) : Option (Int32 × St) := zl (zsI z 14 29 x1 (1 : Int32)) fun z1 => if ¬ (zgI z1 14 33 x1) = 0 then (some (x2, z1)) else (zc (fX14_setAlarm N x1 (zgI z1 19 24 x0) z1) fun _ z4 => some (x2, z4))
set_option maxHeartbeats 4000000 in
set_option maxRecDepth 100000 in
theorem bX19_sendOpen_111 (hst : zSt B ids) (F : zFx p m c cX19_sendOpen 3 s args RX19 D cy B ids A) (hA : ∀ q : Nat, s.heap.size ≤ q → A q) {r : Int32} {z' : St} (E : zEnd p l e rmX19_sendOpen s m args below meth c cX19_sendOpen D cy B ids A Q (some (.int r)) z' .ireturn True) {N : Nat}  (x0 : Nat) (x1 : Nat) (x2 : Int32) (hx0 : (19, x0) ∈ ids) (hx1 : (14, x1) ∈ ids) {z : St} {H : Heap} {locs : List Loc} {ls : Array Slot} (hr : zRep D cy B ids A s.heap z H locs) (hl : lv_has ls 3 [(0, .ref (B 19 x0)), (1, .ref (B 14 x1)), (2, .int x2)]) (h : fX19_sendOpen_111 N x0 x1 x2 z = some (r, z')) : W p l e rmX19_sendOpen s m args below meth c H locs 0 0 Q (F0 m 111 ls []) := by
  unfold fX19_sendOpen_111 at h
  refine lv_aload_n F.1 F.2.1 dX19_sendOpen_111 rfl (lv_at hl 1 rfl) ?_
  refine lv_iconst (v := (1 : Int32)) F.1 F.2.1 dX19_sendOpen_112 (by decide) ?_
  refine pf19_735 F hx1 hr dX19_sendOpen_113 (1 : Int32) (by decide) (fun H locs z1 ez1 hr => ?_)
  replace h := zl_sub ez1 h
  clear ez1
  refine lv_aload_n F.1 F.2.1 dX19_sendOpen_116 rfl (lv_at hl 1 rfl) ?_
  refine gf19_655 F hx1 hr dX19_sendOpen_117 ?_
  refine lv_if_ne (tgt := 131) F.1 F.2.1 dX19_sendOpen_120 (by decide) (fun c2 => ?_) (fun c2 => ?_)
  · replace h := zi_t c2 h
    refine lv_iload_n F.1 F.2.1 dX19_sendOpen_131 rfl (lv_at hl 2 rfl) ?_
    obtain ⟨rfl, rfl⟩ := zret h
    exact E _ _ _ _ dX19_sendOpen_132 trivial hr
  · replace h := zi_f (fun q => q c2) h
    refine lv_aload_n F.1 F.2.1 dX19_sendOpen_123 rfl (lv_at hl 1 rfl) ?_
    refine lv_aload_n F.1 F.2.1 dX19_sendOpen_124 rfl (lv_at hl 0 rfl) ?_
    refine gf19_143 F hx0 hr dX19_sendOpen_125 ?_
    replace h := zc_some h
    obtain ⟨r3, z4, hc5, h⟩ := h
    refine zr_callv (zrun_VN (As := [.int (zgI z1 19 24 x0)]) (rest := []) zn_2951 zq_2700 zs_X14_setAlarm zq_2701 zq_21 hdX14_setAlarm (by decide) (T := TX14) (N := 47) rfl (okX14_setAlarm l D cy B ids hst N x1 hx1 (zgI z1 19 24 x0)  hr.2.2 hc5) F hr hx1 hl.1 rfl (by decide) dX19_sendOpen_128 rfl rfl hroX19_sendOpen_X14_setAlarm ⟨Nat.zero_le _, Nat.zero_le _⟩) F hA hr (fun H locs hw6 hr => ?_)
    clear hc5
    refine lv_iload_n F.1 F.2.1 dX19_sendOpen_131 rfl (lv_at hl 2 rfl) ?_
    obtain ⟨rfl, rfl⟩ := zret h
    exact E _ _ _ _ dX19_sendOpen_132 trivial hr
def fX19_sendOpen (N : Nat)  (x0 : Nat) (x1 : Nat) (z : St) : Option (Int32 × St) := zl (zsI z 14 28 x1 (0 : Int32)) fun z1 => zc (fX19_toldBy N x0 x1 (1 : Int32) (zgI z1 14 5 x1) (0 : Int32) z1) fun r2 z3 => zc (fX19_setSeg N x0 r2 (6 : Int32) (zgI z3 14 14 x1) z3) fun _ z7 => zc (fX19_setSeg N x0 r2 (8 : Int32) (zgI z7 14 44 x1) z7) fun _ z11 => zk (zgI z11 14 44 x1) 2592 <| zc (fX19_setSeg N x0 r2 (9 : Int32) (zgA z11 184 x0 (Int32.toNatClampNeg (zgI z11 14 44 x1))) z11) fun _ z16 => zk (zgI z16 14 44 x1) 2592 <| zk (zgI z16 14 44 x1) 2592 <| zl (zsA z16 183 x0 (Int32.toNatClampNeg (zgI z16 14 44 x1)) ((zgA z16 183 x0 (Int32.toNatClampNeg (zgI z16 14 44 x1))) + (1 : Int32))) fun z21 => if (zgI z21 14 29 x1) = 0 then (if ¬ (zgI z21 14 37 x1) = 0 then (fX19_sendOpen_111 N x0 x1 r2 z21) else (zl (zsI z21 14 37 x1 (1 : Int32)) fun z24 => zl (zsI z24 14 38 x1 (zgI z24 14 7 x1)) fun z25 => zl (zsI z25 14 39 x1 (zgI z25 19 24 x0)) fun z26 => fX19_sendOpen_111 N x0 x1 r2 z26)) else (zl (zsI z21 14 37 x1 (0 : Int32)) fun z27 => fX19_sendOpen_111 N x0 x1 r2 z27)
set_option maxHeartbeats 4000000 in
set_option maxRecDepth 100000 in
theorem bX19_sendOpen_0 (hst : zSt B ids) (F : zFx p m c cX19_sendOpen 3 s args RX19 D cy B ids A) (hA : ∀ q : Nat, s.heap.size ≤ q → A q) {r : Int32} {z' : St} (E : zEnd p l e rmX19_sendOpen s m args below meth c cX19_sendOpen D cy B ids A Q (some (.int r)) z' .ireturn True) {N : Nat}  (x0 : Nat) (x1 : Nat) (hx0 : (19, x0) ∈ ids) (hx1 : (14, x1) ∈ ids) {z : St} {H : Heap} {locs : List Loc} {ls : Array Slot} (hr : zRep D cy B ids A s.heap z H locs) (hl : lv_has ls 3 [(0, .ref (B 19 x0)), (1, .ref (B 14 x1))]) (h : fX19_sendOpen N x0 x1 z = some (r, z')) : W p l e rmX19_sendOpen s m args below meth c H locs 0 0 Q (F0 m 0 ls []) := by
  unfold fX19_sendOpen at h
  refine lv_aload_n F.1 F.2.1 dX19_sendOpen_0 rfl (lv_at hl 1 rfl) ?_
  refine lv_iconst (v := (0 : Int32)) F.1 F.2.1 dX19_sendOpen_1 (by decide) ?_
  refine pf19_613 F hx1 hr dX19_sendOpen_2 (0 : Int32) (by decide) (fun H locs z1 ez1 hr => ?_)
  replace h := zl_sub ez1 h
  clear ez1
  refine lv_aload_n F.1 F.2.1 dX19_sendOpen_5 rfl (lv_at hl 0 rfl) ?_
  refine lv_aload_n F.1 F.2.1 dX19_sendOpen_6 rfl (lv_at hl 1 rfl) ?_
  refine lv_iconst (v := (1 : Int32)) F.1 F.2.1 dX19_sendOpen_7 (by decide) ?_
  refine lv_aload_n F.1 F.2.1 dX19_sendOpen_8 rfl (lv_at hl 1 rfl) ?_
  refine gf19_588 F hx1 hr dX19_sendOpen_9 ?_
  refine lv_iconst (v := (0 : Int32)) F.1 F.2.1 dX19_sendOpen_12 (by decide) ?_
  replace h := zc_some h
  obtain ⟨r2, z3, hc4, h⟩ := h
  refine zr_calli (zrun_V (As := [.ref (B 14 x1), .int (1 : Int32), .int (zgI z1 14 5 x1), .int (0 : Int32)]) (rest := []) zq_2941 zq_2943 zs_X19_toldBy zq_2944 zq_4 hdX19_toldBy (by decide) (T := TX19) (N := 32) rfl (okX19_toldBy l D cy B ids hst N x0 hx0 x1 hx1 (1 : Int32)  (zgI z1 14 5 x1)  (0 : Int32)  hr.2.2 hc4) F hr hx0 hl.1 rfl (by decide) dX19_sendOpen_13 rfl rfl hroX19_sendOpen_X19_toldBy ⟨Nat.zero_le _, Nat.zero_le _⟩) F hA hr (fun H locs hw5 hr => ?_)
  clear hc4
  refine lv_istore_n (lv' := [(2, .int r2), (0, .ref (B 19 x0)), (1, .ref (B 14 x1))]) F.1 F.2.1 dX19_sendOpen_16 rfl hl (by decide) rfl (fun ls hl => ?_)
  refine lv_aload_n F.1 F.2.1 dX19_sendOpen_17 rfl (lv_at hl 1 rfl) ?_
  refine lv_iload_n F.1 F.2.1 dX19_sendOpen_18 rfl (lv_at hl 0 rfl) ?_
  refine lv_bipush (v := (6 : Int32)) F.1 F.2.1 dX19_sendOpen_19 (by decide) ?_
  refine lv_aload_n F.1 F.2.1 dX19_sendOpen_21 rfl (lv_at hl 2 rfl) ?_
  refine gf19_576 F hx1 hr dX19_sendOpen_22 ?_
  replace h := zc_some h
  obtain ⟨r6, z7, hc8, h⟩ := h
  refine zr_callv (zrun_V (As := [.int r2, .int (6 : Int32), .int (zgI z3 14 14 x1)]) (rest := []) zq_2757 zq_2759 zs_X19_setSeg zq_2760 zq_4 hdX19_setSeg (by decide) (T := TX19) (N := 32) rfl (okX19_setSeg l D cy B ids hst N x0 hx0 r2  (6 : Int32)  (zgI z3 14 14 x1)  hr.2.2 hc8) F hr hx0 hl.1 rfl (by decide) dX19_sendOpen_25 rfl rfl hroX19_sendOpen_X19_setSeg ⟨Nat.zero_le _, Nat.zero_le _⟩) F hA hr (fun H locs hw9 hr => ?_)
  clear hc8
  refine lv_aload_n F.1 F.2.1 dX19_sendOpen_28 rfl (lv_at hl 1 rfl) ?_
  refine lv_iload_n F.1 F.2.1 dX19_sendOpen_29 rfl (lv_at hl 0 rfl) ?_
  refine lv_bipush (v := (8 : Int32)) F.1 F.2.1 dX19_sendOpen_30 (by decide) ?_
  refine lv_aload_n F.1 F.2.1 dX19_sendOpen_32 rfl (lv_at hl 2 rfl) ?_
  refine gf19_732 F hx1 hr dX19_sendOpen_33 ?_
  replace h := zc_some h
  obtain ⟨r10, z11, hc12, h⟩ := h
  refine zr_callv (zrun_V (As := [.int r2, .int (8 : Int32), .int (zgI z7 14 44 x1)]) (rest := []) zq_2757 zq_2759 zs_X19_setSeg zq_2760 zq_4 hdX19_setSeg (by decide) (T := TX19) (N := 32) rfl (okX19_setSeg l D cy B ids hst N x0 hx0 r2  (8 : Int32)  (zgI z7 14 44 x1)  hr.2.2 hc12) F hr hx0 hl.1 rfl (by decide) dX19_sendOpen_36 rfl rfl hroX19_sendOpen_X19_setSeg ⟨Nat.zero_le _, Nat.zero_le _⟩) F hA hr (fun H locs hw13 hr => ?_)
  clear hc12
  refine lv_aload_n F.1 F.2.1 dX19_sendOpen_39 rfl (lv_at hl 1 rfl) ?_
  refine lv_iload_n F.1 F.2.1 dX19_sendOpen_40 rfl (lv_at hl 0 rfl) ?_
  refine lv_bipush (v := (9 : Int32)) F.1 F.2.1 dX19_sendOpen_41 (by decide) ?_
  refine lv_aload_n F.1 F.2.1 dX19_sendOpen_43 rfl (lv_at hl 1 rfl) ?_
  refine gf19_96 F hx0 hr dX19_sendOpen_44 ?_
  refine lv_aload_n F.1 F.2.1 dX19_sendOpen_47 rfl (lv_at hl 2 rfl) ?_
  refine gf19_732 F hx1 hr dX19_sendOpen_48 ?_
  replace h := zk_some h
  obtain ⟨c14, h⟩ := h
  refine zr_iald (k := 184) (by decide) rfl (by decide) F (zal_a F hx0 (j := 15) rfl) hr dX19_sendOpen_51 c14 ?_
  replace h := zc_some h
  obtain ⟨r15, z16, hc17, h⟩ := h
  refine zr_callv (zrun_V (As := [.int r2, .int (9 : Int32), .int (zgA z11 184 x0 (Int32.toNatClampNeg (zgI z11 14 44 x1)))]) (rest := []) zq_2757 zq_2759 zs_X19_setSeg zq_2760 zq_4 hdX19_setSeg (by decide) (T := TX19) (N := 32) rfl (okX19_setSeg l D cy B ids hst N x0 hx0 r2  (9 : Int32)  (zgA z11 184 x0 (Int32.toNatClampNeg (zgI z11 14 44 x1)))  hr.2.2 hc17) F hr hx0 hl.1 rfl (by decide) dX19_sendOpen_52 rfl rfl hroX19_sendOpen_X19_setSeg ⟨Nat.zero_le _, Nat.zero_le _⟩) F hA hr (fun H locs hw18 hr => ?_)
  clear hc17
  refine lv_aload_n F.1 F.2.1 dX19_sendOpen_55 rfl (lv_at hl 1 rfl) ?_
  refine gf19_93 F hx0 hr dX19_sendOpen_56 ?_
  refine lv_aload_n F.1 F.2.1 dX19_sendOpen_59 rfl (lv_at hl 2 rfl) ?_
  refine gf19_732 F hx1 hr dX19_sendOpen_60 ?_
  refine lv_dup2_11 F.1 F.2.1 dX19_sendOpen_63 rfl rfl ?_
  replace h := zk_some h
  obtain ⟨c19, h⟩ := h
  refine zr_iald (k := 183) (by decide) rfl (by decide) F (zal_a F hx0 (j := 14) rfl) hr dX19_sendOpen_64 c19 ?_
  refine lv_iconst (v := (1 : Int32)) F.1 F.2.1 dX19_sendOpen_65 (by decide) ?_
  refine lv_iadd F.1 F.2.1 dX19_sendOpen_66 ?_
  replace h := zk_some h
  obtain ⟨c20, h⟩ := h
  refine zr_iast (k := 183) (by decide) rfl (by decide) F (zal_a F hx0 (j := 14) rfl) hr dX19_sendOpen_67 c20 (fun H locs z21 ez21 hr => ?_)
  replace h := zl_sub ez21 h
  clear ez21
  refine lv_aload_n F.1 F.2.1 dX19_sendOpen_68 rfl (lv_at hl 2 rfl) ?_
  refine gf19_735 F hx1 hr dX19_sendOpen_69 ?_
  refine lv_if_eq (tgt := 83) F.1 F.2.1 dX19_sendOpen_72 (by decide) (fun c22 => ?_) (fun c22 => ?_)
  · replace h := zi_t c22 h
    refine lv_aload_n F.1 F.2.1 dX19_sendOpen_83 rfl (lv_at hl 2 rfl) ?_
    refine gf19_713 F hx1 hr dX19_sendOpen_84 ?_
    refine lv_if_ne (tgt := 111) F.1 F.2.1 dX19_sendOpen_87 (by decide) (fun c23 => ?_) (fun c23 => ?_)
    · replace h := zi_t c23 h
      exact bX19_sendOpen_111 hst F hA E  x0 x1 r2 hx0 hx1 hr (lv_sub hl [1, 2, 0] rfl) h
    · replace h := zi_f (fun q => q c23) h
      refine lv_aload_n F.1 F.2.1 dX19_sendOpen_90 rfl (lv_at hl 2 rfl) ?_
      refine lv_iconst (v := (1 : Int32)) F.1 F.2.1 dX19_sendOpen_91 (by decide) ?_
      refine pf19_713 F hx1 hr dX19_sendOpen_92 (1 : Int32) (by decide) (fun H locs z24 ez24 hr => ?_)
      replace h := zl_sub ez24 h
      clear ez24
      refine lv_aload_n F.1 F.2.1 dX19_sendOpen_95 rfl (lv_at hl 2 rfl) ?_
      refine lv_aload_n F.1 F.2.1 dX19_sendOpen_96 rfl (lv_at hl 2 rfl) ?_
      refine gf19_600 F hx1 hr dX19_sendOpen_97 ?_
      refine pf19_738 F hx1 hr dX19_sendOpen_100 (zgI z24 14 7 x1) (fun H locs z25 ez25 hr => ?_)
      replace h := zl_sub ez25 h
      clear ez25
      refine lv_aload_n F.1 F.2.1 dX19_sendOpen_103 rfl (lv_at hl 2 rfl) ?_
      refine lv_aload_n F.1 F.2.1 dX19_sendOpen_104 rfl (lv_at hl 1 rfl) ?_
      refine gf19_143 F hx0 hr dX19_sendOpen_105 ?_
      refine pf19_741 F hx1 hr dX19_sendOpen_108 (zgI z25 19 24 x0) (fun H locs z26 ez26 hr => ?_)
      replace h := zl_sub ez26 h
      clear ez26
      exact bX19_sendOpen_111 hst F hA E  x0 x1 r2 hx0 hx1 hr (lv_sub hl [1, 2, 0] rfl) h
  · replace h := zi_f c22 h
    refine lv_aload_n F.1 F.2.1 dX19_sendOpen_75 rfl (lv_at hl 2 rfl) ?_
    refine lv_iconst (v := (0 : Int32)) F.1 F.2.1 dX19_sendOpen_76 (by decide) ?_
    refine pf19_713 F hx1 hr dX19_sendOpen_77 (0 : Int32) (by decide) (fun H locs z27 ez27 hr => ?_)
    replace h := zl_sub ez27 h
    clear ez27
    refine lv_goto (tgt := 111) F.1 F.2.1 dX19_sendOpen_80 (by decide) ?_
    exact bX19_sendOpen_111 hst F hA E  x0 x1 r2 hx0 hx1 hr (lv_sub hl [1, 2, 0] rfl) h
end SX19_sendOpen
set_option maxRecDepth 100000 in
theorem okX19_sendOpen (l : Launch) (D : va_G) (cy : Nat → ClassId) (B : Nat → Nat → Nat) (ids : List (Nat × Nat)) (hst : zSt B ids) (N : Nat) (x0 : Nat) (hx0 : (19, x0) ∈ ids) (x1 : Nat) (hx1 : (14, x1) ∈ ids) {z : St} {r : Int32} {z' : St} (hW : zWf ids z) (h : fX19_sendOpen N x0 x1 z = some (r, z')) : zM l yX19_sendOpen (zws yX19_sendOpen cX19_sendOpen 3 (some .int)) rmX19_sendOpen D cy B ids [.ref (B 19 x0), .ref (B 14 x1)] (some (.int r)) True z z' :=
  zM_of hst hW (by decide +kernel) (Nat.le_of_ble_eq_true rfl) (fun p e s m args below meth c A ls F hA hret hlocks hr hl => bX19_sendOpen_0 hst F hA (zEnd_i F hret hlocks) x0 x1 hx0 hx1 hr hl h)
abbrev rmX19_send : Room := { frames := 4, cells := 0, slots := 0, locals := 99 }
theorem hdX19_send : yX19_send.cls ≠ "java/lang/invoke/MethodHandle" ∧ yX19_send.cls ≠ "java/lang/invoke/VarHandle" ∧ (parseMethodDescriptor yX19_send.desc).map (fun d => d.parameters.length) = some 1 := by decide +kernel
theorem hroX19_send_X14_hasNew : rmX14_hasNew.frames + 1 ≤ rmX19_send.frames ∧ 8 + (1 + 11) + rmX14_hasNew.locals ≤ rmX19_send.locals := by decide
theorem hroX19_send_X14_isNew : rmX14_isNew.frames + 1 ≤ rmX19_send.frames ∧ 8 + (2 + 11) + rmX14_isNew.locals ≤ rmX19_send.locals := by decide
theorem hroX19_send_X14_lastSent : rmX14_lastSent.frames + 1 ≤ rmX19_send.frames ∧ 8 + (1 + 11) + rmX14_lastSent.locals ≤ rmX19_send.locals := by decide
theorem hroX19_send_X19_isBefore : rmX19_isBefore.frames + 1 ≤ rmX19_send.frames ∧ 8 + (2 + 11) + rmX19_isBefore.locals ≤ rmX19_send.locals := by decide
theorem hroX19_send_X19_newSegment : rmX19_newSegment.frames + 1 ≤ rmX19_send.frames ∧ 8 + (5 + 11) + rmX19_newSegment.locals ≤ rmX19_send.locals := by decide
theorem hroX19_send_X19_sendNew : rmX19_sendNew.frames + 1 ≤ rmX19_send.frames ∧ 8 + (7 + 11) + rmX19_sendNew.locals ≤ rmX19_send.locals := by decide
theorem hroX19_send_X19_sendOpen : rmX19_sendOpen.frames + 1 ≤ rmX19_send.frames ∧ 8 + (3 + 11) + rmX19_sendOpen.locals ≤ rmX19_send.locals := by decide
theorem hroX19_send_X19_setSeg : rmX19_setSeg.frames + 1 ≤ rmX19_send.frames ∧ 8 + (4 + 11) + rmX19_setSeg.locals ≤ rmX19_send.locals := by decide
theorem hroX19_send_X19_toldBy : rmX19_toldBy.frames + 1 ≤ rmX19_send.frames ∧ 8 + (7 + 11) + rmX19_toldBy.locals ≤ rmX19_send.locals := by decide
section SX19_send
variable {p : Program} {l : Launch} {e : Env} {s : State} {m : MethodId} {args : Array Value} {below : List Frame} {meth : Method} {c : Code} {Q : State → Prop} {D : va_G} {cy : Nat → ClassId} {B : Nat → Nat → Nat} {ids : List (Nat × Nat)} {A : Nat → Prop}
def fX19_send_127 (N : Nat)  (x1 : Nat) (x3 : Int32) (s0 : Nat) (s1 : Nat) (s2 : Int32) (z : St) : Option (Int32 × St) := zc (fX19_toldBy N s0 s1 s2 (zgI z 14 6 x1) x3 z) fun r1 z2 => some (r1, z2)
set_option maxHeartbeats 4000000 in
set_option maxRecDepth 100000 in
theorem bX19_send_127 (hst : zSt B ids) (F : zFx p m c cX19_send 5 s args RX19 D cy B ids A) (hA : ∀ q : Nat, s.heap.size ≤ q → A q) {r : Int32} {z' : St} (E : zEnd p l e rmX19_send s m args below meth c cX19_send D cy B ids A Q (some (.int r)) z' .ireturn True) {N : Nat}  (x1 : Nat) (x3 : Int32) (s0 : Nat) (s1 : Nat) (s2 : Int32) (hx1 : (14, x1) ∈ ids) (hs0 : (19, s0) ∈ ids) (hs1 : (14, s1) ∈ ids) {z : St} {H : Heap} {locs : List Loc} {ls : Array Slot} (hr : zRep D cy B ids A s.heap z H locs) (hl : lv_has ls 5 [(1, .ref (B 14 x1)), (3, .int x3)]) (h : fX19_send_127 N x1 x3 s0 s1 s2 z = some (r, z')) : W p l e rmX19_send s m args below meth c H locs 0 0 Q (F0 m 127 ls [.int s2, .ref (B 14 s1), .ref (B 19 s0)]) := by
  unfold fX19_send_127 at h
  refine lv_aload_n F.1 F.2.1 dX19_send_127 rfl (lv_at hl 0 rfl) ?_
  refine gf19_646 F hx1 hr dX19_send_128 ?_
  refine lv_iload_n F.1 F.2.1 dX19_send_131 rfl (lv_at hl 1 rfl) ?_
  replace h := zc_some h
  obtain ⟨r1, z2, hc3, h⟩ := h
  refine zr_calli (zrun_V (As := [.ref (B 14 s1), .int s2, .int (zgI z 14 6 x1), .int x3]) (rest := []) zq_2941 zq_2943 zs_X19_toldBy zq_2944 zq_4 hdX19_toldBy (by decide) (T := TX19) (N := 32) rfl (okX19_toldBy l D cy B ids hst N s0 hs0 s1 hs1 s2  (zgI z 14 6 x1)  x3  hr.2.2 hc3) F hr hs0 hl.1 rfl (by decide) dX19_send_132 rfl rfl hroX19_send_X19_toldBy ⟨Nat.zero_le _, Nat.zero_le _⟩) F hA hr (fun H locs hw4 hr => ?_)
  clear hc3
  obtain ⟨rfl, rfl⟩ := zret h
  exact E _ _ _ _ dX19_send_135 trivial hr
def fX19_send_126 (N : Nat)  (x1 : Nat) (x3 : Int32) (s0 : Nat) (s1 : Nat) (z : St) : Option (Int32 × St) := fX19_send_127 N x1 x3 s0 s1 (0 : Int32) z
set_option maxHeartbeats 4000000 in
set_option maxRecDepth 100000 in
theorem bX19_send_126 (hst : zSt B ids) (F : zFx p m c cX19_send 5 s args RX19 D cy B ids A) (hA : ∀ q : Nat, s.heap.size ≤ q → A q) {r : Int32} {z' : St} (E : zEnd p l e rmX19_send s m args below meth c cX19_send D cy B ids A Q (some (.int r)) z' .ireturn True) {N : Nat}  (x1 : Nat) (x3 : Int32) (s0 : Nat) (s1 : Nat) (hx1 : (14, x1) ∈ ids) (hs0 : (19, s0) ∈ ids) (hs1 : (14, s1) ∈ ids) {z : St} {H : Heap} {locs : List Loc} {ls : Array Slot} (hr : zRep D cy B ids A s.heap z H locs) (hl : lv_has ls 5 [(1, .ref (B 14 x1)), (3, .int x3)]) (h : fX19_send_126 N x1 x3 s0 s1 z = some (r, z')) : W p l e rmX19_send s m args below meth c H locs 0 0 Q (F0 m 126 ls [.ref (B 14 s1), .ref (B 19 s0)]) := by
  unfold fX19_send_126 at h
  refine lv_iconst (v := (0 : Int32)) F.1 F.2.1 dX19_send_126 (by decide) ?_
  exact bX19_send_127 hst F hA E  x1 x3 s0 s1 (0 : Int32) hx1 hs0 hs1 hr (lv_sub hl [0, 1] rfl) h
def fX19_send_107 (N : Nat)  (x0 : Nat) (x1 : Nat) (x2 : Int32) (s0 : Int32) (z : St) : Option (Int32 × St) := zc (fX14_lastSent N x1 z) fun r1 z2 => if r1 = 0 then (fX19_send_126 N x1 s0 x0 x1 z2) else (if ¬ s0 = x2 then (fX19_send_126 N x1 s0 x0 x1 z2) else (fX19_send_127 N x1 s0 x0 x1 (2 : Int32) z2))
set_option maxHeartbeats 4000000 in
set_option maxRecDepth 100000 in
theorem bX19_send_107 (hst : zSt B ids) (F : zFx p m c cX19_send 5 s args RX19 D cy B ids A) (hA : ∀ q : Nat, s.heap.size ≤ q → A q) {r : Int32} {z' : St} (E : zEnd p l e rmX19_send s m args below meth c cX19_send D cy B ids A Q (some (.int r)) z' .ireturn True) {N : Nat}  (x0 : Nat) (x1 : Nat) (x2 : Int32) (s0 : Int32) (hx0 : (19, x0) ∈ ids) (hx1 : (14, x1) ∈ ids) {z : St} {H : Heap} {locs : List Loc} {ls : Array Slot} (hr : zRep D cy B ids A s.heap z H locs) (hl : lv_has ls 5 [(0, .ref (B 19 x0)), (1, .ref (B 14 x1)), (2, .int x2)]) (h : fX19_send_107 N x0 x1 x2 s0 z = some (r, z')) : W p l e rmX19_send s m args below meth c H locs 0 0 Q (F0 m 107 ls [.int s0]) := by
  unfold fX19_send_107 at h
  refine lv_istore_n (lv' := [(3, .int s0), (0, .ref (B 19 x0)), (1, .ref (B 14 x1)), (2, .int x2)]) F.1 F.2.1 dX19_send_107 rfl hl (by decide) rfl (fun ls hl => ?_)
  refine lv_aload_n F.1 F.2.1 dX19_send_108 rfl (lv_at hl 1 rfl) ?_
  refine lv_aload_n F.1 F.2.1 dX19_send_109 rfl (lv_at hl 2 rfl) ?_
  refine lv_aload_n F.1 F.2.1 dX19_send_110 rfl (lv_at hl 2 rfl) ?_
  replace h := zc_some h
  obtain ⟨r1, z2, hc3, h⟩ := h
  refine zr_calli (zrun_VN (As := []) (rest := [.ref (B 14 x1), .ref (B 19 x0)]) zn_2952 zq_2954 zs_X14_lastSent zq_2955 zq_21 hdX14_lastSent (by decide) (T := TX14) (N := 47) rfl (okX14_lastSent l D cy B ids hst N x1 hx1 hr.2.2 hc3) F hr hx1 hl.1 rfl (Nat.le_of_ble_eq_true rfl) dX19_send_111 rfl rfl hroX19_send_X14_lastSent ⟨Nat.zero_le _, Nat.zero_le _⟩) F hA hr (fun H locs hw4 hr => ?_)
  clear hc3
  refine lv_if_eq (tgt := 126) F.1 F.2.1 dX19_send_114 (by decide) (fun c5 => ?_) (fun c5 => ?_)
  · replace h := zi_t c5 h
    exact bX19_send_126 hst F hA E  x1 s0 x0 x1 hx1 hx0 hx1 hr (lv_sub hl [2, 0] rfl) h
  · replace h := zi_f c5 h
    refine lv_iload_n F.1 F.2.1 dX19_send_117 rfl (lv_at hl 0 rfl) ?_
    refine lv_iload_n F.1 F.2.1 dX19_send_118 rfl (lv_at hl 3 rfl) ?_
    refine lv_icmp_ne (tgt := 126) F.1 F.2.1 dX19_send_119 (by decide) (fun c6 => ?_) (fun c6 => ?_)
    · replace h := zi_t c6 h
      exact bX19_send_126 hst F hA E  x1 s0 x0 x1 hx1 hx0 hx1 hr (lv_sub hl [2, 0] rfl) h
    · replace h := zi_f (fun q => q c6) h
      refine lv_iconst (v := (2 : Int32)) F.1 F.2.1 dX19_send_122 (by decide) ?_
      refine lv_goto (tgt := 127) F.1 F.2.1 dX19_send_123 (by decide) ?_
      exact bX19_send_127 hst F hA E  x1 s0 x0 x1 (2 : Int32) hx1 hx0 hx1 hr (lv_sub hl [2, 0] rfl) h
def fX19_send_85 (N : Nat)  (x0 : Nat) (x1 : Nat) (s0 : Int32) (z : St) : Option (Int32 × St) := zl (s0 - (zgI z 14 6 x1)) fun v1 => if (zgI z 14 15 x1) ≤ v1 then (fX19_send_107 N x0 x1 v1 (zgI z 14 15 x1) z) else (fX19_send_107 N x0 x1 v1 v1 z)
set_option maxHeartbeats 4000000 in
set_option maxRecDepth 100000 in
theorem bX19_send_85 (hst : zSt B ids) (F : zFx p m c cX19_send 5 s args RX19 D cy B ids A) (hA : ∀ q : Nat, s.heap.size ≤ q → A q) {r : Int32} {z' : St} (E : zEnd p l e rmX19_send s m args below meth c cX19_send D cy B ids A Q (some (.int r)) z' .ireturn True) {N : Nat}  (x0 : Nat) (x1 : Nat) (s0 : Int32) (hx0 : (19, x0) ∈ ids) (hx1 : (14, x1) ∈ ids) {z : St} {H : Heap} {locs : List Loc} {ls : Array Slot} (hr : zRep D cy B ids A s.heap z H locs) (hl : lv_has ls 5 [(0, .ref (B 19 x0)), (1, .ref (B 14 x1))]) (h : fX19_send_85 N x0 x1 s0 z = some (r, z')) : W p l e rmX19_send s m args below meth c H locs 0 0 Q (F0 m 85 ls [.int s0]) := by
  unfold fX19_send_85 at h
  refine lv_aload_n F.1 F.2.1 dX19_send_85 rfl (lv_at hl 1 rfl) ?_
  refine gf19_646 F hx1 hr dX19_send_86 ?_
  refine lv_isub F.1 F.2.1 dX19_send_89 ?_
  refine lv_topi (fun v1 ev1 => ?_)
  replace h := zl_sub ev1 h
  refine lv_istore_n (lv' := [(2, .int v1), (0, .ref (B 19 x0)), (1, .ref (B 14 x1))]) F.1 F.2.1 dX19_send_90 rfl hl (by decide) rfl (fun ls hl => ?_)
  refine lv_iload_n F.1 F.2.1 dX19_send_91 rfl (lv_at hl 0 rfl) ?_
  refine lv_aload_n F.1 F.2.1 dX19_send_92 rfl (lv_at hl 2 rfl) ?_
  refine gf19_579 F hx1 hr dX19_send_93 ?_
  refine lv_icmp_ge (tgt := 103) F.1 F.2.1 dX19_send_96 (by decide) (fun c2 => ?_) (fun c2 => ?_)
  · replace h := zi_t c2 h
    refine lv_aload_n F.1 F.2.1 dX19_send_103 rfl (lv_at hl 2 rfl) ?_
    refine gf19_579 F hx1 hr dX19_send_104 ?_
    exact bX19_send_107 hst F hA E  x0 x1 v1 (zgI z 14 15 x1) hx0 hx1 hr (lv_sub hl [1, 2, 0] rfl) h
  · replace h := zi_f c2 h
    refine lv_iload_n F.1 F.2.1 dX19_send_99 rfl (lv_at hl 0 rfl) ?_
    refine lv_goto (tgt := 107) F.1 F.2.1 dX19_send_100 (by decide) ?_
    exact bX19_send_107 hst F hA E  x0 x1 v1 v1 hx0 hx1 hr (lv_sub hl [1, 2, 0] rfl) h
def fX19_send_199 (N : Nat)  (x0 : Nat) (x1 : Nat) (x3 : Int32) (s0 : Nat) (s1 : Nat) (s2 : Int32) (z : St) : Option (Int32 × St) := zc (fX19_toldBy N s0 s1 s2 (zgI z 14 7 x1) x3 z) fun r1 z2 => zl (zsI z2 14 7 x1 ((zgI z2 14 7 x1) + (1 : Int32))) fun z5 => zc (fX14_isNew N x1 (zgI z5 19 24 x0) z5) fun _ z7 => some (r1, z7)
set_option maxHeartbeats 4000000 in
set_option maxRecDepth 100000 in
theorem bX19_send_199 (hst : zSt B ids) (F : zFx p m c cX19_send 5 s args RX19 D cy B ids A) (hA : ∀ q : Nat, s.heap.size ≤ q → A q) {r : Int32} {z' : St} (E : zEnd p l e rmX19_send s m args below meth c cX19_send D cy B ids A Q (some (.int r)) z' .ireturn True) {N : Nat}  (x0 : Nat) (x1 : Nat) (x3 : Int32) (s0 : Nat) (s1 : Nat) (s2 : Int32) (hx0 : (19, x0) ∈ ids) (hx1 : (14, x1) ∈ ids) (hs0 : (19, s0) ∈ ids) (hs1 : (14, s1) ∈ ids) {z : St} {H : Heap} {locs : List Loc} {ls : Array Slot} (hr : zRep D cy B ids A s.heap z H locs) (hl : lv_has ls 5 [(0, .ref (B 19 x0)), (1, .ref (B 14 x1)), (3, .int x3)]) (h : fX19_send_199 N x0 x1 x3 s0 s1 s2 z = some (r, z')) : W p l e rmX19_send s m args below meth c H locs 0 0 Q (F0 m 199 ls [.int s2, .ref (B 14 s1), .ref (B 19 s0)]) := by
  unfold fX19_send_199 at h
  refine lv_aload_n F.1 F.2.1 dX19_send_199 rfl (lv_at hl 1 rfl) ?_
  refine gf19_600 F hx1 hr dX19_send_200 ?_
  refine lv_iload_n F.1 F.2.1 dX19_send_203 rfl (lv_at hl 2 rfl) ?_
  replace h := zc_some h
  obtain ⟨r1, z2, hc3, h⟩ := h
  refine zr_calli (zrun_V (As := [.ref (B 14 s1), .int s2, .int (zgI z 14 7 x1), .int x3]) (rest := []) zq_2941 zq_2943 zs_X19_toldBy zq_2944 zq_4 hdX19_toldBy (by decide) (T := TX19) (N := 32) rfl (okX19_toldBy l D cy B ids hst N s0 hs0 s1 hs1 s2  (zgI z 14 7 x1)  x3  hr.2.2 hc3) F hr hs0 hl.1 rfl (by decide) dX19_send_204 rfl rfl hroX19_send_X19_toldBy ⟨Nat.zero_le _, Nat.zero_le _⟩) F hA hr (fun H locs hw4 hr => ?_)
  clear hc3
  refine lv_istore (lv' := [(4, .int r1), (0, .ref (B 19 x0)), (1, .ref (B 14 x1)), (3, .int x3)]) F.1 F.2.1 dX19_send_207 hl (by decide) rfl (fun ls hl => ?_)
  refine lv_aload_n F.1 F.2.1 dX19_send_209 rfl (lv_at hl 2 rfl) ?_
  refine lv_dup F.1 F.2.1 dX19_send_210 rfl ?_
  refine gf19_600 F hx1 hr dX19_send_211 ?_
  refine lv_iconst (v := (1 : Int32)) F.1 F.2.1 dX19_send_214 (by decide) ?_
  refine lv_iadd F.1 F.2.1 dX19_send_215 ?_
  refine pf19_600 F hx1 hr dX19_send_216 ((zgI z2 14 7 x1) + (1 : Int32)) (fun H locs z5 ez5 hr => ?_)
  replace h := zl_sub ez5 h
  clear ez5
  refine lv_aload_n F.1 F.2.1 dX19_send_219 rfl (lv_at hl 2 rfl) ?_
  refine lv_aload_n F.1 F.2.1 dX19_send_220 rfl (lv_at hl 1 rfl) ?_
  refine gf19_143 F hx0 hr dX19_send_221 ?_
  replace h := zc_some h
  obtain ⟨r6, z7, hc8, h⟩ := h
  refine zr_callv (zrun_VN (As := [.int (zgI z5 19 24 x0)]) (rest := []) zn_2969 zq_2971 zs_X14_isNew zq_2972 zq_21 hdX14_isNew (by decide) (T := TX14) (N := 47) rfl (okX14_isNew l D cy B ids hst N x1 hx1 (zgI z5 19 24 x0)  hr.2.2 hc8) F hr hx1 hl.1 rfl (by decide) dX19_send_224 rfl rfl hroX19_send_X14_isNew ⟨Nat.zero_le _, Nat.zero_le _⟩) F hA hr (fun H locs hw9 hr => ?_)
  clear hc8
  refine lv_iload F.1 F.2.1 dX19_send_227 (lv_at hl 0 rfl) ?_
  obtain ⟨rfl, rfl⟩ := zret h
  exact E _ _ _ _ dX19_send_229 trivial hr
def fX19_send_187 (N : Nat)  (x0 : Nat) (x1 : Nat) (s0 : Int32) (z : St) : Option (Int32 × St) := if ¬ s0 = 0 then (fX19_send_199 N x0 x1 s0 x0 x1 (0 : Int32) z) else (fX19_send_199 N x0 x1 s0 x0 x1 (2 : Int32) z)
set_option maxHeartbeats 4000000 in
set_option maxRecDepth 100000 in
theorem bX19_send_187 (hst : zSt B ids) (F : zFx p m c cX19_send 5 s args RX19 D cy B ids A) (hA : ∀ q : Nat, s.heap.size ≤ q → A q) {r : Int32} {z' : St} (E : zEnd p l e rmX19_send s m args below meth c cX19_send D cy B ids A Q (some (.int r)) z' .ireturn True) {N : Nat}  (x0 : Nat) (x1 : Nat) (s0 : Int32) (hx0 : (19, x0) ∈ ids) (hx1 : (14, x1) ∈ ids) {z : St} {H : Heap} {locs : List Loc} {ls : Array Slot} (hr : zRep D cy B ids A s.heap z H locs) (hl : lv_has ls 5 [(0, .ref (B 19 x0)), (1, .ref (B 14 x1))]) (h : fX19_send_187 N x0 x1 s0 z = some (r, z')) : W p l e rmX19_send s m args below meth c H locs 0 0 Q (F0 m 187 ls [.int s0]) := by
  unfold fX19_send_187 at h
  refine lv_istore_n (lv' := [(3, .int s0), (0, .ref (B 19 x0)), (1, .ref (B 14 x1))]) F.1 F.2.1 dX19_send_187 rfl hl (by decide) rfl (fun ls hl => ?_)
  refine lv_aload_n F.1 F.2.1 dX19_send_188 rfl (lv_at hl 1 rfl) ?_
  refine lv_aload_n F.1 F.2.1 dX19_send_189 rfl (lv_at hl 2 rfl) ?_
  refine lv_iload_n F.1 F.2.1 dX19_send_190 rfl (lv_at hl 0 rfl) ?_
  refine lv_if_ne (tgt := 198) F.1 F.2.1 dX19_send_191 (by decide) (fun c1 => ?_) (fun c1 => ?_)
  · replace h := zi_t c1 h
    refine lv_iconst (v := (0 : Int32)) F.1 F.2.1 dX19_send_198 (by decide) ?_
    exact bX19_send_199 hst F hA E  x0 x1 s0 x0 x1 (0 : Int32) hx0 hx1 hx0 hx1 hr (lv_sub hl [1, 2, 0] rfl) h
  · replace h := zi_f (fun q => q c1) h
    refine lv_iconst (v := (2 : Int32)) F.1 F.2.1 dX19_send_194 (by decide) ?_
    refine lv_goto (tgt := 199) F.1 F.2.1 dX19_send_195 (by decide) ?_
    exact bX19_send_199 hst F hA E  x0 x1 s0 x0 x1 (2 : Int32) hx0 hx1 hx0 hx1 hr (lv_sub hl [1, 2, 0] rfl) h
def fX19_send_230 (N : Nat)  (x0 : Nat) (x1 : Nat) (z : St) : Option (Int32 × St) := if (zgI z 14 32 x1) = 0 then (some ((-1 : Int32), z)) else (zc (fX19_toldBy N x0 x1 (0 : Int32) (zgI z 14 7 x1) (0 : Int32) z) fun r2 z3 => some (r2, z3))
set_option maxHeartbeats 4000000 in
set_option maxRecDepth 100000 in
theorem bX19_send_230 (hst : zSt B ids) (F : zFx p m c cX19_send 5 s args RX19 D cy B ids A) (hA : ∀ q : Nat, s.heap.size ≤ q → A q) {r : Int32} {z' : St} (E : zEnd p l e rmX19_send s m args below meth c cX19_send D cy B ids A Q (some (.int r)) z' .ireturn True) {N : Nat}  (x0 : Nat) (x1 : Nat) (hx0 : (19, x0) ∈ ids) (hx1 : (14, x1) ∈ ids) {z : St} {H : Heap} {locs : List Loc} {ls : Array Slot} (hr : zRep D cy B ids A s.heap z H locs) (hl : lv_has ls 5 [(0, .ref (B 19 x0)), (1, .ref (B 14 x1))]) (h : fX19_send_230 N x0 x1 z = some (r, z')) : W p l e rmX19_send s m args below meth c H locs 0 0 Q (F0 m 230 ls []) := by
  unfold fX19_send_230 at h
  refine lv_aload_n F.1 F.2.1 dX19_send_230 rfl (lv_at hl 1 rfl) ?_
  refine gf19_616 F hx1 hr dX19_send_231 ?_
  refine lv_if_eq (tgt := 251) F.1 F.2.1 dX19_send_234 (by decide) (fun c1 => ?_) (fun c1 => ?_)
  · replace h := zi_t c1 h
    refine lv_iconst (v := (-1 : Int32)) F.1 F.2.1 dX19_send_251 (by decide) ?_
    obtain ⟨rfl, rfl⟩ := zret h
    exact E _ _ _ _ dX19_send_252 trivial hr
  · replace h := zi_f c1 h
    refine lv_aload_n F.1 F.2.1 dX19_send_237 rfl (lv_at hl 0 rfl) ?_
    refine lv_aload_n F.1 F.2.1 dX19_send_238 rfl (lv_at hl 1 rfl) ?_
    refine lv_iconst (v := (0 : Int32)) F.1 F.2.1 dX19_send_239 (by decide) ?_
    refine lv_aload_n F.1 F.2.1 dX19_send_240 rfl (lv_at hl 1 rfl) ?_
    refine gf19_600 F hx1 hr dX19_send_241 ?_
    refine lv_iconst (v := (0 : Int32)) F.1 F.2.1 dX19_send_244 (by decide) ?_
    replace h := zc_some h
    obtain ⟨r2, z3, hc4, h⟩ := h
    refine zr_calli (zrun_V (As := [.ref (B 14 x1), .int (0 : Int32), .int (zgI z 14 7 x1), .int (0 : Int32)]) (rest := []) zq_2941 zq_2943 zs_X19_toldBy zq_2944 zq_4 hdX19_toldBy (by decide) (T := TX19) (N := 32) rfl (okX19_toldBy l D cy B ids hst N x0 hx0 x1 hx1 (0 : Int32)  (zgI z 14 7 x1)  (0 : Int32)  hr.2.2 hc4) F hr hx0 hl.1 rfl (by decide) dX19_send_245 rfl rfl hroX19_send_X19_toldBy ⟨Nat.zero_le _, Nat.zero_le _⟩) F hA hr (fun H locs hw5 hr => ?_)
    clear hc4
    refine lv_goto (tgt := 252) F.1 F.2.1 dX19_send_248 (by decide) ?_
    obtain ⟨rfl, rfl⟩ := zret h
    exact E _ _ _ _ dX19_send_252 trivial hr
def fX19_send (N : Nat)  (x0 : Nat) (x1 : Nat) (z : St) : Option (Int32 × St) := if (zgI z 14 24 x1) = 0 then (if (zgI z 14 28 x1) = 0 then (if (zgI z 14 30 x1) = 0 then (zc (fX19_sendNew N x0 x1 z) fun r4 z5 => if r4 = (-1 : Int32) then (if (zgI z5 14 31 x1) = 0 then (fX19_send_230 N x0 x1 z5) else (zl (zsI z5 14 31 x1 (0 : Int32)) fun z10 => zc (fX14_hasNew N x1 z10) fun r11 z12 => if r11 = 0 then (fX19_send_230 N x0 x1 z12) else (zc (fX19_isBefore N (zgI z12 14 7 x1) (zgI z12 14 8 x1) z12) fun r16 z17 => if r16 = 0 then (fX19_send_187 N x0 x1 (0 : Int32) z17) else (fX19_send_187 N x0 x1 (1 : Int32) z17)))) else (some (r4, z5))) else (zl (zsI z 14 30 x1 (0 : Int32)) fun z21 => zl (zsI z21 14 37 x1 (0 : Int32)) fun z22 => zc (fX14_lastSent N x1 z22) fun r23 z24 => if r23 = 0 then (fX19_send_85 N x0 x1 (zgI z24 14 7 x1) z24) else (fX19_send_85 N x0 x1 (zgI z24 14 8 x1) z24))) else (zc (fX19_sendOpen N x0 x1 z) fun r28 z29 => some (r28, z29))) else (zl (zsI z 14 24 x1 (0 : Int32)) fun z32 => zc (fX19_newSegment N x0 (zgI z32 14 25 x1) (zgI z32 14 26 x1) z32) fun r33 z34 => zc (fX19_setSeg N x0 r33 (4 : Int32) (zgI z34 14 27 x1) z34) fun _ z38 => some (r33, z38))
set_option maxHeartbeats 4000000 in
set_option maxRecDepth 100000 in
theorem bX19_send_0 (hst : zSt B ids) (F : zFx p m c cX19_send 5 s args RX19 D cy B ids A) (hA : ∀ q : Nat, s.heap.size ≤ q → A q) {r : Int32} {z' : St} (E : zEnd p l e rmX19_send s m args below meth c cX19_send D cy B ids A Q (some (.int r)) z' .ireturn True) {N : Nat}  (x0 : Nat) (x1 : Nat) (hx0 : (19, x0) ∈ ids) (hx1 : (14, x1) ∈ ids) {z : St} {H : Heap} {locs : List Loc} {ls : Array Slot} (hr : zRep D cy B ids A s.heap z H locs) (hl : lv_has ls 5 [(0, .ref (B 19 x0)), (1, .ref (B 14 x1))]) (h : fX19_send N x0 x1 z = some (r, z')) : W p l e rmX19_send s m args below meth c H locs 0 0 Q (F0 m 0 ls []) := by
  unfold fX19_send at h
  refine lv_aload_n F.1 F.2.1 dX19_send_0 rfl (lv_at hl 1 rfl) ?_
  refine gf19_694 F hx1 hr dX19_send_1 ?_
  refine lv_if_eq (tgt := 37) F.1 F.2.1 dX19_send_4 (by decide) (fun c1 => ?_) (fun c1 => ?_)
  · replace h := zi_t c1 h
    refine lv_aload_n F.1 F.2.1 dX19_send_37 rfl (lv_at hl 1 rfl) ?_
    refine gf19_613 F hx1 hr dX19_send_38 ?_
    refine lv_if_eq (tgt := 50) F.1 F.2.1 dX19_send_41 (by decide) (fun c2 => ?_) (fun c2 => ?_)
    · replace h := zi_t c2 h
      refine lv_aload_n F.1 F.2.1 dX19_send_50 rfl (lv_at hl 1 rfl) ?_
      refine gf19_710 F hx1 hr dX19_send_51 ?_
      refine lv_if_eq (tgt := 136) F.1 F.2.1 dX19_send_54 (by decide) (fun c3 => ?_) (fun c3 => ?_)
      · replace h := zi_t c3 h
        refine lv_aload_n F.1 F.2.1 dX19_send_136 rfl (lv_at hl 0 rfl) ?_
        refine lv_aload_n F.1 F.2.1 dX19_send_137 rfl (lv_at hl 1 rfl) ?_
        replace h := zc_some h
        obtain ⟨r4, z5, hc6, h⟩ := h
        refine zr_calli (zrun_V (As := [.ref (B 14 x1)]) (rest := []) zq_2956 zq_2958 zs_X19_sendNew zq_2959 zq_4 hdX19_sendNew (by decide) (T := TX19) (N := 32) rfl (okX19_sendNew l D cy B ids hst N x0 hx0 x1 hx1 hr.2.2 hc6) F hr hx0 hl.1 rfl (by decide) dX19_send_138 rfl rfl hroX19_send_X19_sendNew ⟨Nat.zero_le _, Nat.zero_le _⟩) F hA hr (fun H locs hw7 hr => ?_)
        clear hc6
        refine lv_istore_n (lv' := [(2, .int r4), (0, .ref (B 19 x0)), (1, .ref (B 14 x1))]) F.1 F.2.1 dX19_send_141 rfl hl (by decide) rfl (fun ls hl => ?_)
        refine lv_iload_n F.1 F.2.1 dX19_send_142 rfl (lv_at hl 0 rfl) ?_
        refine lv_iconst (v := (-1 : Int32)) F.1 F.2.1 dX19_send_143 (by decide) ?_
        refine lv_icmp_eq (tgt := 149) F.1 F.2.1 dX19_send_144 (by decide) (fun c8 => ?_) (fun c8 => ?_)
        · replace h := zi_t c8 h
          refine lv_aload_n F.1 F.2.1 dX19_send_149 rfl (lv_at hl 2 rfl) ?_
          refine gf19_652 F hx1 hr dX19_send_150 ?_
          refine lv_if_eq (tgt := 230) F.1 F.2.1 dX19_send_153 (by decide) (fun c9 => ?_) (fun c9 => ?_)
          · replace h := zi_t c9 h
            exact bX19_send_230 hst F hA E  x0 x1 hx0 hx1 hr (lv_sub hl [1, 2] rfl) h
          · replace h := zi_f c9 h
            refine lv_aload_n F.1 F.2.1 dX19_send_156 rfl (lv_at hl 2 rfl) ?_
            refine lv_iconst (v := (0 : Int32)) F.1 F.2.1 dX19_send_157 (by decide) ?_
            refine pf19_652 F hx1 hr dX19_send_158 (0 : Int32) (by decide) (fun H locs z10 ez10 hr => ?_)
            replace h := zl_sub ez10 h
            clear ez10
            refine lv_aload_n F.1 F.2.1 dX19_send_161 rfl (lv_at hl 2 rfl) ?_
            replace h := zc_some h
            obtain ⟨r11, z12, hc13, h⟩ := h
            refine zr_calli (zrun_VN (As := []) (rest := []) zn_2960 zq_2962 zs_X14_hasNew zq_2963 zq_21 hdX14_hasNew (by decide) (T := TX14) (N := 47) rfl (okX14_hasNew l D cy B ids hst N x1 hx1 hr.2.2 hc13) F hr hx1 hl.1 rfl (by decide) dX19_send_162 rfl rfl hroX19_send_X14_hasNew ⟨Nat.zero_le _, Nat.zero_le _⟩) F hA hr (fun H locs hw14 hr => ?_)
            clear hc13
            refine lv_if_eq (tgt := 230) F.1 F.2.1 dX19_send_165 (by decide) (fun c15 => ?_) (fun c15 => ?_)
            · replace h := zi_t c15 h
              exact bX19_send_230 hst F hA E  x0 x1 hx0 hx1 hr (lv_sub hl [1, 2] rfl) h
            · replace h := zi_f c15 h
              refine lv_aload_n F.1 F.2.1 dX19_send_168 rfl (lv_at hl 2 rfl) ?_
              refine gf19_600 F hx1 hr dX19_send_169 ?_
              refine lv_aload_n F.1 F.2.1 dX19_send_172 rfl (lv_at hl 2 rfl) ?_
              refine gf19_658 F hx1 hr dX19_send_173 ?_
              replace h := zc_some h
              obtain ⟨r16, z17, hc18, h⟩ := h
              refine zr_calli (zrun_S (As := [.int (zgI z12 14 7 x1), .int (zgI z12 14 8 x1)]) (rest := []) zq_2714 zq_2692 zq_2693 zq_4 hdX19_isBefore (okX19_isBefore l D cy B ids hst N (zgI z12 14 7 x1)  (zgI z12 14 8 x1)  hr.2.2 hc18) F hr hl.1 rfl (by decide) dX19_send_176 rfl rfl hroX19_send_X19_isBefore ⟨Nat.zero_le _, Nat.zero_le _⟩) F hA hr (fun H locs hw19 hr => ?_)
              clear hc18
              refine lv_if_eq (tgt := 186) F.1 F.2.1 dX19_send_179 (by decide) (fun c20 => ?_) (fun c20 => ?_)
              · replace h := zi_t c20 h
                refine lv_iconst (v := (0 : Int32)) F.1 F.2.1 dX19_send_186 (by decide) ?_
                exact bX19_send_187 hst F hA E  x0 x1 (0 : Int32) hx0 hx1 hr (lv_sub hl [1, 2] rfl) h
              · replace h := zi_f c20 h
                refine lv_iconst (v := (1 : Int32)) F.1 F.2.1 dX19_send_182 (by decide) ?_
                refine lv_goto (tgt := 187) F.1 F.2.1 dX19_send_183 (by decide) ?_
                exact bX19_send_187 hst F hA E  x0 x1 (1 : Int32) hx0 hx1 hr (lv_sub hl [1, 2] rfl) h
        · replace h := zi_f c8 h
          refine lv_iload_n F.1 F.2.1 dX19_send_147 rfl (lv_at hl 0 rfl) ?_
          obtain ⟨rfl, rfl⟩ := zret h
          exact E _ _ _ _ dX19_send_148 trivial hr
      · replace h := zi_f c3 h
        refine lv_aload_n F.1 F.2.1 dX19_send_57 rfl (lv_at hl 1 rfl) ?_
        refine lv_iconst (v := (0 : Int32)) F.1 F.2.1 dX19_send_58 (by decide) ?_
        refine pf19_710 F hx1 hr dX19_send_59 (0 : Int32) (by decide) (fun H locs z21 ez21 hr => ?_)
        replace h := zl_sub ez21 h
        clear ez21
        refine lv_aload_n F.1 F.2.1 dX19_send_62 rfl (lv_at hl 1 rfl) ?_
        refine lv_iconst (v := (0 : Int32)) F.1 F.2.1 dX19_send_63 (by decide) ?_
        refine pf19_713 F hx1 hr dX19_send_64 (0 : Int32) (by decide) (fun H locs z22 ez22 hr => ?_)
        replace h := zl_sub ez22 h
        clear ez22
        refine lv_aload_n F.1 F.2.1 dX19_send_67 rfl (lv_at hl 1 rfl) ?_
        replace h := zc_some h
        obtain ⟨r23, z24, hc25, h⟩ := h
        refine zr_calli (zrun_VN (As := []) (rest := []) zn_2952 zq_2954 zs_X14_lastSent zq_2955 zq_21 hdX14_lastSent (by decide) (T := TX14) (N := 47) rfl (okX14_lastSent l D cy B ids hst N x1 hx1 hr.2.2 hc25) F hr hx1 hl.1 rfl (by decide) dX19_send_68 rfl rfl hroX19_send_X14_lastSent ⟨Nat.zero_le _, Nat.zero_le _⟩) F hA hr (fun H locs hw26 hr => ?_)
        clear hc25
        refine lv_if_eq (tgt := 81) F.1 F.2.1 dX19_send_71 (by decide) (fun c27 => ?_) (fun c27 => ?_)
        · replace h := zi_t c27 h
          refine lv_aload_n F.1 F.2.1 dX19_send_81 rfl (lv_at hl 1 rfl) ?_
          refine gf19_600 F hx1 hr dX19_send_82 ?_
          exact bX19_send_85 hst F hA E  x0 x1 (zgI z24 14 7 x1) hx0 hx1 hr (lv_sub hl [0, 1] rfl) h
        · replace h := zi_f c27 h
          refine lv_aload_n F.1 F.2.1 dX19_send_74 rfl (lv_at hl 1 rfl) ?_
          refine gf19_658 F hx1 hr dX19_send_75 ?_
          refine lv_goto (tgt := 85) F.1 F.2.1 dX19_send_78 (by decide) ?_
          exact bX19_send_85 hst F hA E  x0 x1 (zgI z24 14 8 x1) hx0 hx1 hr (lv_sub hl [0, 1] rfl) h
    · replace h := zi_f c2 h
      refine lv_aload_n F.1 F.2.1 dX19_send_44 rfl (lv_at hl 0 rfl) ?_
      refine lv_aload_n F.1 F.2.1 dX19_send_45 rfl (lv_at hl 1 rfl) ?_
      replace h := zc_some h
      obtain ⟨r28, z29, hc30, h⟩ := h
      refine zr_calli (zrun_V (As := [.ref (B 14 x1)]) (rest := []) zq_2937 zq_2939 zs_X19_sendOpen zq_2940 zq_4 hdX19_sendOpen (by decide) (T := TX19) (N := 32) rfl (okX19_sendOpen l D cy B ids hst N x0 hx0 x1 hx1 hr.2.2 hc30) F hr hx0 hl.1 rfl (by decide) dX19_send_46 rfl rfl hroX19_send_X19_sendOpen ⟨Nat.zero_le _, Nat.zero_le _⟩) F hA hr (fun H locs hw31 hr => ?_)
      clear hc30
      obtain ⟨rfl, rfl⟩ := zret h
      exact E _ _ _ _ dX19_send_49 trivial hr
  · replace h := zi_f c1 h
    refine lv_aload_n F.1 F.2.1 dX19_send_7 rfl (lv_at hl 1 rfl) ?_
    refine lv_iconst (v := (0 : Int32)) F.1 F.2.1 dX19_send_8 (by decide) ?_
    refine pf19_694 F hx1 hr dX19_send_9 (0 : Int32) (by decide) (fun H locs z32 ez32 hr => ?_)
    replace h := zl_sub ez32 h
    clear ez32
    refine lv_aload_n F.1 F.2.1 dX19_send_12 rfl (lv_at hl 0 rfl) ?_
    refine lv_aload_n F.1 F.2.1 dX19_send_13 rfl (lv_at hl 1 rfl) ?_
    refine gf19_697 F hx1 hr dX19_send_14 ?_
    refine lv_aload_n F.1 F.2.1 dX19_send_17 rfl (lv_at hl 1 rfl) ?_
    refine gf19_700 F hx1 hr dX19_send_18 ?_
    replace h := zc_some h
    obtain ⟨r33, z34, hc35, h⟩ := h
    refine zr_calli (zrun_V (As := [.int (zgI z32 14 25 x1), .int (zgI z32 14 26 x1)]) (rest := []) zq_2753 zq_2755 zs_X19_newSegment zq_2756 zq_4 hdX19_newSegment (by decide) (T := TX19) (N := 32) rfl (okX19_newSegment l D cy B ids hst N x0 hx0 (zgI z32 14 25 x1)  (zgI z32 14 26 x1)  hr.2.2 hc35) F hr hx0 hl.1 rfl (by decide) dX19_send_21 rfl rfl hroX19_send_X19_newSegment ⟨Nat.zero_le _, Nat.zero_le _⟩) F hA hr (fun H locs hw36 hr => ?_)
    clear hc35
    refine lv_istore_n (lv' := [(2, .int r33), (0, .ref (B 19 x0)), (1, .ref (B 14 x1))]) F.1 F.2.1 dX19_send_24 rfl hl (by decide) rfl (fun ls hl => ?_)
    refine lv_aload_n F.1 F.2.1 dX19_send_25 rfl (lv_at hl 1 rfl) ?_
    refine lv_iload_n F.1 F.2.1 dX19_send_26 rfl (lv_at hl 0 rfl) ?_
    refine lv_iconst (v := (4 : Int32)) F.1 F.2.1 dX19_send_27 (by decide) ?_
    refine lv_aload_n F.1 F.2.1 dX19_send_28 rfl (lv_at hl 2 rfl) ?_
    refine gf19_703 F hx1 hr dX19_send_29 ?_
    replace h := zc_some h
    obtain ⟨r37, z38, hc39, h⟩ := h
    refine zr_callv (zrun_V (As := [.int r33, .int (4 : Int32), .int (zgI z34 14 27 x1)]) (rest := []) zq_2757 zq_2759 zs_X19_setSeg zq_2760 zq_4 hdX19_setSeg (by decide) (T := TX19) (N := 32) rfl (okX19_setSeg l D cy B ids hst N x0 hx0 r33  (4 : Int32)  (zgI z34 14 27 x1)  hr.2.2 hc39) F hr hx0 hl.1 rfl (by decide) dX19_send_32 rfl rfl hroX19_send_X19_setSeg ⟨Nat.zero_le _, Nat.zero_le _⟩) F hA hr (fun H locs hw40 hr => ?_)
    clear hc39
    refine lv_iload_n F.1 F.2.1 dX19_send_35 rfl (lv_at hl 0 rfl) ?_
    obtain ⟨rfl, rfl⟩ := zret h
    exact E _ _ _ _ dX19_send_36 trivial hr
end SX19_send
set_option maxRecDepth 100000 in
theorem okX19_send (l : Launch) (D : va_G) (cy : Nat → ClassId) (B : Nat → Nat → Nat) (ids : List (Nat × Nat)) (hst : zSt B ids) (N : Nat) (x0 : Nat) (hx0 : (19, x0) ∈ ids) (x1 : Nat) (hx1 : (14, x1) ∈ ids) {z : St} {r : Int32} {z' : St} (hW : zWf ids z) (h : fX19_send N x0 x1 z = some (r, z')) : zM l yX19_send (zws yX19_send cX19_send 5 (some .int)) rmX19_send D cy B ids [.ref (B 19 x0), .ref (B 14 x1)] (some (.int r)) True z z' :=
  zM_of hst hW (by decide +kernel) (Nat.le_of_ble_eq_true rfl) (fun p e s m args below meth c A ls F hA hret hlocks hr hl => bX19_send_0 hst F hA (zEnd_i F hret hlocks) x0 x1 hx0 hx1 hr hl h)
