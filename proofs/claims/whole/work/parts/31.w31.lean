abbrev rmX19_arriveAll : Room := { frames := 16, cells := 0, slots := 0, locals := 420 }
theorem hdX19_arriveAll : yX19_arriveAll.cls ≠ "java/lang/invoke/MethodHandle" ∧ yX19_arriveAll.cls ≠ "java/lang/invoke/VarHandle" ∧ (parseMethodDescriptor yX19_arriveAll.desc).map (fun d => d.parameters.length) = some 0 := by decide +kernel
theorem hroX19_arriveAll_X19_arrive : rmX19_arrive.frames + 1 ≤ rmX19_arriveAll.frames ∧ 8 + (10 + 11) + rmX19_arrive.locals ≤ rmX19_arriveAll.locals := by decide
theorem hroX19_arriveAll_X19_drop : rmX19_drop.frames + 1 ≤ rmX19_arriveAll.frames ∧ 8 + (2 + 11) + rmX19_drop.locals ≤ rmX19_arriveAll.locals := by decide
theorem hroX19_arriveAll_X19_takeFrame : rmX19_takeFrame.frames + 1 ≤ rmX19_arriveAll.frames ∧ 8 + (3 + 11) + rmX19_takeFrame.locals ≤ rmX19_arriveAll.locals := by decide
section SX19_arriveAll
variable {p : Program} {l : Launch} {e : Env} {s : State} {m : MethodId} {args : Array Value} {below : List Frame} {meth : Method} {c : Code} {Q : State → Prop} {D : va_G} {cy : Nat → ClassId} {B : Nat → Nat → Nat} {ids : List (Nat × Nat)} {A : Nat → Prop}
def fX19_arriveAll_186 (N : Nat) (K2 : Nat → Int32 → St → Option (Int32 × St)) (K125 : Nat → Int32 → Int32 → Int32 → Int32 → Int32 → Int32 → Option Nat → Int32 → St → Option (Int32 × St)) (x0 : Nat) (x1 : Int32) (x3 : Int32) (x4 : Int32) (x5 : Int32) (x6 : Int32) (x7 : Int32) (x8 : Nat) (x9 : Int32) (z : St) : Option (Int32 × St) := zl (x9 + 1) fun v1 => K125 x0 x1 x3 x4 x5 x6 x7 (some x8) v1 z
set_option maxHeartbeats 4000000 in
set_option maxRecDepth 100000 in
theorem bX19_arriveAll_186 (hst : zSt B ids) (F : zFx p m c cX19_arriveAll 10 s args RX19 D cy B ids A) (hA : ∀ q : Nat, s.heap.size ≤ q → A q) {r : Int32} {z' : St} (E : zEnd p l e rmX19_arriveAll s m args below meth c cX19_arriveAll D cy B ids A Q none z' .return_ True) {N : Nat} {K2 : Nat → Int32 → St → Option (Int32 × St)} {K125 : Nat → Int32 → Int32 → Int32 → Int32 → Int32 → Int32 → Option Nat → Int32 → St → Option (Int32 × St)} (hK2 : ∀ (x0 : Nat) (x1 : Int32) (hx0 : (19, x0) ∈ ids) {z : St} {H : Heap} {locs : List Loc} {ls : Array Slot} (hr : zRep D cy B ids A s.heap z H locs) (hl : lv_has ls 10 [(0, .ref (B 19 x0)), (1, .int x1)]), K2 x0 x1 z = some (r, z') → W p l e rmX19_arriveAll s m args below meth c H locs 0 0 Q (F0 m 2 ls [])) (hK125 : ∀ (x0 : Nat) (x1 : Int32) (x3 : Int32) (x4 : Int32) (x5 : Int32) (x6 : Int32) (x7 : Int32) (x8 : Option Nat) (x9 : Int32) (hx0 : (19, x0) ∈ ids) (hx8 : ∀ t, x8 = some t → (16, t) ∈ ids) {z : St} {H : Heap} {locs : List Loc} {ls : Array Slot} (hr : zRep D cy B ids A s.heap z H locs) (hl : lv_has ls 10 [(0, .ref (B 19 x0)), (1, .int x1), (3, .int x3), (4, .int x4), (5, .int x5), (6, .int x6), (7, .int x7), (8, va_rf (Option.map (B 16) x8)), (9, .int x9)]), K125 x0 x1 x3 x4 x5 x6 x7 x8 x9 z = some (r, z') → W p l e rmX19_arriveAll s m args below meth c H locs 0 0 Q (F0 m 125 ls [])) (x0 : Nat) (x1 : Int32) (x3 : Int32) (x4 : Int32) (x5 : Int32) (x6 : Int32) (x7 : Int32) (x8 : Nat) (x9 : Int32) (hx0 : (19, x0) ∈ ids) (hx8 : (16, x8) ∈ ids) {z : St} {H : Heap} {locs : List Loc} {ls : Array Slot} (hr : zRep D cy B ids A s.heap z H locs) (hl : lv_has ls 10 [(0, .ref (B 19 x0)), (1, .int x1), (3, .int x3), (4, .int x4), (5, .int x5), (6, .int x6), (7, .int x7), (8, .ref (B 16 x8)), (9, .int x9)]) (h : fX19_arriveAll_186 N K2 K125 x0 x1 x3 x4 x5 x6 x7 x8 x9 z = some (r, z')) : W p l e rmX19_arriveAll s m args below meth c H locs 0 0 Q (F0 m 186 ls []) := by
  unfold fX19_arriveAll_186 at h
  obtain ⟨v1, ev1⟩ : ∃ y : Int32, y = (x9 + 1) := ⟨_, rfl⟩
  replace h := zl_sub ev1 h
  refine lv_iinc (v := v1) (lv' := [(9, .int v1), (0, .ref (B 19 x0)), (1, .int x1), (3, .int x3), (4, .int x4), (5, .int x5), (6, .int x6), (7, .int x7), (8, .ref (B 16 x8))]) F.1 F.2.1 dX19_arriveAll_186 hl (k := 8) rfl (by rw [ev1]; rfl) (by decide) rfl (fun ls hl => ?_)
  refine lv_goto (tgt := 125) F.1 F.2.1 dX19_arriveAll_189 (by decide) ?_
  exact hK125 x0 x1 x3 x4 x5 x6 x7 (some x8) v1 hx0 (zal_s hx8) hr (lv_sub hl [1, 2, 3, 4, 5, 6, 7, 8, 0] rfl) h
def fX19_arriveAll_154 (N : Nat) (K2 : Nat → Int32 → St → Option (Int32 × St)) (K125 : Nat → Int32 → Int32 → Int32 → Int32 → Int32 → Int32 → Option Nat → Int32 → St → Option (Int32 × St)) (x0 : Nat) (x1 : Int32) (x3 : Int32) (x4 : Int32) (x5 : Int32) (x6 : Int32) (x7 : Int32) (x8 : Nat) (x9 : Int32) (z : St) : Option (Int32 × St) := zl (zsI z 16 9 x8 ((zgI z 16 9 x8) + (1 : Int32))) fun z1 => zk x9 8 <| zl (zgQ z1 164 x8 (Int32.toNatClampNeg x9)) fun y3 => zd y3 fun a4 => zc (fX19_arrive N x0 a4 x3 x4 x5 x6 x7 z1) fun _ z6 => fX19_arriveAll_186 N K2 K125 x0 x1 x3 x4 x5 x6 x7 x8 x9 z6
set_option maxHeartbeats 4000000 in
set_option maxRecDepth 100000 in
theorem bX19_arriveAll_154 (hst : zSt B ids) (F : zFx p m c cX19_arriveAll 10 s args RX19 D cy B ids A) (hA : ∀ q : Nat, s.heap.size ≤ q → A q) {r : Int32} {z' : St} (E : zEnd p l e rmX19_arriveAll s m args below meth c cX19_arriveAll D cy B ids A Q none z' .return_ True) {N : Nat} {K2 : Nat → Int32 → St → Option (Int32 × St)} {K125 : Nat → Int32 → Int32 → Int32 → Int32 → Int32 → Int32 → Option Nat → Int32 → St → Option (Int32 × St)} (hK2 : ∀ (x0 : Nat) (x1 : Int32) (hx0 : (19, x0) ∈ ids) {z : St} {H : Heap} {locs : List Loc} {ls : Array Slot} (hr : zRep D cy B ids A s.heap z H locs) (hl : lv_has ls 10 [(0, .ref (B 19 x0)), (1, .int x1)]), K2 x0 x1 z = some (r, z') → W p l e rmX19_arriveAll s m args below meth c H locs 0 0 Q (F0 m 2 ls [])) (hK125 : ∀ (x0 : Nat) (x1 : Int32) (x3 : Int32) (x4 : Int32) (x5 : Int32) (x6 : Int32) (x7 : Int32) (x8 : Option Nat) (x9 : Int32) (hx0 : (19, x0) ∈ ids) (hx8 : ∀ t, x8 = some t → (16, t) ∈ ids) {z : St} {H : Heap} {locs : List Loc} {ls : Array Slot} (hr : zRep D cy B ids A s.heap z H locs) (hl : lv_has ls 10 [(0, .ref (B 19 x0)), (1, .int x1), (3, .int x3), (4, .int x4), (5, .int x5), (6, .int x6), (7, .int x7), (8, va_rf (Option.map (B 16) x8)), (9, .int x9)]), K125 x0 x1 x3 x4 x5 x6 x7 x8 x9 z = some (r, z') → W p l e rmX19_arriveAll s m args below meth c H locs 0 0 Q (F0 m 125 ls [])) (x0 : Nat) (x1 : Int32) (x3 : Int32) (x4 : Int32) (x5 : Int32) (x6 : Int32) (x7 : Int32) (x8 : Nat) (x9 : Int32) (hx0 : (19, x0) ∈ ids) (hx8 : (16, x8) ∈ ids) {z : St} {H : Heap} {locs : List Loc} {ls : Array Slot} (hr : zRep D cy B ids A s.heap z H locs) (hl : lv_has ls 10 [(0, .ref (B 19 x0)), (1, .int x1), (3, .int x3), (4, .int x4), (5, .int x5), (6, .int x6), (7, .int x7), (8, .ref (B 16 x8)), (9, .int x9)]) (h : fX19_arriveAll_154 N K2 K125 x0 x1 x3 x4 x5 x6 x7 x8 x9 z = some (r, z')) : W p l e rmX19_arriveAll s m args below meth c H locs 0 0 Q (F0 m 154 ls []) := by
  unfold fX19_arriveAll_154 at h
  refine lv_aload F.1 F.2.1 dX19_arriveAll_154 (lv_at hl 7 rfl) ?_
  refine lv_dup F.1 F.2.1 dX19_arriveAll_156 rfl ?_
  refine gf19_374 F hx8 hr dX19_arriveAll_157 ?_
  refine lv_iconst (v := (1 : Int32)) F.1 F.2.1 dX19_arriveAll_160 (by decide) ?_
  refine lv_iadd F.1 F.2.1 dX19_arriveAll_161 ?_
  refine pf19_374 F hx8 hr dX19_arriveAll_162 ((zgI z 16 9 x8) + (1 : Int32)) (fun H locs z1 ez1 hr => ?_)
  replace h := zl_sub ez1 h
  clear ez1
  refine lv_aload_n F.1 F.2.1 dX19_arriveAll_165 rfl (lv_at hl 0 rfl) ?_
  refine lv_aload F.1 F.2.1 dX19_arriveAll_166 (lv_at hl 7 rfl) ?_
  refine gf19_295 F hx8 hr dX19_arriveAll_168 ?_
  refine lv_iload F.1 F.2.1 dX19_arriveAll_171 (lv_at hl 8 rfl) ?_
  replace h := zk_some h
  obtain ⟨c2, h⟩ := h
  refine zr_aaldv (k := 164) (by decide) rfl rfl (zlen_d (by decide)) F (zal_a F hx8 (j := 4) rfl) hr dX19_arriveAll_173 c2 (fun y3 ey3 => ?_)
  replace h := zl_sub ey3 h
  have hy3 := zal_q hr (zal_a F hx8 (j := 4) rfl) rfl ey3
  clear ey3
  refine lv_iload_n F.1 F.2.1 dX19_arriveAll_174 rfl (lv_at hl 2 rfl) ?_
  refine lv_iload F.1 F.2.1 dX19_arriveAll_175 (lv_at hl 3 rfl) ?_
  refine lv_iload F.1 F.2.1 dX19_arriveAll_177 (lv_at hl 4 rfl) ?_
  refine lv_iload F.1 F.2.1 dX19_arriveAll_179 (lv_at hl 5 rfl) ?_
  refine lv_iload F.1 F.2.1 dX19_arriveAll_181 (lv_at hl 6 rfl) ?_
  replace h := zd_some h
  obtain ⟨a4, rfl, h⟩ := h
  replace h := zc_some h
  obtain ⟨r5, z6, hc7, h⟩ := h
  refine zr_callv (zrun_V (As := [.ref (B 18 a4), .int x3, .int x4, .int x5, .int x6, .int x7]) (rest := []) zq_2587 zq_2589 zs_X19_arrive zq_2590 zq_4 hdX19_arrive (by decide) (T := TX19) (N := 32) rfl (okX19_arrive l D cy B ids hst N x0 hx0 a4 (hy3 _ rfl) x3  x4  x5  x6  x7  hr.2.2 hc7) F hr hx0 hl.1 rfl (by decide) dX19_arriveAll_183 rfl rfl hroX19_arriveAll_X19_arrive ⟨Nat.zero_le _, Nat.zero_le _⟩) F hA hr (fun H locs hw8 hr => ?_)
  clear hc7
  exact bX19_arriveAll_186 hst F hA E hK2 hK125 x0 x1 x3 x4 x5 x6 x7 x8 x9 hx0 hx8 hr (lv_sub hl [0, 1, 2, 3, 4, 5, 6, 7, 8] rfl) h
def fX19_arriveAll_204 (N : Nat) (K2 : Nat → Int32 → St → Option (Int32 × St)) (x0 : Nat) (x1 : Int32) (z : St) : Option (Int32 × St) := K2 x0 x1 z
set_option maxHeartbeats 4000000 in
set_option maxRecDepth 100000 in
theorem bX19_arriveAll_204 (hst : zSt B ids) (F : zFx p m c cX19_arriveAll 10 s args RX19 D cy B ids A) (hA : ∀ q : Nat, s.heap.size ≤ q → A q) {r : Int32} {z' : St} (E : zEnd p l e rmX19_arriveAll s m args below meth c cX19_arriveAll D cy B ids A Q none z' .return_ True) {N : Nat} {K2 : Nat → Int32 → St → Option (Int32 × St)} (hK2 : ∀ (x0 : Nat) (x1 : Int32) (hx0 : (19, x0) ∈ ids) {z : St} {H : Heap} {locs : List Loc} {ls : Array Slot} (hr : zRep D cy B ids A s.heap z H locs) (hl : lv_has ls 10 [(0, .ref (B 19 x0)), (1, .int x1)]), K2 x0 x1 z = some (r, z') → W p l e rmX19_arriveAll s m args below meth c H locs 0 0 Q (F0 m 2 ls [])) (x0 : Nat) (x1 : Int32) (hx0 : (19, x0) ∈ ids) {z : St} {H : Heap} {locs : List Loc} {ls : Array Slot} (hr : zRep D cy B ids A s.heap z H locs) (hl : lv_has ls 10 [(0, .ref (B 19 x0)), (1, .int x1)]) (h : fX19_arriveAll_204 N K2 x0 x1 z = some (r, z')) : W p l e rmX19_arriveAll s m args below meth c H locs 0 0 Q (F0 m 204 ls []) := by
  unfold fX19_arriveAll_204 at h
  refine lv_goto (tgt := 2) F.1 F.2.1 dX19_arriveAll_204 (by decide) ?_
  exact hK2 x0 x1 hx0 hr (lv_sub hl [0, 1] rfl) h
def fX19_arriveAll_125b (N : Nat) (K2 : Nat → Int32 → St → Option (Int32 × St)) (K125 : Nat → Int32 → Int32 → Int32 → Int32 → Int32 → Int32 → Option Nat → Int32 → St → Option (Int32 × St)) (x0 : Nat) (x1 : Int32) (x3 : Int32) (x4 : Int32) (x5 : Int32) (x6 : Int32) (x7 : Int32) (x8 : Option Nat) (x9 : Int32) (z : St) : Option (Int32 × St) := zd x8 fun a1 => if (zgI z 16 5 a1) ≤ x9 then (if x7 = (-1 : Int32) then (fX19_arriveAll_204 N K2 x0 x1 z) else (zc (fX19_drop N x0 x7 z) fun _ z5 => fX19_arriveAll_204 N K2 x0 x1 z5)) else (if x4 = x9 then (fX19_arriveAll_154 N K2 K125 x0 x1 x3 x4 x5 x6 x7 a1 x9 z) else (if ¬ x4 = (-1 : Int32) then (fX19_arriveAll_186 N K2 K125 x0 x1 x3 x4 x5 x6 x7 a1 x9 z) else (if x9 = x3 then (fX19_arriveAll_186 N K2 K125 x0 x1 x3 x4 x5 x6 x7 a1 x9 z) else (fX19_arriveAll_154 N K2 K125 x0 x1 x3 x4 x5 x6 x7 a1 x9 z))))
def fX19_arriveAll_125 (N : Nat) (K2 : Nat → Int32 → St → Option (Int32 × St)) : Nat → Nat → Int32 → Int32 → Int32 → Int32 → Int32 → Int32 → Option Nat → Int32 → St → Option (Int32 × St)
  | 0 => fun _ _ _ _ _ _ _ _ _ _ => none
  | n + 1 => fX19_arriveAll_125b N K2 (fX19_arriveAll_125 N K2 n)
set_option maxHeartbeats 4000000 in
set_option maxRecDepth 100000 in
theorem bX19_arriveAll_125 (hst : zSt B ids) (F : zFx p m c cX19_arriveAll 10 s args RX19 D cy B ids A) (hA : ∀ q : Nat, s.heap.size ≤ q → A q) {r : Int32} {z' : St} (E : zEnd p l e rmX19_arriveAll s m args below meth c cX19_arriveAll D cy B ids A Q none z' .return_ True) {N : Nat} {K2 : Nat → Int32 → St → Option (Int32 × St)} {K125 : Nat → Int32 → Int32 → Int32 → Int32 → Int32 → Int32 → Option Nat → Int32 → St → Option (Int32 × St)} (hK2 : ∀ (x0 : Nat) (x1 : Int32) (hx0 : (19, x0) ∈ ids) {z : St} {H : Heap} {locs : List Loc} {ls : Array Slot} (hr : zRep D cy B ids A s.heap z H locs) (hl : lv_has ls 10 [(0, .ref (B 19 x0)), (1, .int x1)]), K2 x0 x1 z = some (r, z') → W p l e rmX19_arriveAll s m args below meth c H locs 0 0 Q (F0 m 2 ls [])) (hK125 : ∀ (x0 : Nat) (x1 : Int32) (x3 : Int32) (x4 : Int32) (x5 : Int32) (x6 : Int32) (x7 : Int32) (x8 : Option Nat) (x9 : Int32) (hx0 : (19, x0) ∈ ids) (hx8 : ∀ t, x8 = some t → (16, t) ∈ ids) {z : St} {H : Heap} {locs : List Loc} {ls : Array Slot} (hr : zRep D cy B ids A s.heap z H locs) (hl : lv_has ls 10 [(0, .ref (B 19 x0)), (1, .int x1), (3, .int x3), (4, .int x4), (5, .int x5), (6, .int x6), (7, .int x7), (8, va_rf (Option.map (B 16) x8)), (9, .int x9)]), K125 x0 x1 x3 x4 x5 x6 x7 x8 x9 z = some (r, z') → W p l e rmX19_arriveAll s m args below meth c H locs 0 0 Q (F0 m 125 ls [])) (x0 : Nat) (x1 : Int32) (x3 : Int32) (x4 : Int32) (x5 : Int32) (x6 : Int32) (x7 : Int32) (x8 : Option Nat) (x9 : Int32) (hx0 : (19, x0) ∈ ids) (hx8 : ∀ t, x8 = some t → (16, t) ∈ ids) {z : St} {H : Heap} {locs : List Loc} {ls : Array Slot} (hr : zRep D cy B ids A s.heap z H locs) (hl : lv_has ls 10 [(0, .ref (B 19 x0)), (1, .int x1), (3, .int x3), (4, .int x4), (5, .int x5), (6, .int x6), (7, .int x7), (8, va_rf (Option.map (B 16) x8)), (9, .int x9)]) (h : fX19_arriveAll_125b N K2 K125 x0 x1 x3 x4 x5 x6 x7 x8 x9 z = some (r, z')) : W p l e rmX19_arriveAll s m args below meth c H locs 0 0 Q (F0 m 125 ls []) := by
  unfold fX19_arriveAll_125b at h
  refine lv_iload F.1 F.2.1 dX19_arriveAll_125 (lv_at hl 8 rfl) ?_
  refine zr_aload F.1 F.2.1 dX19_arriveAll_127 (lv_at hl 7 rfl) ?_
  replace h := zd_some h
  obtain ⟨a1, rfl, h⟩ := h
  refine gf19_292 F (hx8 _ rfl) hr dX19_arriveAll_129 ?_
  refine lv_icmp_ge (tgt := 192) F.1 F.2.1 dX19_arriveAll_132 (by decide) (fun c2 => ?_) (fun c2 => ?_)
  · replace h := zi_t c2 h
    refine lv_iload F.1 F.2.1 dX19_arriveAll_192 (lv_at hl 6 rfl) ?_
    refine lv_iconst (v := (-1 : Int32)) F.1 F.2.1 dX19_arriveAll_194 (by decide) ?_
    refine lv_icmp_eq (tgt := 204) F.1 F.2.1 dX19_arriveAll_195 (by decide) (fun c3 => ?_) (fun c3 => ?_)
    · replace h := zi_t c3 h
      exact bX19_arriveAll_204 hst F hA E hK2 x0 x1 hx0 hr (lv_sub hl [0, 1] rfl) h
    · replace h := zi_f c3 h
      refine lv_aload_n F.1 F.2.1 dX19_arriveAll_198 rfl (lv_at hl 0 rfl) ?_
      refine lv_iload F.1 F.2.1 dX19_arriveAll_199 (lv_at hl 6 rfl) ?_
      replace h := zc_some h
      obtain ⟨r4, z5, hc6, h⟩ := h
      refine zr_callv (zrun_V (As := [.int x7]) (rest := []) zq_2545 zq_2547 zs_X19_drop zq_2548 zq_4 hdX19_drop (by decide) (T := TX19) (N := 32) rfl (okX19_drop l D cy B ids hst N x0 hx0 x7  hr.2.2 hc6) F hr hx0 hl.1 rfl (by decide) dX19_arriveAll_201 rfl rfl hroX19_arriveAll_X19_drop ⟨Nat.zero_le _, Nat.zero_le _⟩) F hA hr (fun H locs hw7 hr => ?_)
      clear hc6
      exact bX19_arriveAll_204 hst F hA E hK2 x0 x1 hx0 hr (lv_sub hl [0, 1] rfl) h
  · replace h := zi_f c2 h
    refine lv_iload F.1 F.2.1 dX19_arriveAll_135 (lv_at hl 3 rfl) ?_
    refine lv_iload F.1 F.2.1 dX19_arriveAll_137 (lv_at hl 8 rfl) ?_
    refine lv_icmp_eq (tgt := 154) F.1 F.2.1 dX19_arriveAll_139 (by decide) (fun c8 => ?_) (fun c8 => ?_)
    · replace h := zi_t c8 h
      exact bX19_arriveAll_154 hst F hA E hK2 hK125 x0 x1 x3 x4 x5 x6 x7 a1 x9 hx0 (hx8 _ rfl) hr (lv_sub hl [0, 1, 2, 3, 4, 5, 6, 7, 8] rfl) h
    · replace h := zi_f c8 h
      refine lv_iload F.1 F.2.1 dX19_arriveAll_142 (lv_at hl 3 rfl) ?_
      refine lv_iconst (v := (-1 : Int32)) F.1 F.2.1 dX19_arriveAll_144 (by decide) ?_
      refine lv_icmp_ne (tgt := 186) F.1 F.2.1 dX19_arriveAll_145 (by decide) (fun c9 => ?_) (fun c9 => ?_)
      · replace h := zi_t c9 h
        exact bX19_arriveAll_186 hst F hA E hK2 hK125 x0 x1 x3 x4 x5 x6 x7 a1 x9 hx0 (hx8 _ rfl) hr (lv_sub hl [0, 1, 2, 3, 4, 5, 6, 7, 8] rfl) h
      · replace h := zi_f (fun q => q c9) h
        refine lv_iload F.1 F.2.1 dX19_arriveAll_148 (lv_at hl 8 rfl) ?_
        refine lv_iload_n F.1 F.2.1 dX19_arriveAll_150 rfl (lv_at hl 2 rfl) ?_
        refine lv_icmp_eq (tgt := 186) F.1 F.2.1 dX19_arriveAll_151 (by decide) (fun c10 => ?_) (fun c10 => ?_)
        · replace h := zi_t c10 h
          exact bX19_arriveAll_186 hst F hA E hK2 hK125 x0 x1 x3 x4 x5 x6 x7 a1 x9 hx0 (hx8 _ rfl) hr (lv_sub hl [0, 1, 2, 3, 4, 5, 6, 7, 8] rfl) h
        · replace h := zi_f c10 h
          exact bX19_arriveAll_154 hst F hA E hK2 hK125 x0 x1 x3 x4 x5 x6 x7 a1 x9 hx0 (hx8 _ rfl) hr (lv_sub hl [0, 1, 2, 3, 4, 5, 6, 7, 8] rfl) h
theorem lX19_arriveAll_125 (hst : zSt B ids) (F : zFx p m c cX19_arriveAll 10 s args RX19 D cy B ids A) (hA : ∀ q : Nat, s.heap.size ≤ q → A q) {r : Int32} {z' : St} (E : zEnd p l e rmX19_arriveAll s m args below meth c cX19_arriveAll D cy B ids A Q none z' .return_ True) {N : Nat} {K2 : Nat → Int32 → St → Option (Int32 × St)} (hK2 : ∀ (x0 : Nat) (x1 : Int32) (hx0 : (19, x0) ∈ ids) {z : St} {H : Heap} {locs : List Loc} {ls : Array Slot} (hr : zRep D cy B ids A s.heap z H locs) (hl : lv_has ls 10 [(0, .ref (B 19 x0)), (1, .int x1)]), K2 x0 x1 z = some (r, z') → W p l e rmX19_arriveAll s m args below meth c H locs 0 0 Q (F0 m 2 ls [])) : ∀ (n : Nat) (x0 : Nat) (x1 : Int32) (x3 : Int32) (x4 : Int32) (x5 : Int32) (x6 : Int32) (x7 : Int32) (x8 : Option Nat) (x9 : Int32) (hx0 : (19, x0) ∈ ids) (hx8 : ∀ t, x8 = some t → (16, t) ∈ ids) {z : St} {H : Heap} {locs : List Loc} {ls : Array Slot} (hr : zRep D cy B ids A s.heap z H locs) (hl : lv_has ls 10 [(0, .ref (B 19 x0)), (1, .int x1), (3, .int x3), (4, .int x4), (5, .int x5), (6, .int x6), (7, .int x7), (8, va_rf (Option.map (B 16) x8)), (9, .int x9)]), fX19_arriveAll_125 N K2 n x0 x1 x3 x4 x5 x6 x7 x8 x9 z = some (r, z') → W p l e rmX19_arriveAll s m args below meth c H locs 0 0 Q (F0 m 125 ls []) := by
  intro n
  induction n with
  | zero => intro x0 x1 x3 x4 x5 x6 x7 x8 x9 hx0 hx8 z H locs ls hr hl h; cases h
  | succ n ih => intro x0 x1 x3 x4 x5 x6 x7 x8 x9 hx0 hx8 z H locs ls hr hl h; exact bX19_arriveAll_125 hst F hA E hK2 ih x0 x1 x3 x4 x5 x6 x7 x8 x9 hx0 hx8 hr hl h
def fX19_arriveAll_2b (N : Nat) (K2 : Nat → Int32 → St → Option (Int32 × St)) (x0 : Nat) (x1 : Int32) (z : St) : Option (Int32 × St) := if (zgI z 19 23 x0) ≤ x1 then (some (0, z)) else (zk (((7 : Int32) * x1) + (6 : Int32)) 3584 <| if (zgA z 188 x0 (Int32.toNatClampNeg (((7 : Int32) * x1) + (6 : Int32)))) = (zgI z 19 24 x0) then (zk ((7 : Int32) * x1) 3584 <| zl (zgA z 188 x0 (Int32.toNatClampNeg ((7 : Int32) * x1))) fun v5 => zk (((7 : Int32) * x1) + (1 : Int32)) 3584 <| zl (zgA z 188 x0 (Int32.toNatClampNeg (((7 : Int32) * x1) + (1 : Int32)))) fun v7 => zk (((7 : Int32) * x1) + (2 : Int32)) 3584 <| zl (zgA z 188 x0 (Int32.toNatClampNeg (((7 : Int32) * x1) + (2 : Int32)))) fun v9 => zk (((7 : Int32) * x1) + (3 : Int32)) 3584 <| zl (zgA z 188 x0 (Int32.toNatClampNeg (((7 : Int32) * x1) + (3 : Int32)))) fun v11 => zk (((7 : Int32) * x1) + (4 : Int32)) 3584 <| zl (zgA z 188 x0 (Int32.toNatClampNeg (((7 : Int32) * x1) + (4 : Int32)))) fun v13 => zk (((7 : Int32) * x1) + (5 : Int32)) 3584 <| zl (zgA z 188 x0 (Int32.toNatClampNeg (((7 : Int32) * x1) + (5 : Int32)))) fun v15 => zc (fX19_takeFrame N x0 x1 z) fun _ z17 => zk v5 24 <| zl (zgQ z17 187 x0 (Int32.toNatClampNeg v5)) fun y21 => fX19_arriveAll_125 N K2 N x0 x1 v7 v9 v11 v13 v15 y21 (0 : Int32) z17) else (zl (x1 + 1) fun v22 => K2 x0 v22 z))
def fX19_arriveAll_2 (N : Nat)  : Nat → Nat → Int32 → St → Option (Int32 × St)
  | 0 => fun _ _ _ => none
  | n + 1 => fX19_arriveAll_2b N (fX19_arriveAll_2 N  n)
set_option maxHeartbeats 4000000 in
set_option maxRecDepth 100000 in
theorem bX19_arriveAll_2 (hst : zSt B ids) (F : zFx p m c cX19_arriveAll 10 s args RX19 D cy B ids A) (hA : ∀ q : Nat, s.heap.size ≤ q → A q) {r : Int32} {z' : St} (E : zEnd p l e rmX19_arriveAll s m args below meth c cX19_arriveAll D cy B ids A Q none z' .return_ True) {N : Nat} {K2 : Nat → Int32 → St → Option (Int32 × St)} (hK2 : ∀ (x0 : Nat) (x1 : Int32) (hx0 : (19, x0) ∈ ids) {z : St} {H : Heap} {locs : List Loc} {ls : Array Slot} (hr : zRep D cy B ids A s.heap z H locs) (hl : lv_has ls 10 [(0, .ref (B 19 x0)), (1, .int x1)]), K2 x0 x1 z = some (r, z') → W p l e rmX19_arriveAll s m args below meth c H locs 0 0 Q (F0 m 2 ls [])) (x0 : Nat) (x1 : Int32) (hx0 : (19, x0) ∈ ids) {z : St} {H : Heap} {locs : List Loc} {ls : Array Slot} (hr : zRep D cy B ids A s.heap z H locs) (hl : lv_has ls 10 [(0, .ref (B 19 x0)), (1, .int x1)]) (h : fX19_arriveAll_2b N K2 x0 x1 z = some (r, z')) : W p l e rmX19_arriveAll s m args below meth c H locs 0 0 Q (F0 m 2 ls []) := by
  unfold fX19_arriveAll_2b at h
  refine lv_iload_n F.1 F.2.1 dX19_arriveAll_2 rfl (lv_at hl 1 rfl) ?_
  refine lv_aload_n F.1 F.2.1 dX19_arriveAll_3 rfl (lv_at hl 0 rfl) ?_
  refine gf19_171 F hx0 hr dX19_arriveAll_4 ?_
  refine lv_icmp_ge (tgt := 207) F.1 F.2.1 dX19_arriveAll_7 (by decide) (fun c1 => ?_) (fun c1 => ?_)
  · replace h := zi_t c1 h
    obtain ⟨rfl, rfl⟩ := zret h
    exact E _ _ _ _ dX19_arriveAll_207 trivial hr
  · replace h := zi_f c1 h
    refine lv_aload_n F.1 F.2.1 dX19_arriveAll_10 rfl (lv_at hl 0 rfl) ?_
    refine gf19_124 F hx0 hr dX19_arriveAll_11 ?_
    refine lv_bipush (v := (7 : Int32)) F.1 F.2.1 dX19_arriveAll_14 (by decide) ?_
    refine lv_iload_n F.1 F.2.1 dX19_arriveAll_16 rfl (lv_at hl 1 rfl) ?_
    refine lv_imul F.1 F.2.1 dX19_arriveAll_17 ?_
    refine lv_bipush (v := (6 : Int32)) F.1 F.2.1 dX19_arriveAll_18 (by decide) ?_
    refine lv_iadd F.1 F.2.1 dX19_arriveAll_20 ?_
    replace h := zk_some h
    obtain ⟨c2, h⟩ := h
    refine zr_iald (k := 188) (by decide) rfl (by decide) F (zal_a F hx0 (j := 22) rfl) hr dX19_arriveAll_21 c2 ?_
    refine lv_aload_n F.1 F.2.1 dX19_arriveAll_22 rfl (lv_at hl 0 rfl) ?_
    refine gf19_143 F hx0 hr dX19_arriveAll_23 ?_
    refine lv_icmp_eq (tgt := 35) F.1 F.2.1 dX19_arriveAll_26 (by decide) (fun c3 => ?_) (fun c3 => ?_)
    · replace h := zi_t c3 h
      refine lv_aload_n F.1 F.2.1 dX19_arriveAll_35 rfl (lv_at hl 0 rfl) ?_
      refine gf19_124 F hx0 hr dX19_arriveAll_36 ?_
      refine lv_bipush (v := (7 : Int32)) F.1 F.2.1 dX19_arriveAll_39 (by decide) ?_
      refine lv_iload_n F.1 F.2.1 dX19_arriveAll_41 rfl (lv_at hl 1 rfl) ?_
      refine lv_imul F.1 F.2.1 dX19_arriveAll_42 ?_
      replace h := zk_some h
      obtain ⟨c4, h⟩ := h
      refine zr_iald (k := 188) (by decide) rfl (by decide) F (zal_a F hx0 (j := 22) rfl) hr dX19_arriveAll_43 c4 ?_
      refine lv_topi (fun v5 ev5 => ?_)
      replace h := zl_sub ev5 h
      refine lv_istore_n (lv' := [(2, .int v5), (0, .ref (B 19 x0)), (1, .int x1)]) F.1 F.2.1 dX19_arriveAll_44 rfl hl (by decide) rfl (fun ls hl => ?_)
      refine lv_aload_n F.1 F.2.1 dX19_arriveAll_45 rfl (lv_at hl 1 rfl) ?_
      refine gf19_124 F hx0 hr dX19_arriveAll_46 ?_
      refine lv_bipush (v := (7 : Int32)) F.1 F.2.1 dX19_arriveAll_49 (by decide) ?_
      refine lv_iload_n F.1 F.2.1 dX19_arriveAll_51 rfl (lv_at hl 2 rfl) ?_
      refine lv_imul F.1 F.2.1 dX19_arriveAll_52 ?_
      refine lv_iconst (v := (1 : Int32)) F.1 F.2.1 dX19_arriveAll_53 (by decide) ?_
      refine lv_iadd F.1 F.2.1 dX19_arriveAll_54 ?_
      replace h := zk_some h
      obtain ⟨c6, h⟩ := h
      refine zr_iald (k := 188) (by decide) rfl (by decide) F (zal_a F hx0 (j := 22) rfl) hr dX19_arriveAll_55 c6 ?_
      refine lv_topi (fun v7 ev7 => ?_)
      replace h := zl_sub ev7 h
      refine lv_istore_n (lv' := [(3, .int v7), (2, .int v5), (0, .ref (B 19 x0)), (1, .int x1)]) F.1 F.2.1 dX19_arriveAll_56 rfl hl (by decide) rfl (fun ls hl => ?_)
      refine lv_aload_n F.1 F.2.1 dX19_arriveAll_57 rfl (lv_at hl 2 rfl) ?_
      refine gf19_124 F hx0 hr dX19_arriveAll_58 ?_
      refine lv_bipush (v := (7 : Int32)) F.1 F.2.1 dX19_arriveAll_61 (by decide) ?_
      refine lv_iload_n F.1 F.2.1 dX19_arriveAll_63 rfl (lv_at hl 3 rfl) ?_
      refine lv_imul F.1 F.2.1 dX19_arriveAll_64 ?_
      refine lv_iconst (v := (2 : Int32)) F.1 F.2.1 dX19_arriveAll_65 (by decide) ?_
      refine lv_iadd F.1 F.2.1 dX19_arriveAll_66 ?_
      replace h := zk_some h
      obtain ⟨c8, h⟩ := h
      refine zr_iald (k := 188) (by decide) rfl (by decide) F (zal_a F hx0 (j := 22) rfl) hr dX19_arriveAll_67 c8 ?_
      refine lv_topi (fun v9 ev9 => ?_)
      replace h := zl_sub ev9 h
      refine lv_istore (lv' := [(4, .int v9), (3, .int v7), (2, .int v5), (0, .ref (B 19 x0)), (1, .int x1)]) F.1 F.2.1 dX19_arriveAll_68 hl (by decide) rfl (fun ls hl => ?_)
      refine lv_aload_n F.1 F.2.1 dX19_arriveAll_70 rfl (lv_at hl 3 rfl) ?_
      refine gf19_124 F hx0 hr dX19_arriveAll_71 ?_
      refine lv_bipush (v := (7 : Int32)) F.1 F.2.1 dX19_arriveAll_74 (by decide) ?_
      refine lv_iload_n F.1 F.2.1 dX19_arriveAll_76 rfl (lv_at hl 4 rfl) ?_
      refine lv_imul F.1 F.2.1 dX19_arriveAll_77 ?_
      refine lv_iconst (v := (3 : Int32)) F.1 F.2.1 dX19_arriveAll_78 (by decide) ?_
      refine lv_iadd F.1 F.2.1 dX19_arriveAll_79 ?_
      replace h := zk_some h
      obtain ⟨c10, h⟩ := h
      refine zr_iald (k := 188) (by decide) rfl (by decide) F (zal_a F hx0 (j := 22) rfl) hr dX19_arriveAll_80 c10 ?_
      refine lv_topi (fun v11 ev11 => ?_)
      replace h := zl_sub ev11 h
      refine lv_istore (lv' := [(5, .int v11), (4, .int v9), (3, .int v7), (2, .int v5), (0, .ref (B 19 x0)), (1, .int x1)]) F.1 F.2.1 dX19_arriveAll_81 hl (by decide) rfl (fun ls hl => ?_)
      refine lv_aload_n F.1 F.2.1 dX19_arriveAll_83 rfl (lv_at hl 4 rfl) ?_
      refine gf19_124 F hx0 hr dX19_arriveAll_84 ?_
      refine lv_bipush (v := (7 : Int32)) F.1 F.2.1 dX19_arriveAll_87 (by decide) ?_
      refine lv_iload_n F.1 F.2.1 dX19_arriveAll_89 rfl (lv_at hl 5 rfl) ?_
      refine lv_imul F.1 F.2.1 dX19_arriveAll_90 ?_
      refine lv_iconst (v := (4 : Int32)) F.1 F.2.1 dX19_arriveAll_91 (by decide) ?_
      refine lv_iadd F.1 F.2.1 dX19_arriveAll_92 ?_
      replace h := zk_some h
      obtain ⟨c12, h⟩ := h
      refine zr_iald (k := 188) (by decide) rfl (by decide) F (zal_a F hx0 (j := 22) rfl) hr dX19_arriveAll_93 c12 ?_
      refine lv_topi (fun v13 ev13 => ?_)
      replace h := zl_sub ev13 h
      refine lv_istore (lv' := [(6, .int v13), (5, .int v11), (4, .int v9), (3, .int v7), (2, .int v5), (0, .ref (B 19 x0)), (1, .int x1)]) F.1 F.2.1 dX19_arriveAll_94 hl (by decide) rfl (fun ls hl => ?_)
      refine lv_aload_n F.1 F.2.1 dX19_arriveAll_96 rfl (lv_at hl 5 rfl) ?_
      refine gf19_124 F hx0 hr dX19_arriveAll_97 ?_
      refine lv_bipush (v := (7 : Int32)) F.1 F.2.1 dX19_arriveAll_100 (by decide) ?_
      refine lv_iload_n F.1 F.2.1 dX19_arriveAll_102 rfl (lv_at hl 6 rfl) ?_
      refine lv_imul F.1 F.2.1 dX19_arriveAll_103 ?_
      refine lv_iconst (v := (5 : Int32)) F.1 F.2.1 dX19_arriveAll_104 (by decide) ?_
      refine lv_iadd F.1 F.2.1 dX19_arriveAll_105 ?_
      replace h := zk_some h
      obtain ⟨c14, h⟩ := h
      refine zr_iald (k := 188) (by decide) rfl (by decide) F (zal_a F hx0 (j := 22) rfl) hr dX19_arriveAll_106 c14 ?_
      refine lv_topi (fun v15 ev15 => ?_)
      replace h := zl_sub ev15 h
      refine lv_istore (lv' := [(7, .int v15), (6, .int v13), (5, .int v11), (4, .int v9), (3, .int v7), (2, .int v5), (0, .ref (B 19 x0)), (1, .int x1)]) F.1 F.2.1 dX19_arriveAll_107 hl (by decide) rfl (fun ls hl => ?_)
      refine lv_aload_n F.1 F.2.1 dX19_arriveAll_109 rfl (lv_at hl 6 rfl) ?_
      refine lv_iload_n F.1 F.2.1 dX19_arriveAll_110 rfl (lv_at hl 7 rfl) ?_
      replace h := zc_some h
      obtain ⟨r16, z17, hc18, h⟩ := h
      refine zr_callv (zrun_V (As := [.int x1]) (rest := []) zq_2541 zq_2543 zs_X19_takeFrame zq_2544 zq_4 hdX19_takeFrame (by decide) (T := TX19) (N := 32) rfl (okX19_takeFrame l D cy B ids hst N x0 hx0 x1  hr.2.2 hc18) F hr hx0 hl.1 rfl (by decide) dX19_arriveAll_111 rfl rfl hroX19_arriveAll_X19_takeFrame ⟨Nat.zero_le _, Nat.zero_le _⟩) F hA hr (fun H locs hw19 hr => ?_)
      clear hc18
      refine lv_aload_n F.1 F.2.1 dX19_arriveAll_114 rfl (lv_at hl 6 rfl) ?_
      refine gf19_120 F hx0 hr dX19_arriveAll_115 ?_
      refine lv_iload_n F.1 F.2.1 dX19_arriveAll_118 rfl (lv_at hl 5 rfl) ?_
      replace h := zk_some h
      obtain ⟨c20, h⟩ := h
      refine zr_aaldv (k := 187) (by decide) rfl rfl (zlen_d (by decide)) F (zal_a F hx0 (j := 20) rfl) hr dX19_arriveAll_119 c20 (fun y21 ey21 => ?_)
      replace h := zl_sub ey21 h
      have hy21 := zal_q hr (zal_a F hx0 (j := 20) rfl) rfl ey21
      clear ey21
      refine zr_astore (lv' := [(8, va_rf (Option.map (B 16) y21)), (7, .int v15), (6, .int v13), (5, .int v11), (4, .int v9), (3, .int v7), (2, .int v5), (0, .ref (B 19 x0)), (1, .int x1)]) F.1 F.2.1 dX19_arriveAll_120 hl (by decide) rfl (fun ls hl => ?_)
      refine lv_iconst (v := (0 : Int32)) F.1 F.2.1 dX19_arriveAll_122 (by decide) ?_
      refine lv_istore (lv' := [(9, .int (0 : Int32)), (8, va_rf (Option.map (B 16) y21)), (7, .int v15), (6, .int v13), (5, .int v11), (4, .int v9), (3, .int v7), (2, .int v5), (0, .ref (B 19 x0)), (1, .int x1)]) F.1 F.2.1 dX19_arriveAll_123 hl (by decide) (by simp only [List.filter, zrf_cat]; rfl) (fun ls hl => ?_)
      exact lX19_arriveAll_125 hst F hA E hK2 _ x0 x1 v7 v9 v11 v13 v15 y21 (0 : Int32) hx0 hy21 hr (lv_sub hl [8, 9, 6, 5, 4, 3, 2, 1, 0] rfl) h
    · replace h := zi_f c3 h
      obtain ⟨v22, ev22⟩ : ∃ y : Int32, y = (x1 + 1) := ⟨_, rfl⟩
      replace h := zl_sub ev22 h
      refine lv_iinc (v := v22) (lv' := [(1, .int v22), (0, .ref (B 19 x0))]) F.1 F.2.1 dX19_arriveAll_29 hl (k := 1) rfl (by rw [ev22]; rfl) (by decide) rfl (fun ls hl => ?_)
      refine lv_goto (tgt := 2) F.1 F.2.1 dX19_arriveAll_32 (by decide) ?_
      exact hK2 x0 v22 hx0 hr (lv_sub hl [1, 0] rfl) h
theorem lX19_arriveAll_2 (hst : zSt B ids) (F : zFx p m c cX19_arriveAll 10 s args RX19 D cy B ids A) (hA : ∀ q : Nat, s.heap.size ≤ q → A q) {r : Int32} {z' : St} (E : zEnd p l e rmX19_arriveAll s m args below meth c cX19_arriveAll D cy B ids A Q none z' .return_ True) {N : Nat}  : ∀ (n : Nat) (x0 : Nat) (x1 : Int32) (hx0 : (19, x0) ∈ ids) {z : St} {H : Heap} {locs : List Loc} {ls : Array Slot} (hr : zRep D cy B ids A s.heap z H locs) (hl : lv_has ls 10 [(0, .ref (B 19 x0)), (1, .int x1)]), fX19_arriveAll_2 N  n x0 x1 z = some (r, z') → W p l e rmX19_arriveAll s m args below meth c H locs 0 0 Q (F0 m 2 ls []) := by
  intro n
  induction n with
  | zero => intro x0 x1 hx0 z H locs ls hr hl h; cases h
  | succ n ih => intro x0 x1 hx0 z H locs ls hr hl h; exact bX19_arriveAll_2 hst F hA E ih x0 x1 hx0 hr hl h
def fX19_arriveAll (N : Nat)  (x0 : Nat) (z : St) : Option (Int32 × St) := fX19_arriveAll_2 N N x0 (0 : Int32) z
set_option maxHeartbeats 4000000 in
set_option maxRecDepth 100000 in
theorem bX19_arriveAll_0 (hst : zSt B ids) (F : zFx p m c cX19_arriveAll 10 s args RX19 D cy B ids A) (hA : ∀ q : Nat, s.heap.size ≤ q → A q) {r : Int32} {z' : St} (E : zEnd p l e rmX19_arriveAll s m args below meth c cX19_arriveAll D cy B ids A Q none z' .return_ True) {N : Nat}  (x0 : Nat) (hx0 : (19, x0) ∈ ids) {z : St} {H : Heap} {locs : List Loc} {ls : Array Slot} (hr : zRep D cy B ids A s.heap z H locs) (hl : lv_has ls 10 [(0, .ref (B 19 x0))]) (h : fX19_arriveAll N x0 z = some (r, z')) : W p l e rmX19_arriveAll s m args below meth c H locs 0 0 Q (F0 m 0 ls []) := by
  unfold fX19_arriveAll at h
  refine lv_iconst (v := (0 : Int32)) F.1 F.2.1 dX19_arriveAll_0 (by decide) ?_
  refine lv_istore_n (lv' := [(1, .int (0 : Int32)), (0, .ref (B 19 x0))]) F.1 F.2.1 dX19_arriveAll_1 rfl hl (by decide) rfl (fun ls hl => ?_)
  exact lX19_arriveAll_2 hst F hA E  _ x0 (0 : Int32) hx0 hr (lv_sub hl [1, 0] rfl) h
end SX19_arriveAll
set_option maxRecDepth 100000 in
theorem okX19_arriveAll (l : Launch) (D : va_G) (cy : Nat → ClassId) (B : Nat → Nat → Nat) (ids : List (Nat × Nat)) (hst : zSt B ids) (N : Nat) (x0 : Nat) (hx0 : (19, x0) ∈ ids) {z : St} {r : Int32} {z' : St} (hW : zWf ids z) (h : fX19_arriveAll N x0 z = some (r, z')) : zM l yX19_arriveAll (zws yX19_arriveAll cX19_arriveAll 10 none) rmX19_arriveAll D cy B ids [.ref (B 19 x0)] none True z z' :=
  zM_of hst hW (by decide +kernel) (Nat.le_of_ble_eq_true rfl) (fun p e s m args below meth c A ls F hA hret hlocks hr hl => bX19_arriveAll_0 hst F hA (zEnd_v F hret hlocks) x0 hx0 hr hl h)
abbrev rmX19_neighbours : Room := { frames := 0, cells := 0, slots := 0, locals := 0 }
theorem hdX19_neighbours : yX19_neighbours.cls ≠ "java/lang/invoke/MethodHandle" ∧ yX19_neighbours.cls ≠ "java/lang/invoke/VarHandle" ∧ (parseMethodDescriptor yX19_neighbours.desc).map (fun d => d.parameters.length) = some 2 := by decide +kernel
section SX19_neighbours
variable {p : Program} {l : Launch} {e : Env} {s : State} {m : MethodId} {args : Array Value} {below : List Frame} {meth : Method} {c : Code} {Q : State → Prop} {D : va_G} {cy : Nat → ClassId} {B : Nat → Nat → Nat} {ids : List (Nat × Nat)} {A : Nat → Prop}
def fX19_neighbours_74 (N : Nat) (K2 : Nat → Int32 → Int32 → St → Option (Int32 × St)) (x0 : Nat) (x1 : Int32) (x2 : Int32) (x3 : Option Nat) (s0 : Nat) (s1 : Int32) (z : St) : Option (Int32 × St) := zq (s1 = 0 ∨ s1 = 1) <| zl (zsI z 12 23 s0 s1) fun z1 => zd x3 fun a3 => zl (zgR z1 18 2 a3) fun y4 => zd y4 fun a5 => zq ((zgI z1 16 3 a5) = 0 ∨ (zgI z1 16 3 a5) = 1) <| zl (zsI z1 18 5 a3 (zgI z1 16 3 a5)) fun z6 => zl (x2 + 1) fun v8 => K2 x0 x1 v8 z6
set_option maxHeartbeats 4000000 in
set_option maxRecDepth 100000 in
theorem bX19_neighbours_74 (hst : zSt B ids) (F : zFx p m c cX19_neighbours 5 s args RX19 D cy B ids A) (hA : ∀ q : Nat, s.heap.size ≤ q → A q) {r : Int32} {z' : St} (E : zEnd p l e rmX19_neighbours s m args below meth c cX19_neighbours D cy B ids A Q none z' .return_ True) {N : Nat} {K2 : Nat → Int32 → Int32 → St → Option (Int32 × St)} (hK2 : ∀ (x0 : Nat) (x1 : Int32) (x2 : Int32) (hx0 : (12, x0) ∈ ids) {z : St} {H : Heap} {locs : List Loc} {ls : Array Slot} (hr : zRep D cy B ids A s.heap z H locs) (hl : lv_has ls 5 [(0, .ref (B 12 x0)), (1, .int x1), (2, .int x2)]), K2 x0 x1 x2 z = some (r, z') → W p l e rmX19_neighbours s m args below meth c H locs 0 0 Q (F0 m 2 ls [])) (x0 : Nat) (x1 : Int32) (x2 : Int32) (x3 : Option Nat) (s0 : Nat) (s1 : Int32) (hx0 : (12, x0) ∈ ids) (hx3 : ∀ t, x3 = some t → (18, t) ∈ ids) (hs0 : (12, s0) ∈ ids) {z : St} {H : Heap} {locs : List Loc} {ls : Array Slot} (hr : zRep D cy B ids A s.heap z H locs) (hl : lv_has ls 5 [(0, .ref (B 12 x0)), (1, .int x1), (2, .int x2), (3, va_rf (Option.map (B 18) x3))]) (h : fX19_neighbours_74 N K2 x0 x1 x2 x3 s0 s1 z = some (r, z')) : W p l e rmX19_neighbours s m args below meth c H locs 0 0 Q (F0 m 74 ls [.int s1, .ref (B 12 s0)]) := by
  unfold fX19_neighbours_74 at h
  replace h := zq_some h
  obtain ⟨c2, h⟩ := h
  refine pf19_489 F hs0 hr dX19_neighbours_74 s1 c2 (fun H locs z1 ez1 hr => ?_)
  replace h := zl_sub ez1 h
  clear ez1
  refine zr_aload_n F.1 F.2.1 dX19_neighbours_77 rfl (lv_at hl 3 rfl) ?_
  refine zr_aload_n F.1 F.2.1 dX19_neighbours_78 rfl (lv_at hl 3 rfl) ?_
  replace h := zd_some h
  obtain ⟨a3, rfl, h⟩ := h
  refine gf19_149 F (hx3 _ rfl) hr dX19_neighbours_79 (fun y4 ey4 => ?_)
  replace h := zl_sub ey4 h
  have hy4 := zal_g hr (hx3 _ rfl) (j := 2) rfl ey4
  clear ey4
  replace h := zd_some h
  obtain ⟨a5, rfl, h⟩ := h
  refine gf19_158 F (hy4 _ rfl) hr dX19_neighbours_82 ?_
  replace h := zq_some h
  obtain ⟨c7, h⟩ := h
  refine pf19_479 F (hx3 _ rfl) hr dX19_neighbours_85 (zgI z1 16 3 a5) c7 (fun H locs z6 ez6 hr => ?_)
  replace h := zl_sub ez6 h
  clear ez6
  obtain ⟨v8, ev8⟩ : ∃ y : Int32, y = (x2 + 1) := ⟨_, rfl⟩
  replace h := zl_sub ev8 h
  refine lv_iinc (v := v8) (lv' := [(2, .int v8), (0, .ref (B 12 x0)), (1, .int x1), (3, .ref (B 18 a3))]) F.1 F.2.1 dX19_neighbours_88 hl (k := 2) rfl (by rw [ev8]; rfl) (by decide) rfl (fun ls hl => ?_)
  refine lv_goto (tgt := 2) F.1 F.2.1 dX19_neighbours_91 (by decide) ?_
  exact hK2 x0 x1 v8 hx0 hr (lv_sub hl [1, 2, 0] rfl) h
def fX19_neighbours_69 (N : Nat) (K2 : Nat → Int32 → Int32 → St → Option (Int32 × St)) (x0 : Nat) (x1 : Int32) (x2 : Int32) (x3 : Option Nat) (s0 : Nat) (z : St) : Option (Int32 × St) := fX19_neighbours_74 N K2 x0 x1 x2 x3 s0 (1 : Int32) z
set_option maxHeartbeats 4000000 in
set_option maxRecDepth 100000 in
theorem bX19_neighbours_69 (hst : zSt B ids) (F : zFx p m c cX19_neighbours 5 s args RX19 D cy B ids A) (hA : ∀ q : Nat, s.heap.size ≤ q → A q) {r : Int32} {z' : St} (E : zEnd p l e rmX19_neighbours s m args below meth c cX19_neighbours D cy B ids A Q none z' .return_ True) {N : Nat} {K2 : Nat → Int32 → Int32 → St → Option (Int32 × St)} (hK2 : ∀ (x0 : Nat) (x1 : Int32) (x2 : Int32) (hx0 : (12, x0) ∈ ids) {z : St} {H : Heap} {locs : List Loc} {ls : Array Slot} (hr : zRep D cy B ids A s.heap z H locs) (hl : lv_has ls 5 [(0, .ref (B 12 x0)), (1, .int x1), (2, .int x2)]), K2 x0 x1 x2 z = some (r, z') → W p l e rmX19_neighbours s m args below meth c H locs 0 0 Q (F0 m 2 ls [])) (x0 : Nat) (x1 : Int32) (x2 : Int32) (x3 : Option Nat) (s0 : Nat) (hx0 : (12, x0) ∈ ids) (hx3 : ∀ t, x3 = some t → (18, t) ∈ ids) (hs0 : (12, s0) ∈ ids) {z : St} {H : Heap} {locs : List Loc} {ls : Array Slot} (hr : zRep D cy B ids A s.heap z H locs) (hl : lv_has ls 5 [(0, .ref (B 12 x0)), (1, .int x1), (2, .int x2), (3, va_rf (Option.map (B 18) x3))]) (h : fX19_neighbours_69 N K2 x0 x1 x2 x3 s0 z = some (r, z')) : W p l e rmX19_neighbours s m args below meth c H locs 0 0 Q (F0 m 69 ls [.ref (B 12 s0)]) := by
  unfold fX19_neighbours_69 at h
  refine lv_iconst (v := (1 : Int32)) F.1 F.2.1 dX19_neighbours_69 (by decide) ?_
  refine lv_goto (tgt := 74) F.1 F.2.1 dX19_neighbours_70 (by decide) ?_
  exact bX19_neighbours_74 hst F hA E hK2 x0 x1 x2 x3 s0 (1 : Int32) hx0 hx3 hs0 hr (lv_sub hl [0, 1, 2, 3] rfl) h
def fX19_neighbours_44 (N : Nat) (K2 : Nat → Int32 → Int32 → St → Option (Int32 × St)) (x0 : Nat) (x1 : Int32) (x2 : Int32) (x3 : Option Nat) (s0 : Nat) (s1 : Int32) (z : St) : Option (Int32 × St) := zq (s1 = 0 ∨ s1 = 1) <| zl (zsI z 12 24 s0 s1) fun z1 => if ¬ (zgI z1 12 23 x0) = 0 then (fX19_neighbours_69 N K2 x0 x1 x2 x3 x0 z1) else (zd x3 fun a4 => zl (zgR z1 18 2 a4) fun y5 => zd y5 fun a6 => if (zgI z1 18 5 a4) = (zgI z1 16 3 a6) then (fX19_neighbours_74 N K2 x0 x1 x2 (some a4) x0 (0 : Int32) z1) else (fX19_neighbours_69 N K2 x0 x1 x2 (some a4) x0 z1))
set_option maxHeartbeats 4000000 in
set_option maxRecDepth 100000 in
theorem bX19_neighbours_44 (hst : zSt B ids) (F : zFx p m c cX19_neighbours 5 s args RX19 D cy B ids A) (hA : ∀ q : Nat, s.heap.size ≤ q → A q) {r : Int32} {z' : St} (E : zEnd p l e rmX19_neighbours s m args below meth c cX19_neighbours D cy B ids A Q none z' .return_ True) {N : Nat} {K2 : Nat → Int32 → Int32 → St → Option (Int32 × St)} (hK2 : ∀ (x0 : Nat) (x1 : Int32) (x2 : Int32) (hx0 : (12, x0) ∈ ids) {z : St} {H : Heap} {locs : List Loc} {ls : Array Slot} (hr : zRep D cy B ids A s.heap z H locs) (hl : lv_has ls 5 [(0, .ref (B 12 x0)), (1, .int x1), (2, .int x2)]), K2 x0 x1 x2 z = some (r, z') → W p l e rmX19_neighbours s m args below meth c H locs 0 0 Q (F0 m 2 ls [])) (x0 : Nat) (x1 : Int32) (x2 : Int32) (x3 : Option Nat) (s0 : Nat) (s1 : Int32) (hx0 : (12, x0) ∈ ids) (hx3 : ∀ t, x3 = some t → (18, t) ∈ ids) (hs0 : (12, s0) ∈ ids) {z : St} {H : Heap} {locs : List Loc} {ls : Array Slot} (hr : zRep D cy B ids A s.heap z H locs) (hl : lv_has ls 5 [(0, .ref (B 12 x0)), (1, .int x1), (2, .int x2), (3, va_rf (Option.map (B 18) x3))]) (h : fX19_neighbours_44 N K2 x0 x1 x2 x3 s0 s1 z = some (r, z')) : W p l e rmX19_neighbours s m args below meth c H locs 0 0 Q (F0 m 44 ls [.int s1, .ref (B 12 s0)]) := by
  unfold fX19_neighbours_44 at h
  replace h := zq_some h
  obtain ⟨c2, h⟩ := h
  refine pf19_486 F hs0 hr dX19_neighbours_44 s1 c2 (fun H locs z1 ez1 hr => ?_)
  replace h := zl_sub ez1 h
  clear ez1
  refine lv_aload_n F.1 F.2.1 dX19_neighbours_47 rfl (lv_at hl 0 rfl) ?_
  refine lv_aload_n F.1 F.2.1 dX19_neighbours_48 rfl (lv_at hl 0 rfl) ?_
  refine gf19_489 F hx0 hr dX19_neighbours_49 ?_
  refine lv_if_ne (tgt := 69) F.1 F.2.1 dX19_neighbours_52 (by decide) (fun c3 => ?_) (fun c3 => ?_)
  · replace h := zi_t c3 h
    exact bX19_neighbours_69 hst F hA E hK2 x0 x1 x2 x3 x0 hx0 hx3 hx0 hr (lv_sub hl [0, 1, 2, 3] rfl) h
  · replace h := zi_f (fun q => q c3) h
    refine zr_aload_n F.1 F.2.1 dX19_neighbours_55 rfl (lv_at hl 3 rfl) ?_
    replace h := zd_some h
    obtain ⟨a4, rfl, h⟩ := h
    refine gf19_479 F (hx3 _ rfl) hr dX19_neighbours_56 ?_
    refine lv_aload_n F.1 F.2.1 dX19_neighbours_59 rfl (lv_at hl 3 rfl) ?_
    refine gf19_149 F (hx3 _ rfl) hr dX19_neighbours_60 (fun y5 ey5 => ?_)
    replace h := zl_sub ey5 h
    have hy5 := zal_g hr (hx3 _ rfl) (j := 2) rfl ey5
    clear ey5
    replace h := zd_some h
    obtain ⟨a6, rfl, h⟩ := h
    refine gf19_158 F (hy5 _ rfl) hr dX19_neighbours_63 ?_
    refine lv_icmp_eq (tgt := 73) F.1 F.2.1 dX19_neighbours_66 (by decide) (fun c7 => ?_) (fun c7 => ?_)
    · replace h := zi_t c7 h
      refine lv_iconst (v := (0 : Int32)) F.1 F.2.1 dX19_neighbours_73 (by decide) ?_
      exact bX19_neighbours_74 hst F hA E hK2 x0 x1 x2 (some a4) x0 (0 : Int32) hx0 (zal_s (hx3 _ rfl)) hx0 hr (lv_sub hl [0, 1, 2, 3] rfl) h
    · replace h := zi_f c7 h
      exact bX19_neighbours_69 hst F hA E hK2 x0 x1 x2 (some a4) x0 hx0 (zal_s (hx3 _ rfl)) hx0 hr (lv_sub hl [0, 1, 2, 3] rfl) h
def fX19_neighbours_39 (N : Nat) (K2 : Nat → Int32 → Int32 → St → Option (Int32 × St)) (x0 : Nat) (x1 : Int32) (x2 : Int32) (x3 : Option Nat) (s0 : Nat) (z : St) : Option (Int32 × St) := fX19_neighbours_44 N K2 x0 x1 x2 x3 s0 (1 : Int32) z
set_option maxHeartbeats 4000000 in
set_option maxRecDepth 100000 in
theorem bX19_neighbours_39 (hst : zSt B ids) (F : zFx p m c cX19_neighbours 5 s args RX19 D cy B ids A) (hA : ∀ q : Nat, s.heap.size ≤ q → A q) {r : Int32} {z' : St} (E : zEnd p l e rmX19_neighbours s m args below meth c cX19_neighbours D cy B ids A Q none z' .return_ True) {N : Nat} {K2 : Nat → Int32 → Int32 → St → Option (Int32 × St)} (hK2 : ∀ (x0 : Nat) (x1 : Int32) (x2 : Int32) (hx0 : (12, x0) ∈ ids) {z : St} {H : Heap} {locs : List Loc} {ls : Array Slot} (hr : zRep D cy B ids A s.heap z H locs) (hl : lv_has ls 5 [(0, .ref (B 12 x0)), (1, .int x1), (2, .int x2)]), K2 x0 x1 x2 z = some (r, z') → W p l e rmX19_neighbours s m args below meth c H locs 0 0 Q (F0 m 2 ls [])) (x0 : Nat) (x1 : Int32) (x2 : Int32) (x3 : Option Nat) (s0 : Nat) (hx0 : (12, x0) ∈ ids) (hx3 : ∀ t, x3 = some t → (18, t) ∈ ids) (hs0 : (12, s0) ∈ ids) {z : St} {H : Heap} {locs : List Loc} {ls : Array Slot} (hr : zRep D cy B ids A s.heap z H locs) (hl : lv_has ls 5 [(0, .ref (B 12 x0)), (1, .int x1), (2, .int x2), (3, va_rf (Option.map (B 18) x3))]) (h : fX19_neighbours_39 N K2 x0 x1 x2 x3 s0 z = some (r, z')) : W p l e rmX19_neighbours s m args below meth c H locs 0 0 Q (F0 m 39 ls [.ref (B 12 s0)]) := by
  unfold fX19_neighbours_39 at h
  refine lv_iconst (v := (1 : Int32)) F.1 F.2.1 dX19_neighbours_39 (by decide) ?_
  refine lv_goto (tgt := 44) F.1 F.2.1 dX19_neighbours_40 (by decide) ?_
  exact bX19_neighbours_44 hst F hA E hK2 x0 x1 x2 x3 s0 (1 : Int32) hx0 hx3 hs0 hr (lv_sub hl [0, 1, 2, 3] rfl) h
def fX19_neighbours_202 (N : Nat) (K96 : Nat → Int32 → Int32 → St → Option (Int32 × St)) (x0 : Nat) (x1 : Int32) (x2 : Int32) (z : St) : Option (Int32 × St) := K96 x0 x1 x2 z
set_option maxHeartbeats 4000000 in
set_option maxRecDepth 100000 in
theorem bX19_neighbours_202 (hst : zSt B ids) (F : zFx p m c cX19_neighbours 5 s args RX19 D cy B ids A) (hA : ∀ q : Nat, s.heap.size ≤ q → A q) {r : Int32} {z' : St} (E : zEnd p l e rmX19_neighbours s m args below meth c cX19_neighbours D cy B ids A Q none z' .return_ True) {N : Nat} {K96 : Nat → Int32 → Int32 → St → Option (Int32 × St)} (hK96 : ∀ (x0 : Nat) (x1 : Int32) (x2 : Int32) (hx0 : (12, x0) ∈ ids) {z : St} {H : Heap} {locs : List Loc} {ls : Array Slot} (hr : zRep D cy B ids A s.heap z H locs) (hl : lv_has ls 5 [(0, .ref (B 12 x0)), (1, .int x1), (2, .int x2)]), K96 x0 x1 x2 z = some (r, z') → W p l e rmX19_neighbours s m args below meth c H locs 0 0 Q (F0 m 96 ls [])) (x0 : Nat) (x1 : Int32) (x2 : Int32) (hx0 : (12, x0) ∈ ids) {z : St} {H : Heap} {locs : List Loc} {ls : Array Slot} (hr : zRep D cy B ids A s.heap z H locs) (hl : lv_has ls 5 [(0, .ref (B 12 x0)), (1, .int x1), (2, .int x2)]) (h : fX19_neighbours_202 N K96 x0 x1 x2 z = some (r, z')) : W p l e rmX19_neighbours s m args below meth c H locs 0 0 Q (F0 m 202 ls []) := by
  unfold fX19_neighbours_202 at h
  refine lv_goto (tgt := 96) F.1 F.2.1 dX19_neighbours_202 (by decide) ?_
  exact hK96 x0 x1 x2 hx0 hr (lv_sub hl [0, 1, 2] rfl) h
def fX19_neighbours_150b (N : Nat) (K96 : Nat → Int32 → Int32 → St → Option (Int32 × St)) (K150 : Nat → Int32 → Int32 → Nat → Int32 → St → Option (Int32 × St)) (x0 : Nat) (x1 : Int32) (x2 : Int32) (x3 : Nat) (x4 : Int32) (z : St) : Option (Int32 × St) := if (zgI z 12 13 x0) ≤ x4 then (zk (zgI z 12 13 x0) 16 <| zl (zsQ z 149 x0 (Int32.toNatClampNeg (zgI z 12 13 x0)) (some x3)) fun z3 => zl (zsI z3 12 24 x0 (1 : Int32)) fun z4 => fX19_neighbours_202 N K96 x0 x1 x2 z4) else (zk (x4 + (1 : Int32)) 16 <| zl (zgQ z 149 x0 (Int32.toNatClampNeg (x4 + (1 : Int32)))) fun y6 => zk x4 16 <| zl (zsQ z 149 x0 (Int32.toNatClampNeg x4) y6) fun z8 => zl (x4 + 1) fun v9 => K150 x0 x1 x2 x3 v9 z8)
def fX19_neighbours_150 (N : Nat) (K96 : Nat → Int32 → Int32 → St → Option (Int32 × St)) : Nat → Nat → Int32 → Int32 → Nat → Int32 → St → Option (Int32 × St)
  | 0 => fun _ _ _ _ _ _ => none
  | n + 1 => fX19_neighbours_150b N K96 (fX19_neighbours_150 N K96 n)
set_option maxHeartbeats 4000000 in
set_option maxRecDepth 100000 in
theorem bX19_neighbours_150 (hst : zSt B ids) (F : zFx p m c cX19_neighbours 5 s args RX19 D cy B ids A) (hA : ∀ q : Nat, s.heap.size ≤ q → A q) {r : Int32} {z' : St} (E : zEnd p l e rmX19_neighbours s m args below meth c cX19_neighbours D cy B ids A Q none z' .return_ True) {N : Nat} {K96 : Nat → Int32 → Int32 → St → Option (Int32 × St)} {K150 : Nat → Int32 → Int32 → Nat → Int32 → St → Option (Int32 × St)} (hK96 : ∀ (x0 : Nat) (x1 : Int32) (x2 : Int32) (hx0 : (12, x0) ∈ ids) {z : St} {H : Heap} {locs : List Loc} {ls : Array Slot} (hr : zRep D cy B ids A s.heap z H locs) (hl : lv_has ls 5 [(0, .ref (B 12 x0)), (1, .int x1), (2, .int x2)]), K96 x0 x1 x2 z = some (r, z') → W p l e rmX19_neighbours s m args below meth c H locs 0 0 Q (F0 m 96 ls [])) (hK150 : ∀ (x0 : Nat) (x1 : Int32) (x2 : Int32) (x3 : Nat) (x4 : Int32) (hx0 : (12, x0) ∈ ids) (hx3 : (15, x3) ∈ ids) {z : St} {H : Heap} {locs : List Loc} {ls : Array Slot} (hr : zRep D cy B ids A s.heap z H locs) (hl : lv_has ls 5 [(0, .ref (B 12 x0)), (1, .int x1), (2, .int x2), (3, .ref (B 15 x3)), (4, .int x4)]), K150 x0 x1 x2 x3 x4 z = some (r, z') → W p l e rmX19_neighbours s m args below meth c H locs 0 0 Q (F0 m 150 ls [])) (x0 : Nat) (x1 : Int32) (x2 : Int32) (x3 : Nat) (x4 : Int32) (hx0 : (12, x0) ∈ ids) (hx3 : (15, x3) ∈ ids) {z : St} {H : Heap} {locs : List Loc} {ls : Array Slot} (hr : zRep D cy B ids A s.heap z H locs) (hl : lv_has ls 5 [(0, .ref (B 12 x0)), (1, .int x1), (2, .int x2), (3, .ref (B 15 x3)), (4, .int x4)]) (h : fX19_neighbours_150b N K96 K150 x0 x1 x2 x3 x4 z = some (r, z')) : W p l e rmX19_neighbours s m args below meth c H locs 0 0 Q (F0 m 150 ls []) := by
  unfold fX19_neighbours_150b at h
  refine lv_iload F.1 F.2.1 dX19_neighbours_150 (lv_at hl 4 rfl) ?_
  refine lv_aload_n F.1 F.2.1 dX19_neighbours_152 rfl (lv_at hl 0 rfl) ?_
  refine gf19_457 F hx0 hr dX19_neighbours_153 ?_
  refine lv_icmp_ge (tgt := 181) F.1 F.2.1 dX19_neighbours_156 (by decide) (fun c1 => ?_) (fun c1 => ?_)
  · replace h := zi_t c1 h
    refine lv_aload_n F.1 F.2.1 dX19_neighbours_181 rfl (lv_at hl 0 rfl) ?_
    refine gf19_460 F hx0 hr dX19_neighbours_182 ?_
    refine lv_aload_n F.1 F.2.1 dX19_neighbours_185 rfl (lv_at hl 0 rfl) ?_
    refine gf19_457 F hx0 hr dX19_neighbours_186 ?_
    refine lv_aload_n F.1 F.2.1 dX19_neighbours_189 rfl (lv_at hl 3 rfl) ?_
    replace h := zk_some h
    obtain ⟨c2, h⟩ := h
    refine zr_aast (k := 149) (v := (some x3)) (T := TX15) (N := 6) (by decide) rfl (by decide) rfl rfl F (zal_a F hx0 (j := 12) rfl) hr dX19_neighbours_190 (by rw [zlen_d (by decide)]; exact c2) (zal_s hx3) (fun H locs z3 ez3 hr => ?_)
    replace h := zl_sub ez3 h
    clear ez3
    refine lv_aload_n F.1 F.2.1 dX19_neighbours_191 rfl (lv_at hl 0 rfl) ?_
    refine lv_iconst (v := (1 : Int32)) F.1 F.2.1 dX19_neighbours_192 (by decide) ?_
    refine pf19_486 F hx0 hr dX19_neighbours_193 (1 : Int32) (by decide) (fun H locs z4 ez4 hr => ?_)
    replace h := zl_sub ez4 h
    clear ez4
    refine lv_goto (tgt := 202) F.1 F.2.1 dX19_neighbours_196 (by decide) ?_
    exact bX19_neighbours_202 hst F hA E hK96 x0 x1 x2 hx0 hr (lv_sub hl [0, 1, 2] rfl) h
  · replace h := zi_f c1 h
    refine lv_aload_n F.1 F.2.1 dX19_neighbours_159 rfl (lv_at hl 0 rfl) ?_
    refine gf19_460 F hx0 hr dX19_neighbours_160 ?_
    refine lv_iload F.1 F.2.1 dX19_neighbours_163 (lv_at hl 4 rfl) ?_
    refine lv_aload_n F.1 F.2.1 dX19_neighbours_165 rfl (lv_at hl 0 rfl) ?_
    refine gf19_460 F hx0 hr dX19_neighbours_166 ?_
    refine lv_iload F.1 F.2.1 dX19_neighbours_169 (lv_at hl 4 rfl) ?_
    refine lv_iconst (v := (1 : Int32)) F.1 F.2.1 dX19_neighbours_171 (by decide) ?_
    refine lv_iadd F.1 F.2.1 dX19_neighbours_172 ?_
    replace h := zk_some h
    obtain ⟨c5, h⟩ := h
    refine zr_aaldv (k := 149) (by decide) rfl rfl (zlen_d (by decide)) F (zal_a F hx0 (j := 12) rfl) hr dX19_neighbours_173 c5 (fun y6 ey6 => ?_)
    replace h := zl_sub ey6 h
    have hy6 := zal_q hr (zal_a F hx0 (j := 12) rfl) rfl ey6
    clear ey6
    replace h := zk_some h
    obtain ⟨c7, h⟩ := h
    refine zr_aast (k := 149) (v := y6) (T := TX15) (N := 6) (by decide) rfl (by decide) rfl rfl F (zal_a F hx0 (j := 12) rfl) hr dX19_neighbours_174 (by rw [zlen_d (by decide)]; exact c7) hy6 (fun H locs z8 ez8 hr => ?_)
    replace h := zl_sub ez8 h
    clear ez8
    obtain ⟨v9, ev9⟩ : ∃ y : Int32, y = (x4 + 1) := ⟨_, rfl⟩
    replace h := zl_sub ev9 h
    refine lv_iinc (v := v9) (lv' := [(4, .int v9), (0, .ref (B 12 x0)), (1, .int x1), (2, .int x2), (3, .ref (B 15 x3))]) F.1 F.2.1 dX19_neighbours_175 hl (k := 4) rfl (by rw [ev9]; rfl) (by decide) rfl (fun ls hl => ?_)
    refine lv_goto (tgt := 150) F.1 F.2.1 dX19_neighbours_178 (by decide) ?_
    exact hK150 x0 x1 x2 x3 v9 hx0 hx3 hr (lv_sub hl [1, 2, 3, 4, 0] rfl) h
theorem lX19_neighbours_150 (hst : zSt B ids) (F : zFx p m c cX19_neighbours 5 s args RX19 D cy B ids A) (hA : ∀ q : Nat, s.heap.size ≤ q → A q) {r : Int32} {z' : St} (E : zEnd p l e rmX19_neighbours s m args below meth c cX19_neighbours D cy B ids A Q none z' .return_ True) {N : Nat} {K96 : Nat → Int32 → Int32 → St → Option (Int32 × St)} (hK96 : ∀ (x0 : Nat) (x1 : Int32) (x2 : Int32) (hx0 : (12, x0) ∈ ids) {z : St} {H : Heap} {locs : List Loc} {ls : Array Slot} (hr : zRep D cy B ids A s.heap z H locs) (hl : lv_has ls 5 [(0, .ref (B 12 x0)), (1, .int x1), (2, .int x2)]), K96 x0 x1 x2 z = some (r, z') → W p l e rmX19_neighbours s m args below meth c H locs 0 0 Q (F0 m 96 ls [])) : ∀ (n : Nat) (x0 : Nat) (x1 : Int32) (x2 : Int32) (x3 : Nat) (x4 : Int32) (hx0 : (12, x0) ∈ ids) (hx3 : (15, x3) ∈ ids) {z : St} {H : Heap} {locs : List Loc} {ls : Array Slot} (hr : zRep D cy B ids A s.heap z H locs) (hl : lv_has ls 5 [(0, .ref (B 12 x0)), (1, .int x1), (2, .int x2), (3, .ref (B 15 x3)), (4, .int x4)]), fX19_neighbours_150 N K96 n x0 x1 x2 x3 x4 z = some (r, z') → W p l e rmX19_neighbours s m args below meth c H locs 0 0 Q (F0 m 150 ls []) := by
  intro n
  induction n with
  | zero => intro x0 x1 x2 x3 x4 hx0 hx3 z H locs ls hr hl h; cases h
  | succ n ih => intro x0 x1 x2 x3 x4 hx0 hx3 z H locs ls hr hl h; exact bX19_neighbours_150 hst F hA E hK96 ih x0 x1 x2 x3 x4 hx0 hx3 hr hl h
def fX19_neighbours_137 (N : Nat) (K96 : Nat → Int32 → Int32 → St → Option (Int32 × St)) (x0 : Nat) (x1 : Int32) (x2 : Int32) (x3 : Nat) (z : St) : Option (Int32 × St) := zl (zsI z 12 13 x0 ((zgI z 12 13 x0) - (1 : Int32))) fun z1 => fX19_neighbours_150 N K96 N x0 x1 x2 x3 x2 z1
set_option maxHeartbeats 4000000 in
set_option maxRecDepth 100000 in
theorem bX19_neighbours_137 (hst : zSt B ids) (F : zFx p m c cX19_neighbours 5 s args RX19 D cy B ids A) (hA : ∀ q : Nat, s.heap.size ≤ q → A q) {r : Int32} {z' : St} (E : zEnd p l e rmX19_neighbours s m args below meth c cX19_neighbours D cy B ids A Q none z' .return_ True) {N : Nat} {K96 : Nat → Int32 → Int32 → St → Option (Int32 × St)} (hK96 : ∀ (x0 : Nat) (x1 : Int32) (x2 : Int32) (hx0 : (12, x0) ∈ ids) {z : St} {H : Heap} {locs : List Loc} {ls : Array Slot} (hr : zRep D cy B ids A s.heap z H locs) (hl : lv_has ls 5 [(0, .ref (B 12 x0)), (1, .int x1), (2, .int x2)]), K96 x0 x1 x2 z = some (r, z') → W p l e rmX19_neighbours s m args below meth c H locs 0 0 Q (F0 m 96 ls [])) (x0 : Nat) (x1 : Int32) (x2 : Int32) (x3 : Nat) (hx0 : (12, x0) ∈ ids) (hx3 : (15, x3) ∈ ids) {z : St} {H : Heap} {locs : List Loc} {ls : Array Slot} (hr : zRep D cy B ids A s.heap z H locs) (hl : lv_has ls 5 [(0, .ref (B 12 x0)), (1, .int x1), (2, .int x2), (3, .ref (B 15 x3))]) (h : fX19_neighbours_137 N K96 x0 x1 x2 x3 z = some (r, z')) : W p l e rmX19_neighbours s m args below meth c H locs 0 0 Q (F0 m 137 ls []) := by
  unfold fX19_neighbours_137 at h
  refine lv_aload_n F.1 F.2.1 dX19_neighbours_137 rfl (lv_at hl 0 rfl) ?_
  refine lv_dup F.1 F.2.1 dX19_neighbours_138 rfl ?_
  refine gf19_457 F hx0 hr dX19_neighbours_139 ?_
  refine lv_iconst (v := (1 : Int32)) F.1 F.2.1 dX19_neighbours_142 (by decide) ?_
  refine lv_isub F.1 F.2.1 dX19_neighbours_143 ?_
  refine pf19_457 F hx0 hr dX19_neighbours_144 ((zgI z 12 13 x0) - (1 : Int32)) (fun H locs z1 ez1 hr => ?_)
  replace h := zl_sub ez1 h
  clear ez1
  refine lv_iload_n F.1 F.2.1 dX19_neighbours_147 rfl (lv_at hl 2 rfl) ?_
  refine lv_istore (lv' := [(4, .int x2), (0, .ref (B 12 x0)), (1, .int x1), (2, .int x2), (3, .ref (B 15 x3))]) F.1 F.2.1 dX19_neighbours_148 hl (by decide) rfl (fun ls hl => ?_)
  exact lX19_neighbours_150 hst F hA E hK96 _ x0 x1 x2 x3 x2 hx0 hx3 hr (lv_sub hl [1, 2, 3, 4, 0] rfl) h
def fX19_neighbours_96b (N : Nat) (K96 : Nat → Int32 → Int32 → St → Option (Int32 × St)) (x0 : Nat) (x1 : Int32) (x2 : Int32) (z : St) : Option (Int32 × St) := if (zgI z 12 13 x0) ≤ x2 then (some (0, z)) else (zk x2 16 <| zl (zgQ z 149 x0 (Int32.toNatClampNeg x2)) fun y3 => zd y3 fun a4 => zk (zgI z 15 0 a4) 6 <| zl (zgQ z 147 x0 (Int32.toNatClampNeg (zgI z 15 0 a4))) fun y6 => zd y6 fun a7 => if (zgI z 18 5 a7) = 0 then (fX19_neighbours_137 N K96 x0 x1 x2 a4 z) else (if (x1 - (zgI z 15 2 a4)) < (80 : Int32) then (zl (x2 + 1) fun v10 => fX19_neighbours_202 N K96 x0 x1 v10 z) else (fX19_neighbours_137 N K96 x0 x1 x2 a4 z)))
def fX19_neighbours_96 (N : Nat)  : Nat → Nat → Int32 → Int32 → St → Option (Int32 × St)
  | 0 => fun _ _ _ _ => none
  | n + 1 => fX19_neighbours_96b N (fX19_neighbours_96 N  n)
set_option maxHeartbeats 4000000 in
set_option maxRecDepth 100000 in
theorem bX19_neighbours_96 (hst : zSt B ids) (F : zFx p m c cX19_neighbours 5 s args RX19 D cy B ids A) (hA : ∀ q : Nat, s.heap.size ≤ q → A q) {r : Int32} {z' : St} (E : zEnd p l e rmX19_neighbours s m args below meth c cX19_neighbours D cy B ids A Q none z' .return_ True) {N : Nat} {K96 : Nat → Int32 → Int32 → St → Option (Int32 × St)} (hK96 : ∀ (x0 : Nat) (x1 : Int32) (x2 : Int32) (hx0 : (12, x0) ∈ ids) {z : St} {H : Heap} {locs : List Loc} {ls : Array Slot} (hr : zRep D cy B ids A s.heap z H locs) (hl : lv_has ls 5 [(0, .ref (B 12 x0)), (1, .int x1), (2, .int x2)]), K96 x0 x1 x2 z = some (r, z') → W p l e rmX19_neighbours s m args below meth c H locs 0 0 Q (F0 m 96 ls [])) (x0 : Nat) (x1 : Int32) (x2 : Int32) (hx0 : (12, x0) ∈ ids) {z : St} {H : Heap} {locs : List Loc} {ls : Array Slot} (hr : zRep D cy B ids A s.heap z H locs) (hl : lv_has ls 5 [(0, .ref (B 12 x0)), (1, .int x1), (2, .int x2)]) (h : fX19_neighbours_96b N K96 x0 x1 x2 z = some (r, z')) : W p l e rmX19_neighbours s m args below meth c H locs 0 0 Q (F0 m 96 ls []) := by
  unfold fX19_neighbours_96b at h
  refine lv_iload_n F.1 F.2.1 dX19_neighbours_96 rfl (lv_at hl 2 rfl) ?_
  refine lv_aload_n F.1 F.2.1 dX19_neighbours_97 rfl (lv_at hl 0 rfl) ?_
  refine gf19_457 F hx0 hr dX19_neighbours_98 ?_
  refine lv_icmp_ge (tgt := 205) F.1 F.2.1 dX19_neighbours_101 (by decide) (fun c1 => ?_) (fun c1 => ?_)
  · replace h := zi_t c1 h
    obtain ⟨rfl, rfl⟩ := zret h
    exact E _ _ _ _ dX19_neighbours_205 trivial hr
  · replace h := zi_f c1 h
    refine lv_aload_n F.1 F.2.1 dX19_neighbours_104 rfl (lv_at hl 0 rfl) ?_
    refine gf19_460 F hx0 hr dX19_neighbours_105 ?_
    refine lv_iload_n F.1 F.2.1 dX19_neighbours_108 rfl (lv_at hl 2 rfl) ?_
    replace h := zk_some h
    obtain ⟨c2, h⟩ := h
    refine zr_aaldv (k := 149) (by decide) rfl rfl (zlen_d (by decide)) F (zal_a F hx0 (j := 12) rfl) hr dX19_neighbours_109 c2 (fun y3 ey3 => ?_)
    replace h := zl_sub ey3 h
    have hy3 := zal_q hr (zal_a F hx0 (j := 12) rfl) rfl ey3
    clear ey3
    refine zr_astore_n (lv' := [(3, va_rf (Option.map (B 15) y3)), (0, .ref (B 12 x0)), (1, .int x1), (2, .int x2)]) F.1 F.2.1 dX19_neighbours_110 rfl hl (by decide) rfl (fun ls hl => ?_)
    refine lv_aload_n F.1 F.2.1 dX19_neighbours_111 rfl (lv_at hl 1 rfl) ?_
    refine gf19_276 F hx0 hr dX19_neighbours_112 ?_
    refine zr_aload_n F.1 F.2.1 dX19_neighbours_115 rfl (lv_at hl 0 rfl) ?_
    replace h := zd_some h
    obtain ⟨a4, rfl, h⟩ := h
    refine gf19_464 F (hy3 _ rfl) hr dX19_neighbours_116 ?_
    replace h := zk_some h
    obtain ⟨c5, h⟩ := h
    refine zr_aaldv (k := 147) (by decide) rfl rfl (zlen_d (by decide)) F (zal_a F hx0 (j := 2) rfl) hr dX19_neighbours_119 c5 (fun y6 ey6 => ?_)
    replace h := zl_sub ey6 h
    have hy6 := zal_q hr (zal_a F hx0 (j := 2) rfl) rfl ey6
    clear ey6
    replace h := zd_some h
    obtain ⟨a7, rfl, h⟩ := h
    refine gf19_479 F (hy6 _ rfl) hr dX19_neighbours_120 ?_
    refine lv_if_eq (tgt := 137) F.1 F.2.1 dX19_neighbours_123 (by decide) (fun c8 => ?_) (fun c8 => ?_)
    · replace h := zi_t c8 h
      exact bX19_neighbours_137 hst F hA E hK96 x0 x1 x2 a4 hx0 (hy3 _ rfl) hr (lv_sub hl [1, 2, 3, 0] rfl) h
    · replace h := zi_f c8 h
      refine lv_iload_n F.1 F.2.1 dX19_neighbours_126 rfl (lv_at hl 2 rfl) ?_
      refine lv_aload_n F.1 F.2.1 dX19_neighbours_127 rfl (lv_at hl 0 rfl) ?_
      refine gf19_483 F (hy3 _ rfl) hr dX19_neighbours_128 ?_
      refine lv_isub F.1 F.2.1 dX19_neighbours_131 ?_
      refine lv_bipush (v := (80 : Int32)) F.1 F.2.1 dX19_neighbours_132 (by decide) ?_
      refine lv_icmp_lt (tgt := 199) F.1 F.2.1 dX19_neighbours_134 (by decide) (fun c9 => ?_) (fun c9 => ?_)
      · replace h := zi_t c9 h
        obtain ⟨v10, ev10⟩ : ∃ y : Int32, y = (x2 + 1) := ⟨_, rfl⟩
        replace h := zl_sub ev10 h
        refine lv_iinc (v := v10) (lv' := [(2, .int v10), (3, .ref (B 15 a4)), (0, .ref (B 12 x0)), (1, .int x1)]) F.1 F.2.1 dX19_neighbours_199 hl (k := 3) rfl (by rw [ev10]; rfl) (by decide) rfl (fun ls hl => ?_)
        exact bX19_neighbours_202 hst F hA E hK96 x0 x1 v10 hx0 hr (lv_sub hl [2, 3, 0] rfl) h
      · replace h := zi_f c9 h
        exact bX19_neighbours_137 hst F hA E hK96 x0 x1 x2 a4 hx0 (hy3 _ rfl) hr (lv_sub hl [1, 2, 3, 0] rfl) h
theorem lX19_neighbours_96 (hst : zSt B ids) (F : zFx p m c cX19_neighbours 5 s args RX19 D cy B ids A) (hA : ∀ q : Nat, s.heap.size ≤ q → A q) {r : Int32} {z' : St} (E : zEnd p l e rmX19_neighbours s m args below meth c cX19_neighbours D cy B ids A Q none z' .return_ True) {N : Nat}  : ∀ (n : Nat) (x0 : Nat) (x1 : Int32) (x2 : Int32) (hx0 : (12, x0) ∈ ids) {z : St} {H : Heap} {locs : List Loc} {ls : Array Slot} (hr : zRep D cy B ids A s.heap z H locs) (hl : lv_has ls 5 [(0, .ref (B 12 x0)), (1, .int x1), (2, .int x2)]), fX19_neighbours_96 N  n x0 x1 x2 z = some (r, z') → W p l e rmX19_neighbours s m args below meth c H locs 0 0 Q (F0 m 96 ls []) := by
  intro n
  induction n with
  | zero => intro x0 x1 x2 hx0 z H locs ls hr hl h; cases h
  | succ n ih => intro x0 x1 x2 hx0 z H locs ls hr hl h; exact bX19_neighbours_96 hst F hA E ih x0 x1 x2 hx0 hr hl h
def fX19_neighbours_2b (N : Nat) (K2 : Nat → Int32 → Int32 → St → Option (Int32 × St)) (x0 : Nat) (x1 : Int32) (x2 : Int32) (z : St) : Option (Int32 × St) := if (zgI z 12 3 x0) ≤ x2 then (fX19_neighbours_96 N N x0 x1 (0 : Int32) z) else (zk x2 6 <| zl (zgQ z 147 x0 (Int32.toNatClampNeg x2)) fun y3 => if ¬ (zgI z 12 24 x0) = 0 then (fX19_neighbours_39 N K2 x0 x1 x2 y3 x0 z) else (zd y3 fun a5 => zl (zgR z 18 2 a5) fun y6 => zd y6 fun a7 => if (zgI z 18 5 a5) = (zgI z 16 3 a7) then (fX19_neighbours_44 N K2 x0 x1 x2 (some a5) x0 (0 : Int32) z) else (fX19_neighbours_39 N K2 x0 x1 x2 (some a5) x0 z)))
def fX19_neighbours_2 (N : Nat)  : Nat → Nat → Int32 → Int32 → St → Option (Int32 × St)
  | 0 => fun _ _ _ _ => none
  | n + 1 => fX19_neighbours_2b N (fX19_neighbours_2 N  n)
set_option maxHeartbeats 4000000 in
set_option maxRecDepth 100000 in
theorem bX19_neighbours_2 (hst : zSt B ids) (F : zFx p m c cX19_neighbours 5 s args RX19 D cy B ids A) (hA : ∀ q : Nat, s.heap.size ≤ q → A q) {r : Int32} {z' : St} (E : zEnd p l e rmX19_neighbours s m args below meth c cX19_neighbours D cy B ids A Q none z' .return_ True) {N : Nat} {K2 : Nat → Int32 → Int32 → St → Option (Int32 × St)} (hK2 : ∀ (x0 : Nat) (x1 : Int32) (x2 : Int32) (hx0 : (12, x0) ∈ ids) {z : St} {H : Heap} {locs : List Loc} {ls : Array Slot} (hr : zRep D cy B ids A s.heap z H locs) (hl : lv_has ls 5 [(0, .ref (B 12 x0)), (1, .int x1), (2, .int x2)]), K2 x0 x1 x2 z = some (r, z') → W p l e rmX19_neighbours s m args below meth c H locs 0 0 Q (F0 m 2 ls [])) (x0 : Nat) (x1 : Int32) (x2 : Int32) (hx0 : (12, x0) ∈ ids) {z : St} {H : Heap} {locs : List Loc} {ls : Array Slot} (hr : zRep D cy B ids A s.heap z H locs) (hl : lv_has ls 5 [(0, .ref (B 12 x0)), (1, .int x1), (2, .int x2)]) (h : fX19_neighbours_2b N K2 x0 x1 x2 z = some (r, z')) : W p l e rmX19_neighbours s m args below meth c H locs 0 0 Q (F0 m 2 ls []) := by
  unfold fX19_neighbours_2b at h
  refine lv_iload_n F.1 F.2.1 dX19_neighbours_2 rfl (lv_at hl 2 rfl) ?_
  refine lv_aload_n F.1 F.2.1 dX19_neighbours_3 rfl (lv_at hl 0 rfl) ?_
  refine gf19_273 F hx0 hr dX19_neighbours_4 ?_
  refine lv_icmp_ge (tgt := 94) F.1 F.2.1 dX19_neighbours_7 (by decide) (fun c1 => ?_) (fun c1 => ?_)
  · replace h := zi_t c1 h
    refine lv_iconst (v := (0 : Int32)) F.1 F.2.1 dX19_neighbours_94 (by decide) ?_
    refine lv_istore_n (lv' := [(2, .int (0 : Int32)), (0, .ref (B 12 x0)), (1, .int x1)]) F.1 F.2.1 dX19_neighbours_95 rfl hl (by decide) rfl (fun ls hl => ?_)
    exact lX19_neighbours_96 hst F hA E  _ x0 x1 (0 : Int32) hx0 hr (lv_sub hl [1, 2, 0] rfl) h
  · replace h := zi_f c1 h
    refine lv_aload_n F.1 F.2.1 dX19_neighbours_10 rfl (lv_at hl 0 rfl) ?_
    refine gf19_276 F hx0 hr dX19_neighbours_11 ?_
    refine lv_iload_n F.1 F.2.1 dX19_neighbours_14 rfl (lv_at hl 2 rfl) ?_
    replace h := zk_some h
    obtain ⟨c2, h⟩ := h
    refine zr_aaldv (k := 147) (by decide) rfl rfl (zlen_d (by decide)) F (zal_a F hx0 (j := 2) rfl) hr dX19_neighbours_15 c2 (fun y3 ey3 => ?_)
    replace h := zl_sub ey3 h
    have hy3 := zal_q hr (zal_a F hx0 (j := 2) rfl) rfl ey3
    clear ey3
    refine zr_astore_n (lv' := [(3, va_rf (Option.map (B 18) y3)), (0, .ref (B 12 x0)), (1, .int x1), (2, .int x2)]) F.1 F.2.1 dX19_neighbours_16 rfl hl (by decide) rfl (fun ls hl => ?_)
    refine lv_aload_n F.1 F.2.1 dX19_neighbours_17 rfl (lv_at hl 1 rfl) ?_
    refine lv_aload_n F.1 F.2.1 dX19_neighbours_18 rfl (lv_at hl 1 rfl) ?_
    refine gf19_486 F hx0 hr dX19_neighbours_19 ?_
    refine lv_if_ne (tgt := 39) F.1 F.2.1 dX19_neighbours_22 (by decide) (fun c4 => ?_) (fun c4 => ?_)
    · replace h := zi_t c4 h
      exact bX19_neighbours_39 hst F hA E hK2 x0 x1 x2 y3 x0 hx0 hy3 hx0 hr (lv_sub hl [1, 2, 3, 0] rfl) h
    · replace h := zi_f (fun q => q c4) h
      refine zr_aload_n F.1 F.2.1 dX19_neighbours_25 rfl (lv_at hl 0 rfl) ?_
      replace h := zd_some h
      obtain ⟨a5, rfl, h⟩ := h
      refine gf19_479 F (hy3 _ rfl) hr dX19_neighbours_26 ?_
      refine lv_aload_n F.1 F.2.1 dX19_neighbours_29 rfl (lv_at hl 0 rfl) ?_
      refine gf19_149 F (hy3 _ rfl) hr dX19_neighbours_30 (fun y6 ey6 => ?_)
      replace h := zl_sub ey6 h
      have hy6 := zal_g hr (hy3 _ rfl) (j := 2) rfl ey6
      clear ey6
      replace h := zd_some h
      obtain ⟨a7, rfl, h⟩ := h
      refine gf19_158 F (hy6 _ rfl) hr dX19_neighbours_33 ?_
      refine lv_icmp_eq (tgt := 43) F.1 F.2.1 dX19_neighbours_36 (by decide) (fun c8 => ?_) (fun c8 => ?_)
      · replace h := zi_t c8 h
        refine lv_iconst (v := (0 : Int32)) F.1 F.2.1 dX19_neighbours_43 (by decide) ?_
        exact bX19_neighbours_44 hst F hA E hK2 x0 x1 x2 (some a5) x0 (0 : Int32) hx0 (zal_s (hy3 _ rfl)) hx0 hr (lv_sub hl [1, 2, 3, 0] rfl) h
      · replace h := zi_f c8 h
        exact bX19_neighbours_39 hst F hA E hK2 x0 x1 x2 (some a5) x0 hx0 (zal_s (hy3 _ rfl)) hx0 hr (lv_sub hl [1, 2, 3, 0] rfl) h
theorem lX19_neighbours_2 (hst : zSt B ids) (F : zFx p m c cX19_neighbours 5 s args RX19 D cy B ids A) (hA : ∀ q : Nat, s.heap.size ≤ q → A q) {r : Int32} {z' : St} (E : zEnd p l e rmX19_neighbours s m args below meth c cX19_neighbours D cy B ids A Q none z' .return_ True) {N : Nat}  : ∀ (n : Nat) (x0 : Nat) (x1 : Int32) (x2 : Int32) (hx0 : (12, x0) ∈ ids) {z : St} {H : Heap} {locs : List Loc} {ls : Array Slot} (hr : zRep D cy B ids A s.heap z H locs) (hl : lv_has ls 5 [(0, .ref (B 12 x0)), (1, .int x1), (2, .int x2)]), fX19_neighbours_2 N  n x0 x1 x2 z = some (r, z') → W p l e rmX19_neighbours s m args below meth c H locs 0 0 Q (F0 m 2 ls []) := by
  intro n
  induction n with
  | zero => intro x0 x1 x2 hx0 z H locs ls hr hl h; cases h
  | succ n ih => intro x0 x1 x2 hx0 z H locs ls hr hl h; exact bX19_neighbours_2 hst F hA E ih x0 x1 x2 hx0 hr hl h
def fX19_neighbours (N : Nat)  (x0 : Nat) (x1 : Int32) (z : St) : Option (Int32 × St) := fX19_neighbours_2 N N x0 x1 (0 : Int32) z
set_option maxHeartbeats 4000000 in
set_option maxRecDepth 100000 in
theorem bX19_neighbours_0 (hst : zSt B ids) (F : zFx p m c cX19_neighbours 5 s args RX19 D cy B ids A) (hA : ∀ q : Nat, s.heap.size ≤ q → A q) {r : Int32} {z' : St} (E : zEnd p l e rmX19_neighbours s m args below meth c cX19_neighbours D cy B ids A Q none z' .return_ True) {N : Nat}  (x0 : Nat) (x1 : Int32) (hx0 : (12, x0) ∈ ids) {z : St} {H : Heap} {locs : List Loc} {ls : Array Slot} (hr : zRep D cy B ids A s.heap z H locs) (hl : lv_has ls 5 [(0, .ref (B 12 x0)), (1, .int x1)]) (h : fX19_neighbours N x0 x1 z = some (r, z')) : W p l e rmX19_neighbours s m args below meth c H locs 0 0 Q (F0 m 0 ls []) := by
  unfold fX19_neighbours at h
  refine lv_iconst (v := (0 : Int32)) F.1 F.2.1 dX19_neighbours_0 (by decide) ?_
  refine lv_istore_n (lv' := [(2, .int (0 : Int32)), (0, .ref (B 12 x0)), (1, .int x1)]) F.1 F.2.1 dX19_neighbours_1 rfl hl (by decide) rfl (fun ls hl => ?_)
  exact lX19_neighbours_2 hst F hA E  _ x0 x1 (0 : Int32) hx0 hr (lv_sub hl [1, 2, 0] rfl) h
end SX19_neighbours
set_option maxRecDepth 100000 in
theorem okX19_neighbours (l : Launch) (D : va_G) (cy : Nat → ClassId) (B : Nat → Nat → Nat) (ids : List (Nat × Nat)) (hst : zSt B ids) (N : Nat) (x0 : Nat) (hx0 : (12, x0) ∈ ids) (x1 : Int32) {z : St} {r : Int32} {z' : St} (hW : zWf ids z) (h : fX19_neighbours N x0 x1 z = some (r, z')) : zM l yX19_neighbours (zws yX19_neighbours cX19_neighbours 5 none) rmX19_neighbours D cy B ids [.ref (B 12 x0), .int x1] none True z z' :=
  zM_of hst hW (by decide +kernel) (Nat.le_of_ble_eq_true rfl) (fun p e s m args below meth c A ls F hA hret hlocks hr hl => bX19_neighbours_0 hst F hA (zEnd_v F hret hlocks) x0 x1 hx0 hr hl h)
abbrev rmX19_base : Room := { frames := 1, cells := 0, slots := 0, locals := 21 }
theorem hdX19_base : yX19_base.cls ≠ "java/lang/invoke/MethodHandle" ∧ yX19_base.cls ≠ "java/lang/invoke/VarHandle" ∧ (parseMethodDescriptor yX19_base.desc).map (fun d => d.parameters.length) = some 1 := by decide +kernel
theorem hroX19_base_X19_dropAdvert : rmX19_dropAdvert.frames + 1 ≤ rmX19_base.frames ∧ 8 + (2 + 11) + rmX19_dropAdvert.locals ≤ rmX19_base.locals := by decide
section SX19_base
variable {p : Program} {l : Launch} {e : Env} {s : State} {m : MethodId} {args : Array Value} {below : List Frame} {meth : Method} {c : Code} {Q : State → Prop} {D : va_G} {cy : Nat → ClassId} {B : Nat → Nat → Nat} {ids : List (Nat × Nat)} {A : Nat → Prop}
def fX19_base_85 (N : Nat) (K2 : Nat → Nat → Int32 → St → Option (Int32 × St)) (x0 : Nat) (x1 : Nat) (x2 : Int32) (z : St) : Option (Int32 × St) := zl (x2 + 1) fun v1 => K2 x0 x1 v1 z
set_option maxHeartbeats 4000000 in
set_option maxRecDepth 100000 in
theorem bX19_base_85 (hst : zSt B ids) (F : zFx p m c cX19_base 4 s args RX19 D cy B ids A) (hA : ∀ q : Nat, s.heap.size ≤ q → A q) {r : Int32} {z' : St} (E : zEnd p l e rmX19_base s m args below meth c cX19_base D cy B ids A Q none z' .return_ True) {N : Nat} {K2 : Nat → Nat → Int32 → St → Option (Int32 × St)} (hK2 : ∀ (x0 : Nat) (x1 : Nat) (x2 : Int32) (hx0 : (19, x0) ∈ ids) (hx1 : (12, x1) ∈ ids) {z : St} {H : Heap} {locs : List Loc} {ls : Array Slot} (hr : zRep D cy B ids A s.heap z H locs) (hl : lv_has ls 4 [(0, .ref (B 19 x0)), (1, .ref (B 12 x1)), (2, .int x2)]), K2 x0 x1 x2 z = some (r, z') → W p l e rmX19_base s m args below meth c H locs 0 0 Q (F0 m 2 ls [])) (x0 : Nat) (x1 : Nat) (x2 : Int32) (hx0 : (19, x0) ∈ ids) (hx1 : (12, x1) ∈ ids) {z : St} {H : Heap} {locs : List Loc} {ls : Array Slot} (hr : zRep D cy B ids A s.heap z H locs) (hl : lv_has ls 4 [(0, .ref (B 19 x0)), (1, .ref (B 12 x1)), (2, .int x2)]) (h : fX19_base_85 N K2 x0 x1 x2 z = some (r, z')) : W p l e rmX19_base s m args below meth c H locs 0 0 Q (F0 m 85 ls []) := by
  unfold fX19_base_85 at h
  obtain ⟨v1, ev1⟩ : ∃ y : Int32, y = (x2 + 1) := ⟨_, rfl⟩
  replace h := zl_sub ev1 h
  refine lv_iinc (v := v1) (lv' := [(2, .int v1), (0, .ref (B 19 x0)), (1, .ref (B 12 x1))]) F.1 F.2.1 dX19_base_85 hl (k := 2) rfl (by rw [ev1]; rfl) (by decide) rfl (fun ls hl => ?_)
  refine lv_goto (tgt := 2) F.1 F.2.1 dX19_base_88 (by decide) ?_
  exact hK2 x0 x1 v1 hx0 hx1 hr (lv_sub hl [1, 2, 0] rfl) h
def fX19_base_59b (N : Nat) (K2 : Nat → Nat → Int32 → St → Option (Int32 × St)) (K59 : Nat → Nat → Int32 → Int32 → St → Option (Int32 × St)) (x0 : Nat) (x1 : Nat) (x2 : Int32) (x3 : Int32) (z : St) : Option (Int32 × St) := if (zgI z 12 13 x1) ≤ x3 then (fX19_base_85 N K2 x0 x1 x2 z) else (zk x3 16 <| zl (zgQ z 149 x1 (Int32.toNatClampNeg x3)) fun y3 => zd y3 fun a4 => zk x2 16 <| zl (zsA z 162 a4 (Int32.toNatClampNeg x2) (vp_nar .boolean (0 : Int32))) fun z6 => zl (x3 + 1) fun v7 => K59 x0 x1 x2 v7 z6)
def fX19_base_59 (N : Nat) (K2 : Nat → Nat → Int32 → St → Option (Int32 × St)) : Nat → Nat → Nat → Int32 → Int32 → St → Option (Int32 × St)
  | 0 => fun _ _ _ _ _ => none
  | n + 1 => fX19_base_59b N K2 (fX19_base_59 N K2 n)
set_option maxHeartbeats 4000000 in
set_option maxRecDepth 100000 in
theorem bX19_base_59 (hst : zSt B ids) (F : zFx p m c cX19_base 4 s args RX19 D cy B ids A) (hA : ∀ q : Nat, s.heap.size ≤ q → A q) {r : Int32} {z' : St} (E : zEnd p l e rmX19_base s m args below meth c cX19_base D cy B ids A Q none z' .return_ True) {N : Nat} {K2 : Nat → Nat → Int32 → St → Option (Int32 × St)} {K59 : Nat → Nat → Int32 → Int32 → St → Option (Int32 × St)} (hK2 : ∀ (x0 : Nat) (x1 : Nat) (x2 : Int32) (hx0 : (19, x0) ∈ ids) (hx1 : (12, x1) ∈ ids) {z : St} {H : Heap} {locs : List Loc} {ls : Array Slot} (hr : zRep D cy B ids A s.heap z H locs) (hl : lv_has ls 4 [(0, .ref (B 19 x0)), (1, .ref (B 12 x1)), (2, .int x2)]), K2 x0 x1 x2 z = some (r, z') → W p l e rmX19_base s m args below meth c H locs 0 0 Q (F0 m 2 ls [])) (hK59 : ∀ (x0 : Nat) (x1 : Nat) (x2 : Int32) (x3 : Int32) (hx0 : (19, x0) ∈ ids) (hx1 : (12, x1) ∈ ids) {z : St} {H : Heap} {locs : List Loc} {ls : Array Slot} (hr : zRep D cy B ids A s.heap z H locs) (hl : lv_has ls 4 [(0, .ref (B 19 x0)), (1, .ref (B 12 x1)), (2, .int x2), (3, .int x3)]), K59 x0 x1 x2 x3 z = some (r, z') → W p l e rmX19_base s m args below meth c H locs 0 0 Q (F0 m 59 ls [])) (x0 : Nat) (x1 : Nat) (x2 : Int32) (x3 : Int32) (hx0 : (19, x0) ∈ ids) (hx1 : (12, x1) ∈ ids) {z : St} {H : Heap} {locs : List Loc} {ls : Array Slot} (hr : zRep D cy B ids A s.heap z H locs) (hl : lv_has ls 4 [(0, .ref (B 19 x0)), (1, .ref (B 12 x1)), (2, .int x2), (3, .int x3)]) (h : fX19_base_59b N K2 K59 x0 x1 x2 x3 z = some (r, z')) : W p l e rmX19_base s m args below meth c H locs 0 0 Q (F0 m 59 ls []) := by
  unfold fX19_base_59b at h
  refine lv_iload_n F.1 F.2.1 dX19_base_59 rfl (lv_at hl 3 rfl) ?_
  refine lv_aload_n F.1 F.2.1 dX19_base_60 rfl (lv_at hl 1 rfl) ?_
  refine gf19_457 F hx1 hr dX19_base_61 ?_
  refine lv_icmp_ge (tgt := 85) F.1 F.2.1 dX19_base_64 (by decide) (fun c1 => ?_) (fun c1 => ?_)
  · replace h := zi_t c1 h
    exact bX19_base_85 hst F hA E hK2 x0 x1 x2 hx0 hx1 hr (lv_sub hl [0, 1, 2] rfl) h
  · replace h := zi_f c1 h
    refine lv_aload_n F.1 F.2.1 dX19_base_67 rfl (lv_at hl 1 rfl) ?_
    refine gf19_460 F hx1 hr dX19_base_68 ?_
    refine lv_iload_n F.1 F.2.1 dX19_base_71 rfl (lv_at hl 3 rfl) ?_
    replace h := zk_some h
    obtain ⟨c2, h⟩ := h
    refine zr_aaldv (k := 149) (by decide) rfl rfl (zlen_d (by decide)) F (zal_a F hx1 (j := 12) rfl) hr dX19_base_72 c2 (fun y3 ey3 => ?_)
    replace h := zl_sub ey3 h
    have hy3 := zal_q hr (zal_a F hx1 (j := 12) rfl) rfl ey3
    clear ey3
    replace h := zd_some h
    obtain ⟨a4, rfl, h⟩ := h
    refine gf19_452 F (hy3 _ rfl) hr dX19_base_73 ?_
    refine lv_iload_n F.1 F.2.1 dX19_base_76 rfl (lv_at hl 2 rfl) ?_
    refine lv_iconst (v := (0 : Int32)) F.1 F.2.1 dX19_base_77 (by decide) ?_
    replace h := zk_some h
    obtain ⟨c5, h⟩ := h
    refine zr_zast (k := 162) (by decide) rfl (by decide) F (zal_a F (hy3 _ rfl) (j := 4) rfl) hr dX19_base_78 c5 (fun H locs z6 ez6 hr => ?_)
    replace h := zl_sub ez6 h
    clear ez6
    obtain ⟨v7, ev7⟩ : ∃ y : Int32, y = (x3 + 1) := ⟨_, rfl⟩
    replace h := zl_sub ev7 h
    refine lv_iinc (v := v7) (lv' := [(3, .int v7), (0, .ref (B 19 x0)), (1, .ref (B 12 x1)), (2, .int x2)]) F.1 F.2.1 dX19_base_79 hl (k := 3) rfl (by rw [ev7]; rfl) (by decide) rfl (fun ls hl => ?_)
    refine lv_goto (tgt := 59) F.1 F.2.1 dX19_base_82 (by decide) ?_
    exact hK59 x0 x1 x2 v7 hx0 hx1 hr (lv_sub hl [1, 2, 3, 0] rfl) h
theorem lX19_base_59 (hst : zSt B ids) (F : zFx p m c cX19_base 4 s args RX19 D cy B ids A) (hA : ∀ q : Nat, s.heap.size ≤ q → A q) {r : Int32} {z' : St} (E : zEnd p l e rmX19_base s m args below meth c cX19_base D cy B ids A Q none z' .return_ True) {N : Nat} {K2 : Nat → Nat → Int32 → St → Option (Int32 × St)} (hK2 : ∀ (x0 : Nat) (x1 : Nat) (x2 : Int32) (hx0 : (19, x0) ∈ ids) (hx1 : (12, x1) ∈ ids) {z : St} {H : Heap} {locs : List Loc} {ls : Array Slot} (hr : zRep D cy B ids A s.heap z H locs) (hl : lv_has ls 4 [(0, .ref (B 19 x0)), (1, .ref (B 12 x1)), (2, .int x2)]), K2 x0 x1 x2 z = some (r, z') → W p l e rmX19_base s m args below meth c H locs 0 0 Q (F0 m 2 ls [])) : ∀ (n : Nat) (x0 : Nat) (x1 : Nat) (x2 : Int32) (x3 : Int32) (hx0 : (19, x0) ∈ ids) (hx1 : (12, x1) ∈ ids) {z : St} {H : Heap} {locs : List Loc} {ls : Array Slot} (hr : zRep D cy B ids A s.heap z H locs) (hl : lv_has ls 4 [(0, .ref (B 19 x0)), (1, .ref (B 12 x1)), (2, .int x2), (3, .int x3)]), fX19_base_59 N K2 n x0 x1 x2 x3 z = some (r, z') → W p l e rmX19_base s m args below meth c H locs 0 0 Q (F0 m 59 ls []) := by
  intro n
  induction n with
  | zero => intro x0 x1 x2 x3 hx0 hx1 z H locs ls hr hl h; cases h
  | succ n ih => intro x0 x1 x2 x3 hx0 hx1 z H locs ls hr hl h; exact bX19_base_59 hst F hA E hK2 ih x0 x1 x2 x3 hx0 hx1 hr hl h
def fX19_base_2b (N : Nat) (K2 : Nat → Nat → Int32 → St → Option (Int32 × St)) (x0 : Nat) (x1 : Nat) (x2 : Int32) (z : St) : Option (Int32 × St) := if (16 : Int32) ≤ x2 then (some (0, z)) else (zk x2 16 <| if (zgA z 150 x1 (Int32.toNatClampNeg x2)) = (-1 : Int32) then (fX19_base_85 N K2 x0 x1 x2 z) else (zk x2 16 <| if ((zgI z 19 24 x0) - (zgA z 151 x1 (Int32.toNatClampNeg x2))) < (5000 : Int32) then (fX19_base_85 N K2 x0 x1 x2 z) else (zk x2 16 <| zc (fX19_dropAdvert N x0 (zgA z 150 x1 (Int32.toNatClampNeg x2)) z) fun _ z8 => zk x2 16 <| zl (zsA z8 150 x1 (Int32.toNatClampNeg x2) (-1 : Int32)) fun z12 => zl (zsI z12 12 23 x1 (1 : Int32)) fun z13 => fX19_base_59 N K2 N x0 x1 x2 (0 : Int32) z13)))
def fX19_base_2 (N : Nat)  : Nat → Nat → Nat → Int32 → St → Option (Int32 × St)
  | 0 => fun _ _ _ _ => none
  | n + 1 => fX19_base_2b N (fX19_base_2 N  n)
set_option maxHeartbeats 4000000 in
set_option maxRecDepth 100000 in
theorem bX19_base_2 (hst : zSt B ids) (F : zFx p m c cX19_base 4 s args RX19 D cy B ids A) (hA : ∀ q : Nat, s.heap.size ≤ q → A q) {r : Int32} {z' : St} (E : zEnd p l e rmX19_base s m args below meth c cX19_base D cy B ids A Q none z' .return_ True) {N : Nat} {K2 : Nat → Nat → Int32 → St → Option (Int32 × St)} (hK2 : ∀ (x0 : Nat) (x1 : Nat) (x2 : Int32) (hx0 : (19, x0) ∈ ids) (hx1 : (12, x1) ∈ ids) {z : St} {H : Heap} {locs : List Loc} {ls : Array Slot} (hr : zRep D cy B ids A s.heap z H locs) (hl : lv_has ls 4 [(0, .ref (B 19 x0)), (1, .ref (B 12 x1)), (2, .int x2)]), K2 x0 x1 x2 z = some (r, z') → W p l e rmX19_base s m args below meth c H locs 0 0 Q (F0 m 2 ls [])) (x0 : Nat) (x1 : Nat) (x2 : Int32) (hx0 : (19, x0) ∈ ids) (hx1 : (12, x1) ∈ ids) {z : St} {H : Heap} {locs : List Loc} {ls : Array Slot} (hr : zRep D cy B ids A s.heap z H locs) (hl : lv_has ls 4 [(0, .ref (B 19 x0)), (1, .ref (B 12 x1)), (2, .int x2)]) (h : fX19_base_2b N K2 x0 x1 x2 z = some (r, z')) : W p l e rmX19_base s m args below meth c H locs 0 0 Q (F0 m 2 ls []) := by
  unfold fX19_base_2b at h
  refine lv_iload_n F.1 F.2.1 dX19_base_2 rfl (lv_at hl 2 rfl) ?_
  refine lv_bipush (v := (16 : Int32)) F.1 F.2.1 dX19_base_3 (by decide) ?_
  refine lv_icmp_ge (tgt := 91) F.1 F.2.1 dX19_base_5 (by decide) (fun c1 => ?_) (fun c1 => ?_)
  · replace h := zi_t c1 h
    obtain ⟨rfl, rfl⟩ := zret h
    exact E _ _ _ _ dX19_base_91 trivial hr
  · replace h := zi_f c1 h
    refine lv_aload_n F.1 F.2.1 dX19_base_8 rfl (lv_at hl 1 rfl) ?_
    refine gf19_448 F hx1 hr dX19_base_9 ?_
    refine lv_iload_n F.1 F.2.1 dX19_base_12 rfl (lv_at hl 2 rfl) ?_
    replace h := zk_some h
    obtain ⟨c2, h⟩ := h
    refine zr_iald (k := 150) (by decide) rfl (by decide) F (zal_a F hx1 (j := 14) rfl) hr dX19_base_13 c2 ?_
    refine lv_iconst (v := (-1 : Int32)) F.1 F.2.1 dX19_base_14 (by decide) ?_
    refine lv_icmp_eq (tgt := 85) F.1 F.2.1 dX19_base_15 (by decide) (fun c3 => ?_) (fun c3 => ?_)
    · replace h := zi_t c3 h
      exact bX19_base_85 hst F hA E hK2 x0 x1 x2 hx0 hx1 hr (lv_sub hl [0, 1, 2] rfl) h
    · replace h := zi_f c3 h
      refine lv_aload_n F.1 F.2.1 dX19_base_18 rfl (lv_at hl 0 rfl) ?_
      refine gf19_143 F hx0 hr dX19_base_19 ?_
      refine lv_aload_n F.1 F.2.1 dX19_base_22 rfl (lv_at hl 1 rfl) ?_
      refine gf19_515 F hx1 hr dX19_base_23 ?_
      refine lv_iload_n F.1 F.2.1 dX19_base_26 rfl (lv_at hl 2 rfl) ?_
      replace h := zk_some h
      obtain ⟨c4, h⟩ := h
      refine zr_iald (k := 151) (by decide) rfl (by decide) F (zal_a F hx1 (j := 15) rfl) hr dX19_base_27 c4 ?_
      refine lv_isub F.1 F.2.1 dX19_base_28 ?_
      refine lv_sipush (v := (5000 : Int32)) F.1 F.2.1 dX19_base_29 (by decide) ?_
      refine lv_icmp_lt (tgt := 85) F.1 F.2.1 dX19_base_32 (by decide) (fun c5 => ?_) (fun c5 => ?_)
      · replace h := zi_t c5 h
        exact bX19_base_85 hst F hA E hK2 x0 x1 x2 hx0 hx1 hr (lv_sub hl [0, 1, 2] rfl) h
      · replace h := zi_f c5 h
        refine lv_aload_n F.1 F.2.1 dX19_base_35 rfl (lv_at hl 0 rfl) ?_
        refine lv_aload_n F.1 F.2.1 dX19_base_36 rfl (lv_at hl 1 rfl) ?_
        refine gf19_448 F hx1 hr dX19_base_37 ?_
        refine lv_iload_n F.1 F.2.1 dX19_base_40 rfl (lv_at hl 2 rfl) ?_
        replace h := zk_some h
        obtain ⟨c6, h⟩ := h
        refine zr_iald (k := 150) (by decide) rfl (by decide) F (zal_a F hx1 (j := 14) rfl) hr dX19_base_41 c6 ?_
        replace h := zc_some h
        obtain ⟨r7, z8, hc9, h⟩ := h
        refine zr_callv (zrun_V (As := [.int (zgA z 150 x1 (Int32.toNatClampNeg x2))]) (rest := []) zq_2565 zq_2567 zs_X19_dropAdvert zq_2568 zq_4 hdX19_dropAdvert (by decide) (T := TX19) (N := 32) rfl (okX19_dropAdvert l D cy B ids hst N x0 hx0 (zgA z 150 x1 (Int32.toNatClampNeg x2))  hr.2.2 hc9) F hr hx0 hl.1 rfl (by decide) dX19_base_42 rfl rfl hroX19_base_X19_dropAdvert ⟨Nat.zero_le _, Nat.zero_le _⟩) F hA hr (fun H locs hw10 hr => ?_)
        clear hc9
        refine lv_aload_n F.1 F.2.1 dX19_base_45 rfl (lv_at hl 1 rfl) ?_
        refine gf19_448 F hx1 hr dX19_base_46 ?_
        refine lv_iload_n F.1 F.2.1 dX19_base_49 rfl (lv_at hl 2 rfl) ?_
        refine lv_iconst (v := (-1 : Int32)) F.1 F.2.1 dX19_base_50 (by decide) ?_
        replace h := zk_some h
        obtain ⟨c11, h⟩ := h
        refine zr_iast (k := 150) (by decide) rfl (by decide) F (zal_a F hx1 (j := 14) rfl) hr dX19_base_51 c11 (fun H locs z12 ez12 hr => ?_)
        replace h := zl_sub ez12 h
        clear ez12
        refine lv_aload_n F.1 F.2.1 dX19_base_52 rfl (lv_at hl 1 rfl) ?_
        refine lv_iconst (v := (1 : Int32)) F.1 F.2.1 dX19_base_53 (by decide) ?_
        refine pf19_489 F hx1 hr dX19_base_54 (1 : Int32) (by decide) (fun H locs z13 ez13 hr => ?_)
        replace h := zl_sub ez13 h
        clear ez13
        refine lv_iconst (v := (0 : Int32)) F.1 F.2.1 dX19_base_57 (by decide) ?_
        refine lv_istore_n (lv' := [(3, .int (0 : Int32)), (0, .ref (B 19 x0)), (1, .ref (B 12 x1)), (2, .int x2)]) F.1 F.2.1 dX19_base_58 rfl hl (by decide) rfl (fun ls hl => ?_)
        exact lX19_base_59 hst F hA E hK2 _ x0 x1 x2 (0 : Int32) hx0 hx1 hr (lv_sub hl [1, 2, 3, 0] rfl) h
theorem lX19_base_2 (hst : zSt B ids) (F : zFx p m c cX19_base 4 s args RX19 D cy B ids A) (hA : ∀ q : Nat, s.heap.size ≤ q → A q) {r : Int32} {z' : St} (E : zEnd p l e rmX19_base s m args below meth c cX19_base D cy B ids A Q none z' .return_ True) {N : Nat}  : ∀ (n : Nat) (x0 : Nat) (x1 : Nat) (x2 : Int32) (hx0 : (19, x0) ∈ ids) (hx1 : (12, x1) ∈ ids) {z : St} {H : Heap} {locs : List Loc} {ls : Array Slot} (hr : zRep D cy B ids A s.heap z H locs) (hl : lv_has ls 4 [(0, .ref (B 19 x0)), (1, .ref (B 12 x1)), (2, .int x2)]), fX19_base_2 N  n x0 x1 x2 z = some (r, z') → W p l e rmX19_base s m args below meth c H locs 0 0 Q (F0 m 2 ls []) := by
  intro n
  induction n with
  | zero => intro x0 x1 x2 hx0 hx1 z H locs ls hr hl h; cases h
  | succ n ih => intro x0 x1 x2 hx0 hx1 z H locs ls hr hl h; exact bX19_base_2 hst F hA E ih x0 x1 x2 hx0 hx1 hr hl h
def fX19_base (N : Nat)  (x0 : Nat) (x1 : Nat) (z : St) : Option (Int32 × St) := fX19_base_2 N N x0 x1 (0 : Int32) z
set_option maxHeartbeats 4000000 in
set_option maxRecDepth 100000 in
theorem bX19_base_0 (hst : zSt B ids) (F : zFx p m c cX19_base 4 s args RX19 D cy B ids A) (hA : ∀ q : Nat, s.heap.size ≤ q → A q) {r : Int32} {z' : St} (E : zEnd p l e rmX19_base s m args below meth c cX19_base D cy B ids A Q none z' .return_ True) {N : Nat}  (x0 : Nat) (x1 : Nat) (hx0 : (19, x0) ∈ ids) (hx1 : (12, x1) ∈ ids) {z : St} {H : Heap} {locs : List Loc} {ls : Array Slot} (hr : zRep D cy B ids A s.heap z H locs) (hl : lv_has ls 4 [(0, .ref (B 19 x0)), (1, .ref (B 12 x1))]) (h : fX19_base N x0 x1 z = some (r, z')) : W p l e rmX19_base s m args below meth c H locs 0 0 Q (F0 m 0 ls []) := by
  unfold fX19_base at h
  refine lv_iconst (v := (0 : Int32)) F.1 F.2.1 dX19_base_0 (by decide) ?_
  refine lv_istore_n (lv' := [(2, .int (0 : Int32)), (0, .ref (B 19 x0)), (1, .ref (B 12 x1))]) F.1 F.2.1 dX19_base_1 rfl hl (by decide) rfl (fun ls hl => ?_)
  exact lX19_base_2 hst F hA E  _ x0 x1 (0 : Int32) hx0 hx1 hr (lv_sub hl [1, 2, 0] rfl) h
end SX19_base
set_option maxRecDepth 100000 in
theorem okX19_base (l : Launch) (D : va_G) (cy : Nat → ClassId) (B : Nat → Nat → Nat) (ids : List (Nat × Nat)) (hst : zSt B ids) (N : Nat) (x0 : Nat) (hx0 : (19, x0) ∈ ids) (x1 : Nat) (hx1 : (12, x1) ∈ ids) {z : St} {r : Int32} {z' : St} (hW : zWf ids z) (h : fX19_base N x0 x1 z = some (r, z')) : zM l yX19_base (zws yX19_base cX19_base 4 none) rmX19_base D cy B ids [.ref (B 19 x0), .ref (B 12 x1)] none True z z' :=
  zM_of hst hW (by decide +kernel) (Nat.le_of_ble_eq_true rfl) (fun p e s m args below meth c A ls F hA hret hlocks hr hl => bX19_base_0 hst F hA (zEnd_v F hret hlocks) x0 x1 hx0 hx1 hr hl h)
abbrev rmX19_insert : Room := { frames := 0, cells := 0, slots := 0, locals := 0 }
theorem hdX19_insert : yX19_insert.cls ≠ "java/lang/invoke/MethodHandle" ∧ yX19_insert.cls ≠ "java/lang/invoke/VarHandle" ∧ (parseMethodDescriptor yX19_insert.desc).map (fun d => d.parameters.length) = some 6 := by decide +kernel
section SX19_insert
variable {p : Program} {l : Launch} {e : Env} {s : State} {m : MethodId} {args : Array Value} {below : List Frame} {meth : Method} {c : Code} {Q : State → Prop} {D : va_G} {cy : Nat → ClassId} {B : Nat → Nat → Nat} {ids : List (Nat × Nat)} {A : Nat → Prop}
def fX19_insert_75 (N : Nat) (K26 : Nat → Int32 → Int32 → Int32 → Int32 → Int32 → St → Option (Int32 × St)) (x0 : Nat) (x4 : Int32) (x5 : Int32) (x6 : Int32) (x7 : Int32) (x8 : Int32) (z : St) : Option (Int32 × St) := zk (x7 - (3 : Int32)) 182400 <| zk x7 182400 <| zl (zsA z 178 x0 (Int32.toNatClampNeg x7) (zgA z 178 x0 (Int32.toNatClampNeg (x7 - (3 : Int32))))) fun z3 => zk (x7 - (2 : Int32)) 182400 <| zk (x7 + (1 : Int32)) 182400 <| zl (zsA z3 178 x0 (Int32.toNatClampNeg (x7 + (1 : Int32))) (zgA z3 178 x0 (Int32.toNatClampNeg (x7 - (2 : Int32))))) fun z6 => zk (x7 - (1 : Int32)) 182400 <| zk (x7 + (2 : Int32)) 182400 <| zl (zsA z6 178 x0 (Int32.toNatClampNeg (x7 + (2 : Int32))) (zgA z6 178 x0 (Int32.toNatClampNeg (x7 - (1 : Int32))))) fun z9 => zl (x7 + (-3)) fun v10 => K26 x0 x4 x5 x6 v10 x8 z9
set_option maxHeartbeats 4000000 in
set_option maxRecDepth 100000 in
theorem bX19_insert_75 (hst : zSt B ids) (F : zFx p m c cX19_insert 9 s args RX19 D cy B ids A) (hA : ∀ q : Nat, s.heap.size ≤ q → A q) {r : Int32} {z' : St} (E : zEnd p l e rmX19_insert s m args below meth c cX19_insert D cy B ids A Q none z' .return_ True) {N : Nat} {K26 : Nat → Int32 → Int32 → Int32 → Int32 → Int32 → St → Option (Int32 × St)} (hK26 : ∀ (x0 : Nat) (x4 : Int32) (x5 : Int32) (x6 : Int32) (x7 : Int32) (x8 : Int32) (hx0 : (19, x0) ∈ ids) {z : St} {H : Heap} {locs : List Loc} {ls : Array Slot} (hr : zRep D cy B ids A s.heap z H locs) (hl : lv_has ls 9 [(0, .ref (B 19 x0)), (4, .int x4), (5, .int x5), (6, .int x6), (7, .int x7), (8, .int x8)]), K26 x0 x4 x5 x6 x7 x8 z = some (r, z') → W p l e rmX19_insert s m args below meth c H locs 0 0 Q (F0 m 26 ls [])) (x0 : Nat) (x4 : Int32) (x5 : Int32) (x6 : Int32) (x7 : Int32) (x8 : Int32) (hx0 : (19, x0) ∈ ids) {z : St} {H : Heap} {locs : List Loc} {ls : Array Slot} (hr : zRep D cy B ids A s.heap z H locs) (hl : lv_has ls 9 [(0, .ref (B 19 x0)), (4, .int x4), (5, .int x5), (6, .int x6), (7, .int x7), (8, .int x8)]) (h : fX19_insert_75 N K26 x0 x4 x5 x6 x7 x8 z = some (r, z')) : W p l e rmX19_insert s m args below meth c H locs 0 0 Q (F0 m 75 ls []) := by
  unfold fX19_insert_75 at h
  refine lv_aload_n F.1 F.2.1 dX19_insert_75 rfl (lv_at hl 0 rfl) ?_
  refine gf19_65 F hx0 hr dX19_insert_76 ?_
  refine lv_iload F.1 F.2.1 dX19_insert_79 (lv_at hl 4 rfl) ?_
  refine lv_aload_n F.1 F.2.1 dX19_insert_81 rfl (lv_at hl 0 rfl) ?_
  refine gf19_65 F hx0 hr dX19_insert_82 ?_
  refine lv_iload F.1 F.2.1 dX19_insert_85 (lv_at hl 4 rfl) ?_
  refine lv_iconst (v := (3 : Int32)) F.1 F.2.1 dX19_insert_87 (by decide) ?_
  refine lv_isub F.1 F.2.1 dX19_insert_88 ?_
  replace h := zk_some h
  obtain ⟨c1, h⟩ := h
  refine zr_iald (k := 178) (by decide) rfl (by decide) F (zal_a F hx0 (j := 8) rfl) hr dX19_insert_89 c1 ?_
  replace h := zk_some h
  obtain ⟨c2, h⟩ := h
  refine zr_iast (k := 178) (by decide) rfl (by decide) F (zal_a F hx0 (j := 8) rfl) hr dX19_insert_90 c2 (fun H locs z3 ez3 hr => ?_)
  replace h := zl_sub ez3 h
  clear ez3
  refine lv_aload_n F.1 F.2.1 dX19_insert_91 rfl (lv_at hl 0 rfl) ?_
  refine gf19_65 F hx0 hr dX19_insert_92 ?_
  refine lv_iload F.1 F.2.1 dX19_insert_95 (lv_at hl 4 rfl) ?_
  refine lv_iconst (v := (1 : Int32)) F.1 F.2.1 dX19_insert_97 (by decide) ?_
  refine lv_iadd F.1 F.2.1 dX19_insert_98 ?_
  refine lv_aload_n F.1 F.2.1 dX19_insert_99 rfl (lv_at hl 0 rfl) ?_
  refine gf19_65 F hx0 hr dX19_insert_100 ?_
  refine lv_iload F.1 F.2.1 dX19_insert_103 (lv_at hl 4 rfl) ?_
  refine lv_iconst (v := (2 : Int32)) F.1 F.2.1 dX19_insert_105 (by decide) ?_
  refine lv_isub F.1 F.2.1 dX19_insert_106 ?_
  replace h := zk_some h
  obtain ⟨c4, h⟩ := h
  refine zr_iald (k := 178) (by decide) rfl (by decide) F (zal_a F hx0 (j := 8) rfl) hr dX19_insert_107 c4 ?_
  replace h := zk_some h
  obtain ⟨c5, h⟩ := h
  refine zr_iast (k := 178) (by decide) rfl (by decide) F (zal_a F hx0 (j := 8) rfl) hr dX19_insert_108 c5 (fun H locs z6 ez6 hr => ?_)
  replace h := zl_sub ez6 h
  clear ez6
  refine lv_aload_n F.1 F.2.1 dX19_insert_109 rfl (lv_at hl 0 rfl) ?_
  refine gf19_65 F hx0 hr dX19_insert_110 ?_
  refine lv_iload F.1 F.2.1 dX19_insert_113 (lv_at hl 4 rfl) ?_
  refine lv_iconst (v := (2 : Int32)) F.1 F.2.1 dX19_insert_115 (by decide) ?_
  refine lv_iadd F.1 F.2.1 dX19_insert_116 ?_
  refine lv_aload_n F.1 F.2.1 dX19_insert_117 rfl (lv_at hl 0 rfl) ?_
  refine gf19_65 F hx0 hr dX19_insert_118 ?_
  refine lv_iload F.1 F.2.1 dX19_insert_121 (lv_at hl 4 rfl) ?_
  refine lv_iconst (v := (1 : Int32)) F.1 F.2.1 dX19_insert_123 (by decide) ?_
  refine lv_isub F.1 F.2.1 dX19_insert_124 ?_
  replace h := zk_some h
  obtain ⟨c7, h⟩ := h
  refine zr_iald (k := 178) (by decide) rfl (by decide) F (zal_a F hx0 (j := 8) rfl) hr dX19_insert_125 c7 ?_
  replace h := zk_some h
  obtain ⟨c8, h⟩ := h
  refine zr_iast (k := 178) (by decide) rfl (by decide) F (zal_a F hx0 (j := 8) rfl) hr dX19_insert_126 c8 (fun H locs z9 ez9 hr => ?_)
  replace h := zl_sub ez9 h
  clear ez9
  obtain ⟨v10, ev10⟩ : ∃ y : Int32, y = (x7 + (-3)) := ⟨_, rfl⟩
  replace h := zl_sub ev10 h
  refine lv_iinc (v := v10) (lv' := [(7, .int v10), (0, .ref (B 19 x0)), (4, .int x4), (5, .int x5), (6, .int x6), (8, .int x8)]) F.1 F.2.1 dX19_insert_127 hl (k := 4) rfl (by rw [ev10]; rfl) (by decide) rfl (fun ls hl => ?_)
  refine lv_goto (tgt := 26) F.1 F.2.1 dX19_insert_130 (by decide) ?_
  exact hK26 x0 x4 x5 x6 v10 x8 hx0 hr (lv_sub hl [1, 2, 3, 4, 0, 5] rfl) h
def fX19_insert_133 (N : Nat)  (x0 : Nat) (x4 : Int32) (x5 : Int32) (x6 : Int32) (x7 : Int32) (z : St) : Option (Int32 × St) := zk x7 182400 <| zl (zsA z 178 x0 (Int32.toNatClampNeg x7) x4) fun z2 => zk (x7 + (1 : Int32)) 182400 <| zl (zsA z2 178 x0 (Int32.toNatClampNeg (x7 + (1 : Int32))) x5) fun z4 => zk (x7 + (2 : Int32)) 182400 <| zl (zsA z4 178 x0 (Int32.toNatClampNeg (x7 + (2 : Int32))) x6) fun z6 => some (0, z6)
set_option maxHeartbeats 4000000 in
set_option maxRecDepth 100000 in
theorem bX19_insert_133 (hst : zSt B ids) (F : zFx p m c cX19_insert 9 s args RX19 D cy B ids A) (hA : ∀ q : Nat, s.heap.size ≤ q → A q) {r : Int32} {z' : St} (E : zEnd p l e rmX19_insert s m args below meth c cX19_insert D cy B ids A Q none z' .return_ True) {N : Nat}  (x0 : Nat) (x4 : Int32) (x5 : Int32) (x6 : Int32) (x7 : Int32) (hx0 : (19, x0) ∈ ids) {z : St} {H : Heap} {locs : List Loc} {ls : Array Slot} (hr : zRep D cy B ids A s.heap z H locs) (hl : lv_has ls 9 [(0, .ref (B 19 x0)), (4, .int x4), (5, .int x5), (6, .int x6), (7, .int x7)]) (h : fX19_insert_133 N x0 x4 x5 x6 x7 z = some (r, z')) : W p l e rmX19_insert s m args below meth c H locs 0 0 Q (F0 m 133 ls []) := by
  unfold fX19_insert_133 at h
  refine lv_aload_n F.1 F.2.1 dX19_insert_133 rfl (lv_at hl 0 rfl) ?_
  refine gf19_65 F hx0 hr dX19_insert_134 ?_
  refine lv_iload F.1 F.2.1 dX19_insert_137 (lv_at hl 4 rfl) ?_
  refine lv_iload F.1 F.2.1 dX19_insert_139 (lv_at hl 1 rfl) ?_
  replace h := zk_some h
  obtain ⟨c1, h⟩ := h
  refine zr_iast (k := 178) (by decide) rfl (by decide) F (zal_a F hx0 (j := 8) rfl) hr dX19_insert_141 c1 (fun H locs z2 ez2 hr => ?_)
  replace h := zl_sub ez2 h
  clear ez2
  refine lv_aload_n F.1 F.2.1 dX19_insert_142 rfl (lv_at hl 0 rfl) ?_
  refine gf19_65 F hx0 hr dX19_insert_143 ?_
  refine lv_iload F.1 F.2.1 dX19_insert_146 (lv_at hl 4 rfl) ?_
  refine lv_iconst (v := (1 : Int32)) F.1 F.2.1 dX19_insert_148 (by decide) ?_
  refine lv_iadd F.1 F.2.1 dX19_insert_149 ?_
  refine lv_iload F.1 F.2.1 dX19_insert_150 (lv_at hl 2 rfl) ?_
  replace h := zk_some h
  obtain ⟨c3, h⟩ := h
  refine zr_iast (k := 178) (by decide) rfl (by decide) F (zal_a F hx0 (j := 8) rfl) hr dX19_insert_152 c3 (fun H locs z4 ez4 hr => ?_)
  replace h := zl_sub ez4 h
  clear ez4
  refine lv_aload_n F.1 F.2.1 dX19_insert_153 rfl (lv_at hl 0 rfl) ?_
  refine gf19_65 F hx0 hr dX19_insert_154 ?_
  refine lv_iload F.1 F.2.1 dX19_insert_157 (lv_at hl 4 rfl) ?_
  refine lv_iconst (v := (2 : Int32)) F.1 F.2.1 dX19_insert_159 (by decide) ?_
  refine lv_iadd F.1 F.2.1 dX19_insert_160 ?_
  refine lv_iload F.1 F.2.1 dX19_insert_161 (lv_at hl 3 rfl) ?_
  replace h := zk_some h
  obtain ⟨c5, h⟩ := h
  refine zr_iast (k := 178) (by decide) rfl (by decide) F (zal_a F hx0 (j := 8) rfl) hr dX19_insert_163 c5 (fun H locs z6 ez6 hr => ?_)
  replace h := zl_sub ez6 h
  clear ez6
  obtain ⟨rfl, rfl⟩ := zret h
  exact E _ _ _ _ dX19_insert_164 trivial hr
def fX19_insert_26b (N : Nat) (K26 : Nat → Int32 → Int32 → Int32 → Int32 → Int32 → St → Option (Int32 × St)) (x0 : Nat) (x4 : Int32) (x5 : Int32) (x6 : Int32) (x7 : Int32) (x8 : Int32) (z : St) : Option (Int32 × St) := if x7 ≤ x8 then (fX19_insert_133 N x0 x4 x5 x6 x7 z) else (zk (x7 - (2 : Int32)) 182400 <| if x5 < (zgA z 178 x0 (Int32.toNatClampNeg (x7 - (2 : Int32)))) then (fX19_insert_75 N K26 x0 x4 x5 x6 x7 x8 z) else (zk (x7 - (2 : Int32)) 182400 <| if ¬ (zgA z 178 x0 (Int32.toNatClampNeg (x7 - (2 : Int32)))) = x5 then (fX19_insert_133 N x0 x4 x5 x6 x7 z) else (zk (x7 - (3 : Int32)) 182400 <| if (zgA z 178 x0 (Int32.toNatClampNeg (x7 - (3 : Int32)))) ≤ x4 then (fX19_insert_133 N x0 x4 x5 x6 x7 z) else (fX19_insert_75 N K26 x0 x4 x5 x6 x7 x8 z))))
def fX19_insert_26 (N : Nat)  : Nat → Nat → Int32 → Int32 → Int32 → Int32 → Int32 → St → Option (Int32 × St)
  | 0 => fun _ _ _ _ _ _ _ => none
  | n + 1 => fX19_insert_26b N (fX19_insert_26 N  n)
set_option maxHeartbeats 4000000 in
set_option maxRecDepth 100000 in
theorem bX19_insert_26 (hst : zSt B ids) (F : zFx p m c cX19_insert 9 s args RX19 D cy B ids A) (hA : ∀ q : Nat, s.heap.size ≤ q → A q) {r : Int32} {z' : St} (E : zEnd p l e rmX19_insert s m args below meth c cX19_insert D cy B ids A Q none z' .return_ True) {N : Nat} {K26 : Nat → Int32 → Int32 → Int32 → Int32 → Int32 → St → Option (Int32 × St)} (hK26 : ∀ (x0 : Nat) (x4 : Int32) (x5 : Int32) (x6 : Int32) (x7 : Int32) (x8 : Int32) (hx0 : (19, x0) ∈ ids) {z : St} {H : Heap} {locs : List Loc} {ls : Array Slot} (hr : zRep D cy B ids A s.heap z H locs) (hl : lv_has ls 9 [(0, .ref (B 19 x0)), (4, .int x4), (5, .int x5), (6, .int x6), (7, .int x7), (8, .int x8)]), K26 x0 x4 x5 x6 x7 x8 z = some (r, z') → W p l e rmX19_insert s m args below meth c H locs 0 0 Q (F0 m 26 ls [])) (x0 : Nat) (x4 : Int32) (x5 : Int32) (x6 : Int32) (x7 : Int32) (x8 : Int32) (hx0 : (19, x0) ∈ ids) {z : St} {H : Heap} {locs : List Loc} {ls : Array Slot} (hr : zRep D cy B ids A s.heap z H locs) (hl : lv_has ls 9 [(0, .ref (B 19 x0)), (4, .int x4), (5, .int x5), (6, .int x6), (7, .int x7), (8, .int x8)]) (h : fX19_insert_26b N K26 x0 x4 x5 x6 x7 x8 z = some (r, z')) : W p l e rmX19_insert s m args below meth c H locs 0 0 Q (F0 m 26 ls []) := by
  unfold fX19_insert_26b at h
  refine lv_iload F.1 F.2.1 dX19_insert_26 (lv_at hl 4 rfl) ?_
  refine lv_iload F.1 F.2.1 dX19_insert_28 (lv_at hl 5 rfl) ?_
  refine lv_icmp_le (tgt := 133) F.1 F.2.1 dX19_insert_30 (by decide) (fun c1 => ?_) (fun c1 => ?_)
  · replace h := zi_t c1 h
    exact bX19_insert_133 hst F hA E  x0 x4 x5 x6 x7 hx0 hr (lv_sub hl [0, 1, 2, 3, 4] rfl) h
  · replace h := zi_f c1 h
    refine lv_aload_n F.1 F.2.1 dX19_insert_33 rfl (lv_at hl 0 rfl) ?_
    refine gf19_65 F hx0 hr dX19_insert_34 ?_
    refine lv_iload F.1 F.2.1 dX19_insert_37 (lv_at hl 4 rfl) ?_
    refine lv_iconst (v := (2 : Int32)) F.1 F.2.1 dX19_insert_39 (by decide) ?_
    refine lv_isub F.1 F.2.1 dX19_insert_40 ?_
    replace h := zk_some h
    obtain ⟨c2, h⟩ := h
    refine zr_iald (k := 178) (by decide) rfl (by decide) F (zal_a F hx0 (j := 8) rfl) hr dX19_insert_41 c2 ?_
    refine lv_iload F.1 F.2.1 dX19_insert_42 (lv_at hl 2 rfl) ?_
    refine lv_icmp_gt (tgt := 75) F.1 F.2.1 dX19_insert_44 (by decide) (fun c3 => ?_) (fun c3 => ?_)
    · replace h := zi_t c3 h
      exact bX19_insert_75 hst F hA E hK26 x0 x4 x5 x6 x7 x8 hx0 hr (lv_sub hl [0, 1, 2, 3, 4, 5] rfl) h
    · replace h := zi_f c3 h
      refine lv_aload_n F.1 F.2.1 dX19_insert_47 rfl (lv_at hl 0 rfl) ?_
      refine gf19_65 F hx0 hr dX19_insert_48 ?_
      refine lv_iload F.1 F.2.1 dX19_insert_51 (lv_at hl 4 rfl) ?_
      refine lv_iconst (v := (2 : Int32)) F.1 F.2.1 dX19_insert_53 (by decide) ?_
      refine lv_isub F.1 F.2.1 dX19_insert_54 ?_
      replace h := zk_some h
      obtain ⟨c4, h⟩ := h
      refine zr_iald (k := 178) (by decide) rfl (by decide) F (zal_a F hx0 (j := 8) rfl) hr dX19_insert_55 c4 ?_
      refine lv_iload F.1 F.2.1 dX19_insert_56 (lv_at hl 2 rfl) ?_
      refine lv_icmp_ne (tgt := 133) F.1 F.2.1 dX19_insert_58 (by decide) (fun c5 => ?_) (fun c5 => ?_)
      · replace h := zi_t c5 h
        exact bX19_insert_133 hst F hA E  x0 x4 x5 x6 x7 hx0 hr (lv_sub hl [0, 1, 2, 3, 4] rfl) h
      · replace h := zi_f (fun q => q c5) h
        refine lv_aload_n F.1 F.2.1 dX19_insert_61 rfl (lv_at hl 0 rfl) ?_
        refine gf19_65 F hx0 hr dX19_insert_62 ?_
        refine lv_iload F.1 F.2.1 dX19_insert_65 (lv_at hl 4 rfl) ?_
        refine lv_iconst (v := (3 : Int32)) F.1 F.2.1 dX19_insert_67 (by decide) ?_
        refine lv_isub F.1 F.2.1 dX19_insert_68 ?_
        replace h := zk_some h
        obtain ⟨c6, h⟩ := h
        refine zr_iald (k := 178) (by decide) rfl (by decide) F (zal_a F hx0 (j := 8) rfl) hr dX19_insert_69 c6 ?_
        refine lv_iload F.1 F.2.1 dX19_insert_70 (lv_at hl 1 rfl) ?_
        refine lv_icmp_le (tgt := 133) F.1 F.2.1 dX19_insert_72 (by decide) (fun c7 => ?_) (fun c7 => ?_)
        · replace h := zi_t c7 h
          exact bX19_insert_133 hst F hA E  x0 x4 x5 x6 x7 hx0 hr (lv_sub hl [0, 1, 2, 3, 4] rfl) h
        · replace h := zi_f c7 h
          exact bX19_insert_75 hst F hA E hK26 x0 x4 x5 x6 x7 x8 hx0 hr (lv_sub hl [0, 1, 2, 3, 4, 5] rfl) h
theorem lX19_insert_26 (hst : zSt B ids) (F : zFx p m c cX19_insert 9 s args RX19 D cy B ids A) (hA : ∀ q : Nat, s.heap.size ≤ q → A q) {r : Int32} {z' : St} (E : zEnd p l e rmX19_insert s m args below meth c cX19_insert D cy B ids A Q none z' .return_ True) {N : Nat}  : ∀ (n : Nat) (x0 : Nat) (x4 : Int32) (x5 : Int32) (x6 : Int32) (x7 : Int32) (x8 : Int32) (hx0 : (19, x0) ∈ ids) {z : St} {H : Heap} {locs : List Loc} {ls : Array Slot} (hr : zRep D cy B ids A s.heap z H locs) (hl : lv_has ls 9 [(0, .ref (B 19 x0)), (4, .int x4), (5, .int x5), (6, .int x6), (7, .int x7), (8, .int x8)]), fX19_insert_26 N  n x0 x4 x5 x6 x7 x8 z = some (r, z') → W p l e rmX19_insert s m args below meth c H locs 0 0 Q (F0 m 26 ls []) := by
  intro n
  induction n with
  | zero => intro x0 x4 x5 x6 x7 x8 hx0 z H locs ls hr hl h; cases h
  | succ n ih => intro x0 x4 x5 x6 x7 x8 hx0 z H locs ls hr hl h; exact bX19_insert_26 hst F hA E ih x0 x4 x5 x6 x7 x8 hx0 hr hl h
def fX19_insert (N : Nat)  (x0 : Nat) (x1 : Int32) (x2 : Int32) (x3 : Int32) (x4 : Int32) (x5 : Int32) (x6 : Int32) (z : St) : Option (Int32 × St) := zl ((((76 : Int32) * x1) + (4 : Int32)) + ((3 : Int32) * (x2 + x3))) fun v1 => zl ((((76 : Int32) * x1) + (4 : Int32)) + ((3 : Int32) * x2)) fun v2 => fX19_insert_26 N N x0 x4 x5 x6 v1 v2 z
set_option maxHeartbeats 4000000 in
set_option maxRecDepth 100000 in
theorem bX19_insert_0 (hst : zSt B ids) (F : zFx p m c cX19_insert 9 s args RX19 D cy B ids A) (hA : ∀ q : Nat, s.heap.size ≤ q → A q) {r : Int32} {z' : St} (E : zEnd p l e rmX19_insert s m args below meth c cX19_insert D cy B ids A Q none z' .return_ True) {N : Nat}  (x0 : Nat) (x1 : Int32) (x2 : Int32) (x3 : Int32) (x4 : Int32) (x5 : Int32) (x6 : Int32) (hx0 : (19, x0) ∈ ids) {z : St} {H : Heap} {locs : List Loc} {ls : Array Slot} (hr : zRep D cy B ids A s.heap z H locs) (hl : lv_has ls 9 [(0, .ref (B 19 x0)), (1, .int x1), (2, .int x2), (3, .int x3), (4, .int x4), (5, .int x5), (6, .int x6)]) (h : fX19_insert N x0 x1 x2 x3 x4 x5 x6 z = some (r, z')) : W p l e rmX19_insert s m args below meth c H locs 0 0 Q (F0 m 0 ls []) := by
  unfold fX19_insert at h
  refine lv_bipush (v := (76 : Int32)) F.1 F.2.1 dX19_insert_0 (by decide) ?_
  refine lv_iload_n F.1 F.2.1 dX19_insert_2 rfl (lv_at hl 1 rfl) ?_
  refine lv_imul F.1 F.2.1 dX19_insert_3 ?_
  refine lv_iconst (v := (4 : Int32)) F.1 F.2.1 dX19_insert_4 (by decide) ?_
  refine lv_iadd F.1 F.2.1 dX19_insert_5 ?_
  refine lv_iconst (v := (3 : Int32)) F.1 F.2.1 dX19_insert_6 (by decide) ?_
  refine lv_iload_n F.1 F.2.1 dX19_insert_7 rfl (lv_at hl 2 rfl) ?_
  refine lv_iload_n F.1 F.2.1 dX19_insert_8 rfl (lv_at hl 3 rfl) ?_
  refine lv_iadd F.1 F.2.1 dX19_insert_9 ?_
  refine lv_imul F.1 F.2.1 dX19_insert_10 ?_
  refine lv_iadd F.1 F.2.1 dX19_insert_11 ?_
  refine lv_topi (fun v1 ev1 => ?_)
  replace h := zl_sub ev1 h
  refine lv_istore (lv' := [(7, .int v1), (0, .ref (B 19 x0)), (1, .int x1), (2, .int x2), (3, .int x3), (4, .int x4), (5, .int x5), (6, .int x6)]) F.1 F.2.1 dX19_insert_12 hl (by decide) rfl (fun ls hl => ?_)
  refine lv_bipush (v := (76 : Int32)) F.1 F.2.1 dX19_insert_14 (by decide) ?_
  refine lv_iload_n F.1 F.2.1 dX19_insert_16 rfl (lv_at hl 2 rfl) ?_
  refine lv_imul F.1 F.2.1 dX19_insert_17 ?_
  refine lv_iconst (v := (4 : Int32)) F.1 F.2.1 dX19_insert_18 (by decide) ?_
  refine lv_iadd F.1 F.2.1 dX19_insert_19 ?_
  refine lv_iconst (v := (3 : Int32)) F.1 F.2.1 dX19_insert_20 (by decide) ?_
  refine lv_iload_n F.1 F.2.1 dX19_insert_21 rfl (lv_at hl 3 rfl) ?_
  refine lv_imul F.1 F.2.1 dX19_insert_22 ?_
  refine lv_iadd F.1 F.2.1 dX19_insert_23 ?_
  refine lv_topi (fun v2 ev2 => ?_)
  replace h := zl_sub ev2 h
  refine lv_istore (lv' := [(8, .int v2), (7, .int v1), (0, .ref (B 19 x0)), (1, .int x1), (2, .int x2), (3, .int x3), (4, .int x4), (5, .int x5), (6, .int x6)]) F.1 F.2.1 dX19_insert_24 hl (by decide) rfl (fun ls hl => ?_)
  exact lX19_insert_26 hst F hA E  _ x0 x4 x5 x6 v1 v2 hx0 hr (lv_sub hl [2, 6, 7, 8, 1, 0] rfl) h
end SX19_insert
set_option maxRecDepth 100000 in
theorem okX19_insert (l : Launch) (D : va_G) (cy : Nat → ClassId) (B : Nat → Nat → Nat) (ids : List (Nat × Nat)) (hst : zSt B ids) (N : Nat) (x0 : Nat) (hx0 : (19, x0) ∈ ids) (x1 : Int32) (x2 : Int32) (x3 : Int32) (x4 : Int32) (x5 : Int32) (x6 : Int32) {z : St} {r : Int32} {z' : St} (hW : zWf ids z) (h : fX19_insert N x0 x1 x2 x3 x4 x5 x6 z = some (r, z')) : zM l yX19_insert (zws yX19_insert cX19_insert 9 none) rmX19_insert D cy B ids [.ref (B 19 x0), .int x1, .int x2, .int x3, .int x4, .int x5, .int x6] none True z z' :=
  zM_of hst hW (by decide +kernel) (Nat.le_of_ble_eq_true rfl) (fun p e s m args below meth c A ls F hA hret hlocks hr hl => bX19_insert_0 hst F hA (zEnd_v F hret hlocks) x0 x1 x2 x3 x4 x5 x6 hx0 hr hl h)
