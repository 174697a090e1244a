abbrev rmX19_segment : Room := { frames := 10, cells := 0, slots := 0, locals := 258 }
theorem hdX19_segment : yX19_segment.cls ≠ "java/lang/invoke/MethodHandle" ∧ yX19_segment.cls ≠ "java/lang/invoke/VarHandle" ∧ (parseMethodDescriptor yX19_segment.desc).map (fun d => d.parameters.length) = some 3 := by decide +kernel
theorem hroX19_segment_X14_begin : rmX14_begin.frames + 1 ≤ rmX19_segment.frames ∧ 8 + (4 + 11) + rmX14_begin.locals ≤ rmX19_segment.locals := by decide
theorem hroX19_segment_X14_isDead : rmX14_isDead.frames + 1 ≤ rmX19_segment.frames ∧ 8 + (1 + 11) + rmX14_isDead.locals ≤ rmX19_segment.locals := by decide
theorem hroX19_segment_X19_arrives : rmX19_arrives.frames + 1 ≤ rmX19_segment.frames ∧ 8 + (3 + 11) + rmX19_arrives.locals ≤ rmX19_segment.locals := by decide
theorem hroX19_segment_X19_dropBook : rmX19_dropBook.frames + 1 ≤ rmX19_segment.frames ∧ 8 + (2 + 11) + rmX19_dropBook.locals ≤ rmX19_segment.locals := by decide
theorem hroX19_segment_X19_has : rmX19_has.frames + 1 ≤ rmX19_segment.frames ∧ 8 + (3 + 11) + rmX19_has.locals ≤ rmX19_segment.locals := by decide
theorem hroX19_segment_X19_knock : rmX19_knock.frames + 1 ≤ rmX19_segment.frames ∧ 8 + (10 + 11) + rmX19_knock.locals ≤ rmX19_segment.locals := by decide
theorem hroX19_segment_X19_newSegment : rmX19_newSegment.frames + 1 ≤ rmX19_segment.frames ∧ 8 + (5 + 11) + rmX19_newSegment.locals ≤ rmX19_segment.locals := by decide
theorem hroX19_segment_X19_say : rmX19_say.frames + 1 ≤ rmX19_segment.frames ∧ 8 + (7 + 11) + rmX19_say.locals ≤ rmX19_segment.locals := by decide
theorem hroX19_segment_X19_seg : rmX19_seg.frames + 1 ≤ rmX19_segment.frames ∧ 8 + (3 + 11) + rmX19_seg.locals ≤ rmX19_segment.locals := by decide
theorem hroX19_segment_X19_setSeg : rmX19_setSeg.frames + 1 ≤ rmX19_segment.frames ∧ 8 + (4 + 11) + rmX19_setSeg.locals ≤ rmX19_segment.locals := by decide
theorem hroX19_segment_X19_sizeOf : rmX19_sizeOf.frames + 1 ≤ rmX19_segment.frames ∧ 8 + (2 + 11) + rmX19_sizeOf.locals ≤ rmX19_segment.locals := by decide
section SX19_segment
variable {p : Program} {l : Launch} {e : Env} {s : State} {m : MethodId} {args : Array Value} {below : List Frame} {meth : Method} {c : Code} {Q : State → Prop} {D : va_G} {cy : Nat → ClassId} {B : Nat → Nat → Nat} {ids : List (Nat × Nat)} {A : Nat → Prop}
def fX19_segment_152 (N : Nat) (K19 : Nat → Nat → Int32 → Int32 → Int32 → Int32 → Int32 → St → Option (Int32 × St)) (x0 : Nat) (x1 : Nat) (x2 : Int32) (x3 : Int32) (x4 : Int32) (x5 : Int32) (x6 : Int32) (z : St) : Option (Int32 × St) := zl (x6 + 1) fun v1 => K19 x0 x1 x2 x3 x4 x5 v1 z
set_option maxHeartbeats 4000000 in
set_option maxRecDepth 100000 in
theorem bX19_segment_152 (hst : zSt B ids) (F : zFx p m c cX19_segment 8 s args RX19 D cy B ids A) (hA : ∀ q : Nat, s.heap.size ≤ q → A q) {r : Int32} {z' : St} (E : zEnd p l e rmX19_segment s m args below meth c cX19_segment D cy B ids A Q none z' .return_ True) {N : Nat} {K19 : Nat → Nat → Int32 → Int32 → Int32 → Int32 → Int32 → St → Option (Int32 × St)} (hK19 : ∀ (x0 : Nat) (x1 : Nat) (x2 : Int32) (x3 : Int32) (x4 : Int32) (x5 : Int32) (x6 : Int32) (hx0 : (19, x0) ∈ ids) (hx1 : (12, x1) ∈ ids) {z : St} {H : Heap} {locs : List Loc} {ls : Array Slot} (hr : zRep D cy B ids A s.heap z H locs) (hl : lv_has ls 8 [(0, .ref (B 19 x0)), (1, .ref (B 12 x1)), (2, .int x2), (3, .int x3), (4, .int x4), (5, .int x5), (6, .int x6)]), K19 x0 x1 x2 x3 x4 x5 x6 z = some (r, z') → W p l e rmX19_segment s m args below meth c H locs 0 0 Q (F0 m 19 ls [])) (x0 : Nat) (x1 : Nat) (x2 : Int32) (x3 : Int32) (x4 : Int32) (x5 : Int32) (x6 : Int32) (hx0 : (19, x0) ∈ ids) (hx1 : (12, x1) ∈ ids) {z : St} {H : Heap} {locs : List Loc} {ls : Array Slot} (hr : zRep D cy B ids A s.heap z H locs) (hl : lv_has ls 8 [(0, .ref (B 19 x0)), (1, .ref (B 12 x1)), (2, .int x2), (3, .int x3), (4, .int x4), (5, .int x5), (6, .int x6)]) (h : fX19_segment_152 N K19 x0 x1 x2 x3 x4 x5 x6 z = some (r, z')) : W p l e rmX19_segment s m args below meth c H locs 0 0 Q (F0 m 152 ls []) := by
  unfold fX19_segment_152 at h
  obtain ⟨v1, ev1⟩ : ∃ y : Int32, y = (x6 + 1) := ⟨_, rfl⟩
  replace h := zl_sub ev1 h
  refine lv_iinc (v := v1) (lv' := [(6, .int v1), (0, .ref (B 19 x0)), (1, .ref (B 12 x1)), (2, .int x2), (3, .int x3), (4, .int x4), (5, .int x5)]) F.1 F.2.1 dX19_segment_152 hl (k := 6) rfl (by rw [ev1]; rfl) (by decide) rfl (fun ls hl => ?_)
  refine lv_goto (tgt := 19) F.1 F.2.1 dX19_segment_155 (by decide) ?_
  exact hK19 x0 x1 x2 x3 x4 x5 v1 hx0 hx1 hr (lv_sub hl [1, 2, 3, 4, 5, 6, 0] rfl) h
def fX19_segment_238 (N : Nat) (K189 : Nat → Nat → Int32 → Int32 → Int32 → Int32 → Int32 → St → Option (Int32 × St)) (x0 : Nat) (x1 : Nat) (x2 : Int32) (x3 : Int32) (x4 : Int32) (x5 : Int32) (x6 : Int32) (z : St) : Option (Int32 × St) := zl (x6 + 1) fun v1 => K189 x0 x1 x2 x3 x4 x5 v1 z
set_option maxHeartbeats 4000000 in
set_option maxRecDepth 100000 in
theorem bX19_segment_238 (hst : zSt B ids) (F : zFx p m c cX19_segment 8 s args RX19 D cy B ids A) (hA : ∀ q : Nat, s.heap.size ≤ q → A q) {r : Int32} {z' : St} (E : zEnd p l e rmX19_segment s m args below meth c cX19_segment D cy B ids A Q none z' .return_ True) {N : Nat} {K189 : Nat → Nat → Int32 → Int32 → Int32 → Int32 → Int32 → St → Option (Int32 × St)} (hK189 : ∀ (x0 : Nat) (x1 : Nat) (x2 : Int32) (x3 : Int32) (x4 : Int32) (x5 : Int32) (x6 : Int32) (hx0 : (19, x0) ∈ ids) (hx1 : (12, x1) ∈ ids) {z : St} {H : Heap} {locs : List Loc} {ls : Array Slot} (hr : zRep D cy B ids A s.heap z H locs) (hl : lv_has ls 8 [(0, .ref (B 19 x0)), (1, .ref (B 12 x1)), (2, .int x2), (3, .int x3), (4, .int x4), (5, .int x5), (6, .int x6)]), K189 x0 x1 x2 x3 x4 x5 x6 z = some (r, z') → W p l e rmX19_segment s m args below meth c H locs 0 0 Q (F0 m 189 ls [])) (x0 : Nat) (x1 : Nat) (x2 : Int32) (x3 : Int32) (x4 : Int32) (x5 : Int32) (x6 : Int32) (hx0 : (19, x0) ∈ ids) (hx1 : (12, x1) ∈ ids) {z : St} {H : Heap} {locs : List Loc} {ls : Array Slot} (hr : zRep D cy B ids A s.heap z H locs) (hl : lv_has ls 8 [(0, .ref (B 19 x0)), (1, .ref (B 12 x1)), (2, .int x2), (3, .int x3), (4, .int x4), (5, .int x5), (6, .int x6)]) (h : fX19_segment_238 N K189 x0 x1 x2 x3 x4 x5 x6 z = some (r, z')) : W p l e rmX19_segment s m args below meth c H locs 0 0 Q (F0 m 238 ls []) := by
  unfold fX19_segment_238 at h
  obtain ⟨v1, ev1⟩ : ∃ y : Int32, y = (x6 + 1) := ⟨_, rfl⟩
  replace h := zl_sub ev1 h
  refine lv_iinc (v := v1) (lv' := [(6, .int v1), (0, .ref (B 19 x0)), (1, .ref (B 12 x1)), (2, .int x2), (3, .int x3), (4, .int x4), (5, .int x5)]) F.1 F.2.1 dX19_segment_238 hl (k := 6) rfl (by rw [ev1]; rfl) (by decide) rfl (fun ls hl => ?_)
  refine lv_goto (tgt := 189) F.1 F.2.1 dX19_segment_241 (by decide) ?_
  exact hK189 x0 x1 x2 x3 x4 x5 v1 hx0 hx1 hr (lv_sub hl [1, 2, 3, 4, 5, 6, 0] rfl) h
def fX19_segment_319 (N : Nat)  (x0 : Nat) (x1 : Nat) (x3 : Int32) (x4 : Int32) (x5 : Int32) (x7 : Int32) (s0 : Nat) (s1 : Int32) (s2 : Int32) (s3 : Int32) (z : St) : Option (Int32 × St) := zc (fX19_setSeg N s0 s1 s2 s3 z) fun _ z2 => zc (fX19_say N x0 x1 x7 x4 x3 x5 z2) fun _ z6 => some (0, z6)
set_option maxHeartbeats 4000000 in
set_option maxRecDepth 100000 in
theorem bX19_segment_319 (hst : zSt B ids) (F : zFx p m c cX19_segment 8 s args RX19 D cy B ids A) (hA : ∀ q : Nat, s.heap.size ≤ q → A q) {r : Int32} {z' : St} (E : zEnd p l e rmX19_segment s m args below meth c cX19_segment D cy B ids A Q none z' .return_ True) {N : Nat}  (x0 : Nat) (x1 : Nat) (x3 : Int32) (x4 : Int32) (x5 : Int32) (x7 : Int32) (s0 : Nat) (s1 : Int32) (s2 : Int32) (s3 : Int32) (hx0 : (19, x0) ∈ ids) (hx1 : (12, x1) ∈ ids) (hs0 : (19, s0) ∈ ids) {z : St} {H : Heap} {locs : List Loc} {ls : Array Slot} (hr : zRep D cy B ids A s.heap z H locs) (hl : lv_has ls 8 [(0, .ref (B 19 x0)), (1, .ref (B 12 x1)), (3, .int x3), (4, .int x4), (5, .int x5), (7, .int x7)]) (h : fX19_segment_319 N x0 x1 x3 x4 x5 x7 s0 s1 s2 s3 z = some (r, z')) : W p l e rmX19_segment s m args below meth c H locs 0 0 Q (F0 m 319 ls [.int s3, .int s2, .int s1, .ref (B 19 s0)]) := by
  unfold fX19_segment_319 at h
  replace h := zc_some h
  obtain ⟨r1, z2, hc3, h⟩ := h
  refine zr_callv (zrun_V (As := [.int s1, .int s2, .int s3]) (rest := []) zq_2757 zq_2759 zs_X19_setSeg zq_2760 zq_4 hdX19_setSeg (by decide) (T := TX19) (N := 32) rfl (okX19_setSeg l D cy B ids hst N s0 hs0 s1  s2  s3  hr.2.2 hc3) F hr hs0 hl.1 rfl (by decide) dX19_segment_319 rfl rfl hroX19_segment_X19_setSeg ⟨Nat.zero_le _, Nat.zero_le _⟩) F hA hr (fun H locs hw4 hr => ?_)
  clear hc3
  refine lv_aload_n F.1 F.2.1 dX19_segment_322 rfl (lv_at hl 0 rfl) ?_
  refine lv_aload_n F.1 F.2.1 dX19_segment_323 rfl (lv_at hl 1 rfl) ?_
  refine lv_iload F.1 F.2.1 dX19_segment_324 (lv_at hl 5 rfl) ?_
  refine lv_iload F.1 F.2.1 dX19_segment_326 (lv_at hl 3 rfl) ?_
  refine lv_iload_n F.1 F.2.1 dX19_segment_328 rfl (lv_at hl 2 rfl) ?_
  refine lv_iload F.1 F.2.1 dX19_segment_329 (lv_at hl 4 rfl) ?_
  replace h := zc_some h
  obtain ⟨r5, z6, hc7, h⟩ := h
  refine zr_callv (zrun_V (As := [.ref (B 12 x1), .int x7, .int x4, .int x3, .int x5]) (rest := []) zq_2761 zq_2763 zs_X19_say zq_2764 zq_4 hdX19_say (by decide) (T := TX19) (N := 32) rfl (okX19_say l D cy B ids hst N x0 hx0 x1 hx1 x7  x4  x3  x5  hr.2.2 hc7) F hr hx0 hl.1 rfl (by decide) dX19_segment_331 rfl rfl hroX19_segment_X19_say ⟨Nat.zero_le _, Nat.zero_le _⟩) F hA hr (fun H locs hw8 hr => ?_)
  clear hc7
  obtain ⟨rfl, rfl⟩ := zret h
  exact E _ _ _ _ dX19_segment_334 trivial hr
def fX19_segment_289 (N : Nat)  (x0 : Nat) (x1 : Nat) (x2 : Int32) (x3 : Int32) (x4 : Int32) (x5 : Int32) (x6 : Int32) (s0 : Nat) (s1 : Int32) (s2 : Int32) (z : St) : Option (Int32 × St) := zc (fX19_newSegment N s0 s1 s2 z) fun r1 z2 => if x6 = 0 then (zc (fX19_seg N x0 x2 (3 : Int32) z2) fun r6 z7 => zc (fX19_sizeOf N x0 x2 z7) fun r10 z11 => fX19_segment_319 N x0 x1 x3 x4 x5 r1 x0 r1 (4 : Int32) (r6 + r10) z11) else (fX19_segment_319 N x0 x1 x3 x4 x5 r1 x0 r1 (4 : Int32) (0 : Int32) z2)
set_option maxHeartbeats 4000000 in
set_option maxRecDepth 100000 in
theorem bX19_segment_289 (hst : zSt B ids) (F : zFx p m c cX19_segment 8 s args RX19 D cy B ids A) (hA : ∀ q : Nat, s.heap.size ≤ q → A q) {r : Int32} {z' : St} (E : zEnd p l e rmX19_segment s m args below meth c cX19_segment D cy B ids A Q none z' .return_ True) {N : Nat}  (x0 : Nat) (x1 : Nat) (x2 : Int32) (x3 : Int32) (x4 : Int32) (x5 : Int32) (x6 : Int32) (s0 : Nat) (s1 : Int32) (s2 : Int32) (hx0 : (19, x0) ∈ ids) (hx1 : (12, x1) ∈ ids) (hs0 : (19, s0) ∈ ids) {z : St} {H : Heap} {locs : List Loc} {ls : Array Slot} (hr : zRep D cy B ids A s.heap z H locs) (hl : lv_has ls 8 [(0, .ref (B 19 x0)), (1, .ref (B 12 x1)), (2, .int x2), (3, .int x3), (4, .int x4), (5, .int x5), (6, .int x6)]) (h : fX19_segment_289 N x0 x1 x2 x3 x4 x5 x6 s0 s1 s2 z = some (r, z')) : W p l e rmX19_segment s m args below meth c H locs 0 0 Q (F0 m 289 ls [.int s2, .int s1, .ref (B 19 s0)]) := by
  unfold fX19_segment_289 at h
  replace h := zc_some h
  obtain ⟨r1, z2, hc3, h⟩ := h
  refine zr_calli (zrun_V (As := [.int s1, .int s2]) (rest := []) zq_2753 zq_2755 zs_X19_newSegment zq_2756 zq_4 hdX19_newSegment (by decide) (T := TX19) (N := 32) rfl (okX19_newSegment l D cy B ids hst N s0 hs0 s1  s2  hr.2.2 hc3) F hr hs0 hl.1 rfl (by decide) dX19_segment_289 rfl rfl hroX19_segment_X19_newSegment ⟨Nat.zero_le _, Nat.zero_le _⟩) F hA hr (fun H locs hw4 hr => ?_)
  clear hc3
  refine lv_istore (lv' := [(7, .int r1), (0, .ref (B 19 x0)), (1, .ref (B 12 x1)), (2, .int x2), (3, .int x3), (4, .int x4), (5, .int x5), (6, .int x6)]) F.1 F.2.1 dX19_segment_292 hl (by decide) rfl (fun ls hl => ?_)
  refine lv_aload_n F.1 F.2.1 dX19_segment_294 rfl (lv_at hl 1 rfl) ?_
  refine lv_iload F.1 F.2.1 dX19_segment_295 (lv_at hl 0 rfl) ?_
  refine lv_iconst (v := (4 : Int32)) F.1 F.2.1 dX19_segment_297 (by decide) ?_
  refine lv_iload F.1 F.2.1 dX19_segment_298 (lv_at hl 7 rfl) ?_
  refine lv_if_eq (tgt := 307) F.1 F.2.1 dX19_segment_300 (by decide) (fun c5 => ?_) (fun c5 => ?_)
  · replace h := zi_t c5 h
    refine lv_aload_n F.1 F.2.1 dX19_segment_307 rfl (lv_at hl 1 rfl) ?_
    refine lv_iload_n F.1 F.2.1 dX19_segment_308 rfl (lv_at hl 3 rfl) ?_
    refine lv_iconst (v := (3 : Int32)) F.1 F.2.1 dX19_segment_309 (by decide) ?_
    replace h := zc_some h
    obtain ⟨r6, z7, hc8, h⟩ := h
    refine zr_calli (zrun_V (As := [.int x2, .int (3 : Int32)]) (rest := [.int (4 : Int32), .int r1, .ref (B 19 x0)]) zq_2557 zq_2559 zs_X19_seg zq_2560 zq_4 hdX19_seg (by decide) (T := TX19) (N := 32) rfl (okX19_seg l D cy B ids hst N x0 hx0 x2  (3 : Int32)  hr.2.2 hc8) F hr hx0 hl.1 rfl (Nat.le_of_ble_eq_true rfl) dX19_segment_310 rfl rfl hroX19_segment_X19_seg ⟨Nat.zero_le _, Nat.zero_le _⟩) F hA hr (fun H locs hw9 hr => ?_)
    clear hc8
    refine lv_aload_n F.1 F.2.1 dX19_segment_313 rfl (lv_at hl 1 rfl) ?_
    refine lv_iload_n F.1 F.2.1 dX19_segment_314 rfl (lv_at hl 3 rfl) ?_
    replace h := zc_some h
    obtain ⟨r10, z11, hc12, h⟩ := h
    refine zr_calli (zrun_V (As := [.int x2]) (rest := [.int r6, .int (4 : Int32), .int r1, .ref (B 19 x0)]) zq_2675 zq_2677 zs_X19_sizeOf zq_2678 zq_4 hdX19_sizeOf (by decide) (T := TX19) (N := 32) rfl (okX19_sizeOf l D cy B ids hst N x0 hx0 x2  hr.2.2 hc12) F hr hx0 hl.1 rfl (Nat.le_of_ble_eq_true rfl) dX19_segment_315 rfl rfl hroX19_segment_X19_sizeOf ⟨Nat.zero_le _, Nat.zero_le _⟩) F hA hr (fun H locs hw13 hr => ?_)
    clear hc12
    refine lv_iadd F.1 F.2.1 dX19_segment_318 ?_
    exact bX19_segment_319 hst F hA E  x0 x1 x3 x4 x5 r1 x0 r1 (4 : Int32) (r6 + r10) hx0 hx1 hx0 hr (lv_sub hl [1, 2, 4, 5, 6, 0] rfl) h
  · replace h := zi_f c5 h
    refine lv_iconst (v := (0 : Int32)) F.1 F.2.1 dX19_segment_303 (by decide) ?_
    refine lv_goto (tgt := 319) F.1 F.2.1 dX19_segment_304 (by decide) ?_
    exact bX19_segment_319 hst F hA E  x0 x1 x3 x4 x5 r1 x0 r1 (4 : Int32) (0 : Int32) hx0 hx1 hx0 hr (lv_sub hl [1, 2, 4, 5, 6, 0] rfl) h
def fX19_segment_274 (N : Nat)  (x0 : Nat) (x1 : Nat) (x2 : Int32) (x3 : Int32) (x4 : Int32) (x5 : Int32) (x6 : Int32) (s0 : Nat) (s1 : Int32) (z : St) : Option (Int32 × St) := if x6 = 0 then (fX19_segment_289 N x0 x1 x2 x3 x4 x5 x6 s0 s1 (0 : Int32) z) else (zc (fX19_seg N x0 x2 (4 : Int32) z) fun r2 z3 => fX19_segment_289 N x0 x1 x2 x3 x4 x5 x6 s0 s1 r2 z3)
set_option maxHeartbeats 4000000 in
set_option maxRecDepth 100000 in
theorem bX19_segment_274 (hst : zSt B ids) (F : zFx p m c cX19_segment 8 s args RX19 D cy B ids A) (hA : ∀ q : Nat, s.heap.size ≤ q → A q) {r : Int32} {z' : St} (E : zEnd p l e rmX19_segment s m args below meth c cX19_segment D cy B ids A Q none z' .return_ True) {N : Nat}  (x0 : Nat) (x1 : Nat) (x2 : Int32) (x3 : Int32) (x4 : Int32) (x5 : Int32) (x6 : Int32) (s0 : Nat) (s1 : Int32) (hx0 : (19, x0) ∈ ids) (hx1 : (12, x1) ∈ ids) (hs0 : (19, s0) ∈ ids) {z : St} {H : Heap} {locs : List Loc} {ls : Array Slot} (hr : zRep D cy B ids A s.heap z H locs) (hl : lv_has ls 8 [(0, .ref (B 19 x0)), (1, .ref (B 12 x1)), (2, .int x2), (3, .int x3), (4, .int x4), (5, .int x5), (6, .int x6)]) (h : fX19_segment_274 N x0 x1 x2 x3 x4 x5 x6 s0 s1 z = some (r, z')) : W p l e rmX19_segment s m args below meth c H locs 0 0 Q (F0 m 274 ls [.int s1, .ref (B 19 s0)]) := by
  unfold fX19_segment_274 at h
  refine lv_iload F.1 F.2.1 dX19_segment_274 (lv_at hl 6 rfl) ?_
  refine lv_if_eq (tgt := 288) F.1 F.2.1 dX19_segment_276 (by decide) (fun c1 => ?_) (fun c1 => ?_)
  · replace h := zi_t c1 h
    refine lv_iconst (v := (0 : Int32)) F.1 F.2.1 dX19_segment_288 (by decide) ?_
    exact bX19_segment_289 hst F hA E  x0 x1 x2 x3 x4 x5 x6 s0 s1 (0 : Int32) hx0 hx1 hs0 hr (lv_sub hl [0, 1, 2, 3, 4, 5, 6] rfl) h
  · replace h := zi_f c1 h
    refine lv_aload_n F.1 F.2.1 dX19_segment_279 rfl (lv_at hl 0 rfl) ?_
    refine lv_iload_n F.1 F.2.1 dX19_segment_280 rfl (lv_at hl 2 rfl) ?_
    refine lv_iconst (v := (4 : Int32)) F.1 F.2.1 dX19_segment_281 (by decide) ?_
    replace h := zc_some h
    obtain ⟨r2, z3, hc4, h⟩ := h
    refine zr_calli (zrun_V (As := [.int x2, .int (4 : Int32)]) (rest := [.int s1, .ref (B 19 s0)]) zq_2557 zq_2559 zs_X19_seg zq_2560 zq_4 hdX19_seg (by decide) (T := TX19) (N := 32) rfl (okX19_seg l D cy B ids hst N x0 hx0 x2  (4 : Int32)  hr.2.2 hc4) F hr hx0 hl.1 rfl (Nat.le_of_ble_eq_true rfl) dX19_segment_282 rfl rfl hroX19_segment_X19_seg ⟨Nat.zero_le _, Nat.zero_le _⟩) F hA hr (fun H locs hw5 hr => ?_)
    clear hc4
    refine lv_goto (tgt := 289) F.1 F.2.1 dX19_segment_285 (by decide) ?_
    exact bX19_segment_289 hst F hA E  x0 x1 x2 x3 x4 x5 x6 s0 s1 r2 hx0 hx1 hs0 hr (lv_sub hl [0, 1, 2, 3, 4, 5, 6] rfl) h
def fX19_segment_244 (N : Nat)  (x0 : Nat) (x1 : Nat) (x2 : Int32) (x3 : Int32) (x4 : Int32) (x5 : Int32) (z : St) : Option (Int32 × St) := zc (fX19_has N x0 x2 (4 : Int32) z) fun r1 z2 => if ¬ r1 = 0 then (some (0, z2)) else (zc (fX19_has N x0 x2 (8 : Int32) z2) fun r6 z7 => if r6 = 0 then (fX19_segment_274 N x0 x1 x2 x3 x4 x5 r6 x0 (12 : Int32) z7) else (fX19_segment_274 N x0 x1 x2 x3 x4 x5 r6 x0 (4 : Int32) z7))
set_option maxHeartbeats 4000000 in
set_option maxRecDepth 100000 in
theorem bX19_segment_244 (hst : zSt B ids) (F : zFx p m c cX19_segment 8 s args RX19 D cy B ids A) (hA : ∀ q : Nat, s.heap.size ≤ q → A q) {r : Int32} {z' : St} (E : zEnd p l e rmX19_segment s m args below meth c cX19_segment D cy B ids A Q none z' .return_ True) {N : Nat}  (x0 : Nat) (x1 : Nat) (x2 : Int32) (x3 : Int32) (x4 : Int32) (x5 : Int32) (hx0 : (19, x0) ∈ ids) (hx1 : (12, x1) ∈ ids) {z : St} {H : Heap} {locs : List Loc} {ls : Array Slot} (hr : zRep D cy B ids A s.heap z H locs) (hl : lv_has ls 8 [(0, .ref (B 19 x0)), (1, .ref (B 12 x1)), (2, .int x2), (3, .int x3), (4, .int x4), (5, .int x5)]) (h : fX19_segment_244 N x0 x1 x2 x3 x4 x5 z = some (r, z')) : W p l e rmX19_segment s m args below meth c H locs 0 0 Q (F0 m 244 ls []) := by
  unfold fX19_segment_244 at h
  refine lv_aload_n F.1 F.2.1 dX19_segment_244 rfl (lv_at hl 0 rfl) ?_
  refine lv_iload_n F.1 F.2.1 dX19_segment_245 rfl (lv_at hl 2 rfl) ?_
  refine lv_iconst (v := (4 : Int32)) F.1 F.2.1 dX19_segment_246 (by decide) ?_
  replace h := zc_some h
  obtain ⟨r1, z2, hc3, h⟩ := h
  refine zr_calli (zrun_V (As := [.int x2, .int (4 : Int32)]) (rest := []) zq_2663 zq_2665 zs_X19_has zq_2666 zq_4 hdX19_has (by decide) (T := TX19) (N := 32) rfl (okX19_has l D cy B ids hst N x0 hx0 x2  (4 : Int32)  hr.2.2 hc3) F hr hx0 hl.1 rfl (by decide) dX19_segment_247 rfl rfl hroX19_segment_X19_has ⟨Nat.zero_le _, Nat.zero_le _⟩) F hA hr (fun H locs hw4 hr => ?_)
  clear hc3
  refine lv_if_ne (tgt := 334) F.1 F.2.1 dX19_segment_250 (by decide) (fun c5 => ?_) (fun c5 => ?_)
  · replace h := zi_t c5 h
    obtain ⟨rfl, rfl⟩ := zret h
    exact E _ _ _ _ dX19_segment_334 trivial hr
  · replace h := zi_f (fun q => q c5) h
    refine lv_aload_n F.1 F.2.1 dX19_segment_253 rfl (lv_at hl 0 rfl) ?_
    refine lv_iload_n F.1 F.2.1 dX19_segment_254 rfl (lv_at hl 2 rfl) ?_
    refine lv_bipush (v := (8 : Int32)) F.1 F.2.1 dX19_segment_255 (by decide) ?_
    replace h := zc_some h
    obtain ⟨r6, z7, hc8, h⟩ := h
    refine zr_calli (zrun_V (As := [.int x2, .int (8 : Int32)]) (rest := []) zq_2663 zq_2665 zs_X19_has zq_2666 zq_4 hdX19_has (by decide) (T := TX19) (N := 32) rfl (okX19_has l D cy B ids hst N x0 hx0 x2  (8 : Int32)  hr.2.2 hc8) F hr hx0 hl.1 rfl (by decide) dX19_segment_257 rfl rfl hroX19_segment_X19_has ⟨Nat.zero_le _, Nat.zero_le _⟩) F hA hr (fun H locs hw9 hr => ?_)
    clear hc8
    refine lv_istore (lv' := [(6, .int r6), (0, .ref (B 19 x0)), (1, .ref (B 12 x1)), (2, .int x2), (3, .int x3), (4, .int x4), (5, .int x5)]) F.1 F.2.1 dX19_segment_260 hl (by decide) rfl (fun ls hl => ?_)
    refine lv_aload_n F.1 F.2.1 dX19_segment_262 rfl (lv_at hl 1 rfl) ?_
    refine lv_iload F.1 F.2.1 dX19_segment_263 (lv_at hl 0 rfl) ?_
    refine lv_if_eq (tgt := 272) F.1 F.2.1 dX19_segment_265 (by decide) (fun c10 => ?_) (fun c10 => ?_)
    · replace h := zi_t c10 h
      refine lv_bipush (v := (12 : Int32)) F.1 F.2.1 dX19_segment_272 (by decide) ?_
      exact bX19_segment_274 hst F hA E  x0 x1 x2 x3 x4 x5 r6 x0 (12 : Int32) hx0 hx1 hx0 hr (lv_sub hl [1, 2, 3, 4, 5, 6, 0] rfl) h
    · replace h := zi_f c10 h
      refine lv_iconst (v := (4 : Int32)) F.1 F.2.1 dX19_segment_268 (by decide) ?_
      refine lv_goto (tgt := 274) F.1 F.2.1 dX19_segment_269 (by decide) ?_
      exact bX19_segment_274 hst F hA E  x0 x1 x2 x3 x4 x5 r6 x0 (4 : Int32) hx0 hx1 hx0 hr (lv_sub hl [1, 2, 3, 4, 5, 6, 0] rfl) h
def fX19_segment_189b (N : Nat) (K189 : Nat → Nat → Int32 → Int32 → Int32 → Int32 → Int32 → St → Option (Int32 × St)) (x0 : Nat) (x1 : Nat) (x2 : Int32) (x3 : Int32) (x4 : Int32) (x5 : Int32) (x6 : Int32) (z : St) : Option (Int32 × St) := if (6 : Int32) ≤ x6 then (fX19_segment_244 N x0 x1 x2 x3 x4 x5 z) else (zk x6 6 <| zl (zgQ z 158 x1 (Int32.toNatClampNeg x6)) fun y3 => zd y3 fun a4 => if (zgI z 13 0 a4) = 0 then (fX19_segment_238 N K189 x0 x1 x2 x3 x4 x5 x6 z) else (zk x6 6 <| zl (zgQ z 158 x1 (Int32.toNatClampNeg x6)) fun y7 => zd y7 fun a8 => if ¬ (zgI z 13 1 a8) = x4 then (fX19_segment_238 N K189 x0 x1 x2 x3 x4 x5 x6 z) else (zc (fX19_knock N x0 x1 x6 x2 x4 x3 x5 z) fun _ z11 => some (0, z11))))
def fX19_segment_189 (N : Nat)  : Nat → Nat → Nat → Int32 → Int32 → Int32 → Int32 → Int32 → St → Option (Int32 × St)
  | 0 => fun _ _ _ _ _ _ _ _ => none
  | n + 1 => fX19_segment_189b N (fX19_segment_189 N  n)
set_option maxHeartbeats 4000000 in
set_option maxRecDepth 100000 in
theorem bX19_segment_189 (hst : zSt B ids) (F : zFx p m c cX19_segment 8 s args RX19 D cy B ids A) (hA : ∀ q : Nat, s.heap.size ≤ q → A q) {r : Int32} {z' : St} (E : zEnd p l e rmX19_segment s m args below meth c cX19_segment D cy B ids A Q none z' .return_ True) {N : Nat} {K189 : Nat → Nat → Int32 → Int32 → Int32 → Int32 → Int32 → St → Option (Int32 × St)} (hK189 : ∀ (x0 : Nat) (x1 : Nat) (x2 : Int32) (x3 : Int32) (x4 : Int32) (x5 : Int32) (x6 : Int32) (hx0 : (19, x0) ∈ ids) (hx1 : (12, x1) ∈ ids) {z : St} {H : Heap} {locs : List Loc} {ls : Array Slot} (hr : zRep D cy B ids A s.heap z H locs) (hl : lv_has ls 8 [(0, .ref (B 19 x0)), (1, .ref (B 12 x1)), (2, .int x2), (3, .int x3), (4, .int x4), (5, .int x5), (6, .int x6)]), K189 x0 x1 x2 x3 x4 x5 x6 z = some (r, z') → W p l e rmX19_segment s m args below meth c H locs 0 0 Q (F0 m 189 ls [])) (x0 : Nat) (x1 : Nat) (x2 : Int32) (x3 : Int32) (x4 : Int32) (x5 : Int32) (x6 : Int32) (hx0 : (19, x0) ∈ ids) (hx1 : (12, x1) ∈ ids) {z : St} {H : Heap} {locs : List Loc} {ls : Array Slot} (hr : zRep D cy B ids A s.heap z H locs) (hl : lv_has ls 8 [(0, .ref (B 19 x0)), (1, .ref (B 12 x1)), (2, .int x2), (3, .int x3), (4, .int x4), (5, .int x5), (6, .int x6)]) (h : fX19_segment_189b N K189 x0 x1 x2 x3 x4 x5 x6 z = some (r, z')) : W p l e rmX19_segment s m args below meth c H locs 0 0 Q (F0 m 189 ls []) := by
  unfold fX19_segment_189b at h
  refine lv_iload F.1 F.2.1 dX19_segment_189 (lv_at hl 6 rfl) ?_
  refine lv_bipush (v := (6 : Int32)) F.1 F.2.1 dX19_segment_191 (by decide) ?_
  refine lv_icmp_ge (tgt := 244) F.1 F.2.1 dX19_segment_193 (by decide) (fun c1 => ?_) (fun c1 => ?_)
  · replace h := zi_t c1 h
    exact bX19_segment_244 hst F hA E  x0 x1 x2 x3 x4 x5 hx0 hx1 hr (lv_sub hl [0, 1, 2, 3, 4, 5] rfl) h
  · replace h := zi_f c1 h
    refine lv_aload_n F.1 F.2.1 dX19_segment_196 rfl (lv_at hl 1 rfl) ?_
    refine gf19_340 F hx1 hr dX19_segment_197 ?_
    refine lv_iload F.1 F.2.1 dX19_segment_200 (lv_at hl 6 rfl) ?_
    replace h := zk_some h
    obtain ⟨c2, h⟩ := h
    refine zr_aaldv (k := 158) (by decide) rfl rfl (zlen_d (by decide)) F (zal_a F hx1 (j := 28) rfl) hr dX19_segment_202 c2 (fun y3 ey3 => ?_)
    replace h := zl_sub ey3 h
    have hy3 := zal_q hr (zal_a F hx1 (j := 28) rfl) rfl ey3
    clear ey3
    replace h := zd_some h
    obtain ⟨a4, rfl, h⟩ := h
    refine gf19_747 F (hy3 _ rfl) hr dX19_segment_203 ?_
    refine lv_if_eq (tgt := 238) F.1 F.2.1 dX19_segment_206 (by decide) (fun c5 => ?_) (fun c5 => ?_)
    · replace h := zi_t c5 h
      exact bX19_segment_238 hst F hA E hK189 x0 x1 x2 x3 x4 x5 x6 hx0 hx1 hr (lv_sub hl [0, 1, 2, 3, 4, 5, 6] rfl) h
    · replace h := zi_f c5 h
      refine lv_aload_n F.1 F.2.1 dX19_segment_209 rfl (lv_at hl 1 rfl) ?_
      refine gf19_340 F hx1 hr dX19_segment_210 ?_
      refine lv_iload F.1 F.2.1 dX19_segment_213 (lv_at hl 6 rfl) ?_
      replace h := zk_some h
      obtain ⟨c6, h⟩ := h
      refine zr_aaldv (k := 158) (by decide) rfl rfl (zlen_d (by decide)) F (zal_a F hx1 (j := 28) rfl) hr dX19_segment_215 c6 (fun y7 ey7 => ?_)
      replace h := zl_sub ey7 h
      have hy7 := zal_q hr (zal_a F hx1 (j := 28) rfl) rfl ey7
      clear ey7
      replace h := zd_some h
      obtain ⟨a8, rfl, h⟩ := h
      refine gf19_783 F (hy7 _ rfl) hr dX19_segment_216 ?_
      refine lv_iload F.1 F.2.1 dX19_segment_219 (lv_at hl 4 rfl) ?_
      refine lv_icmp_ne (tgt := 238) F.1 F.2.1 dX19_segment_221 (by decide) (fun c9 => ?_) (fun c9 => ?_)
      · replace h := zi_t c9 h
        exact bX19_segment_238 hst F hA E hK189 x0 x1 x2 x3 x4 x5 x6 hx0 hx1 hr (lv_sub hl [0, 1, 2, 3, 4, 5, 6] rfl) h
      · replace h := zi_f (fun q => q c9) h
        refine lv_aload_n F.1 F.2.1 dX19_segment_224 rfl (lv_at hl 0 rfl) ?_
        refine lv_aload_n F.1 F.2.1 dX19_segment_225 rfl (lv_at hl 1 rfl) ?_
        refine lv_iload F.1 F.2.1 dX19_segment_226 (lv_at hl 6 rfl) ?_
        refine lv_iload_n F.1 F.2.1 dX19_segment_228 rfl (lv_at hl 2 rfl) ?_
        refine lv_iload F.1 F.2.1 dX19_segment_229 (lv_at hl 4 rfl) ?_
        refine lv_iload_n F.1 F.2.1 dX19_segment_231 rfl (lv_at hl 3 rfl) ?_
        refine lv_iload F.1 F.2.1 dX19_segment_232 (lv_at hl 5 rfl) ?_
        replace h := zc_some h
        obtain ⟨r10, z11, hc12, h⟩ := h
        refine zr_callv (zrun_V (As := [.ref (B 12 x1), .int x6, .int x2, .int x4, .int x3, .int x5]) (rest := []) zq_2733 zq_2735 zs_X19_knock zq_2736 zq_4 hdX19_knock (by decide) (T := TX19) (N := 32) rfl (okX19_knock l D cy B ids hst N x0 hx0 x1 hx1 x6  x2  x4  x3  x5  hr.2.2 hc12) F hr hx0 hl.1 rfl (by decide) dX19_segment_234 rfl rfl hroX19_segment_X19_knock ⟨Nat.zero_le _, Nat.zero_le _⟩) F hA hr (fun H locs hw13 hr => ?_)
        clear hc12
        obtain ⟨rfl, rfl⟩ := zret h
        exact E _ _ _ _ dX19_segment_237 trivial hr
theorem lX19_segment_189 (hst : zSt B ids) (F : zFx p m c cX19_segment 8 s args RX19 D cy B ids A) (hA : ∀ q : Nat, s.heap.size ≤ q → A q) {r : Int32} {z' : St} (E : zEnd p l e rmX19_segment s m args below meth c cX19_segment D cy B ids A Q none z' .return_ True) {N : Nat}  : ∀ (n : Nat) (x0 : Nat) (x1 : Nat) (x2 : Int32) (x3 : Int32) (x4 : Int32) (x5 : Int32) (x6 : Int32) (hx0 : (19, x0) ∈ ids) (hx1 : (12, x1) ∈ ids) {z : St} {H : Heap} {locs : List Loc} {ls : Array Slot} (hr : zRep D cy B ids A s.heap z H locs) (hl : lv_has ls 8 [(0, .ref (B 19 x0)), (1, .ref (B 12 x1)), (2, .int x2), (3, .int x3), (4, .int x4), (5, .int x5), (6, .int x6)]), fX19_segment_189 N  n x0 x1 x2 x3 x4 x5 x6 z = some (r, z') → W p l e rmX19_segment s m args below meth c H locs 0 0 Q (F0 m 189 ls []) := by
  intro n
  induction n with
  | zero => intro x0 x1 x2 x3 x4 x5 x6 hx0 hx1 z H locs ls hr hl h; cases h
  | succ n ih => intro x0 x1 x2 x3 x4 x5 x6 hx0 hx1 z H locs ls hr hl h; exact bX19_segment_189 hst F hA E ih x0 x1 x2 x3 x4 x5 x6 hx0 hx1 hr hl h
def fX19_segment_19b (N : Nat) (K19 : Nat → Nat → Int32 → Int32 → Int32 → Int32 → Int32 → St → Option (Int32 × St)) (x0 : Nat) (x1 : Nat) (x2 : Int32) (x3 : Int32) (x4 : Int32) (x5 : Int32) (x6 : Int32) (z : St) : Option (Int32 × St) := if (6 : Int32) ≤ x6 then (zc (fX19_has N x0 x2 (1 : Int32) z) fun r2 z3 => if r2 = 0 then (fX19_segment_244 N x0 x1 x2 x3 x4 x5 z3) else (zc (fX19_has N x0 x2 (4 : Int32) z3) fun r7 z8 => if ¬ r7 = 0 then (fX19_segment_244 N x0 x1 x2 x3 x4 x5 z8) else (zc (fX19_has N x0 x2 (8 : Int32) z8) fun r12 z13 => if ¬ r12 = 0 then (fX19_segment_244 N x0 x1 x2 x3 x4 x5 z13) else (fX19_segment_189 N N x0 x1 x2 x3 x4 x5 (0 : Int32) z13)))) else (zk x6 6 <| zl (zgQ z 158 x1 (Int32.toNatClampNeg x6)) fun y18 => zd y18 fun a19 => zl (zgR z 13 4 a19) fun y20 => zk x6 6 <| zl (zgQ z 158 x1 (Int32.toNatClampNeg x6)) fun y22 => zd y22 fun a23 => if (zgI z 13 3 a23) = 0 then (fX19_segment_152 N K19 x0 x1 x2 x3 x4 x5 x6 z) else (zd y20 fun a25 => zc (fX14_isDead N a25 z) fun r26 z27 => if ¬ r26 = 0 then (fX19_segment_152 N K19 x0 x1 x2 x3 x4 x5 x6 z27) else (if ¬ (zgI z27 14 2 a25) = x4 then (fX19_segment_152 N K19 x0 x1 x2 x3 x4 x5 x6 z27) else (if ¬ (zgI z27 14 3 a25) = x3 then (fX19_segment_152 N K19 x0 x1 x2 x3 x4 x5 x6 z27) else (if ¬ (zgI z27 14 4 a25) = x5 then (fX19_segment_152 N K19 x0 x1 x2 x3 x4 x5 x6 z27) else (zc (fX19_arrives N x0 a25 x2 z27) fun r34 z35 => if r34 = 0 then (some (0, z35)) else (zc (fX14_begin N a25 (zgI z35 14 5 a25) (zgI z35 14 14 a25) z35) fun _ z40 => zk (zgI z40 14 44 a25) 2592 <| zl (zsA z40 182 x0 (Int32.toNatClampNeg (zgI z40 14 44 a25)) (0 : Int32)) fun z44 => zc (fX19_dropBook N x0 (zgI z44 14 45 a25) z44) fun _ z46 => zl (zsI z46 14 45 a25 (-1 : Int32)) fun z49 => zl (zsI z49 14 0 a25 (1 : Int32)) fun z50 => zl (zsI z50 14 1 a25 (1 : Int32)) fun z51 => some (0, z51))))))))
def fX19_segment_19 (N : Nat)  : Nat → Nat → Nat → Int32 → Int32 → Int32 → Int32 → Int32 → St → Option (Int32 × St)
  | 0 => fun _ _ _ _ _ _ _ _ => none
  | n + 1 => fX19_segment_19b N (fX19_segment_19 N  n)
set_option maxHeartbeats 4000000 in
set_option maxRecDepth 100000 in
theorem bX19_segment_19 (hst : zSt B ids) (F : zFx p m c cX19_segment 8 s args RX19 D cy B ids A) (hA : ∀ q : Nat, s.heap.size ≤ q → A q) {r : Int32} {z' : St} (E : zEnd p l e rmX19_segment s m args below meth c cX19_segment D cy B ids A Q none z' .return_ True) {N : Nat} {K19 : Nat → Nat → Int32 → Int32 → Int32 → Int32 → Int32 → St → Option (Int32 × St)} (hK19 : ∀ (x0 : Nat) (x1 : Nat) (x2 : Int32) (x3 : Int32) (x4 : Int32) (x5 : Int32) (x6 : Int32) (hx0 : (19, x0) ∈ ids) (hx1 : (12, x1) ∈ ids) {z : St} {H : Heap} {locs : List Loc} {ls : Array Slot} (hr : zRep D cy B ids A s.heap z H locs) (hl : lv_has ls 8 [(0, .ref (B 19 x0)), (1, .ref (B 12 x1)), (2, .int x2), (3, .int x3), (4, .int x4), (5, .int x5), (6, .int x6)]), K19 x0 x1 x2 x3 x4 x5 x6 z = some (r, z') → W p l e rmX19_segment s m args below meth c H locs 0 0 Q (F0 m 19 ls [])) (x0 : Nat) (x1 : Nat) (x2 : Int32) (x3 : Int32) (x4 : Int32) (x5 : Int32) (x6 : Int32) (hx0 : (19, x0) ∈ ids) (hx1 : (12, x1) ∈ ids) {z : St} {H : Heap} {locs : List Loc} {ls : Array Slot} (hr : zRep D cy B ids A s.heap z H locs) (hl : lv_has ls 8 [(0, .ref (B 19 x0)), (1, .ref (B 12 x1)), (2, .int x2), (3, .int x3), (4, .int x4), (5, .int x5), (6, .int x6)]) (h : fX19_segment_19b N K19 x0 x1 x2 x3 x4 x5 x6 z = some (r, z')) : W p l e rmX19_segment s m args below meth c H locs 0 0 Q (F0 m 19 ls []) := by
  unfold fX19_segment_19b at h
  refine lv_iload F.1 F.2.1 dX19_segment_19 (lv_at hl 6 rfl) ?_
  refine lv_bipush (v := (6 : Int32)) F.1 F.2.1 dX19_segment_21 (by decide) ?_
  refine lv_icmp_ge (tgt := 158) F.1 F.2.1 dX19_segment_23 (by decide) (fun c1 => ?_) (fun c1 => ?_)
  · replace h := zi_t c1 h
    refine lv_aload_n F.1 F.2.1 dX19_segment_158 rfl (lv_at hl 0 rfl) ?_
    refine lv_iload_n F.1 F.2.1 dX19_segment_159 rfl (lv_at hl 2 rfl) ?_
    refine lv_iconst (v := (1 : Int32)) F.1 F.2.1 dX19_segment_160 (by decide) ?_
    replace h := zc_some h
    obtain ⟨r2, z3, hc4, h⟩ := h
    refine zr_calli (zrun_V (As := [.int x2, .int (1 : Int32)]) (rest := []) zq_2663 zq_2665 zs_X19_has zq_2666 zq_4 hdX19_has (by decide) (T := TX19) (N := 32) rfl (okX19_has l D cy B ids hst N x0 hx0 x2  (1 : Int32)  hr.2.2 hc4) F hr hx0 hl.1 rfl (by decide) dX19_segment_161 rfl rfl hroX19_segment_X19_has ⟨Nat.zero_le _, Nat.zero_le _⟩) F hA hr (fun H locs hw5 hr => ?_)
    clear hc4
    refine lv_if_eq (tgt := 244) F.1 F.2.1 dX19_segment_164 (by decide) (fun c6 => ?_) (fun c6 => ?_)
    · replace h := zi_t c6 h
      exact bX19_segment_244 hst F hA E  x0 x1 x2 x3 x4 x5 hx0 hx1 hr (lv_sub hl [0, 1, 2, 3, 4, 5] rfl) h
    · replace h := zi_f c6 h
      refine lv_aload_n F.1 F.2.1 dX19_segment_167 rfl (lv_at hl 0 rfl) ?_
      refine lv_iload_n F.1 F.2.1 dX19_segment_168 rfl (lv_at hl 2 rfl) ?_
      refine lv_iconst (v := (4 : Int32)) F.1 F.2.1 dX19_segment_169 (by decide) ?_
      replace h := zc_some h
      obtain ⟨r7, z8, hc9, h⟩ := h
      refine zr_calli (zrun_V (As := [.int x2, .int (4 : Int32)]) (rest := []) zq_2663 zq_2665 zs_X19_has zq_2666 zq_4 hdX19_has (by decide) (T := TX19) (N := 32) rfl (okX19_has l D cy B ids hst N x0 hx0 x2  (4 : Int32)  hr.2.2 hc9) F hr hx0 hl.1 rfl (by decide) dX19_segment_170 rfl rfl hroX19_segment_X19_has ⟨Nat.zero_le _, Nat.zero_le _⟩) F hA hr (fun H locs hw10 hr => ?_)
      clear hc9
      refine lv_if_ne (tgt := 244) F.1 F.2.1 dX19_segment_173 (by decide) (fun c11 => ?_) (fun c11 => ?_)
      · replace h := zi_t c11 h
        exact bX19_segment_244 hst F hA E  x0 x1 x2 x3 x4 x5 hx0 hx1 hr (lv_sub hl [0, 1, 2, 3, 4, 5] rfl) h
      · replace h := zi_f (fun q => q c11) h
        refine lv_aload_n F.1 F.2.1 dX19_segment_176 rfl (lv_at hl 0 rfl) ?_
        refine lv_iload_n F.1 F.2.1 dX19_segment_177 rfl (lv_at hl 2 rfl) ?_
        refine lv_bipush (v := (8 : Int32)) F.1 F.2.1 dX19_segment_178 (by decide) ?_
        replace h := zc_some h
        obtain ⟨r12, z13, hc14, h⟩ := h
        refine zr_calli (zrun_V (As := [.int x2, .int (8 : Int32)]) (rest := []) zq_2663 zq_2665 zs_X19_has zq_2666 zq_4 hdX19_has (by decide) (T := TX19) (N := 32) rfl (okX19_has l D cy B ids hst N x0 hx0 x2  (8 : Int32)  hr.2.2 hc14) F hr hx0 hl.1 rfl (by decide) dX19_segment_180 rfl rfl hroX19_segment_X19_has ⟨Nat.zero_le _, Nat.zero_le _⟩) F hA hr (fun H locs hw15 hr => ?_)
        clear hc14
        refine lv_if_ne (tgt := 244) F.1 F.2.1 dX19_segment_183 (by decide) (fun c16 => ?_) (fun c16 => ?_)
        · replace h := zi_t c16 h
          exact bX19_segment_244 hst F hA E  x0 x1 x2 x3 x4 x5 hx0 hx1 hr (lv_sub hl [0, 1, 2, 3, 4, 5] rfl) h
        · replace h := zi_f (fun q => q c16) h
          refine lv_iconst (v := (0 : Int32)) F.1 F.2.1 dX19_segment_186 (by decide) ?_
          refine lv_istore (lv' := [(6, .int (0 : Int32)), (0, .ref (B 19 x0)), (1, .ref (B 12 x1)), (2, .int x2), (3, .int x3), (4, .int x4), (5, .int x5)]) F.1 F.2.1 dX19_segment_187 hl (by decide) rfl (fun ls hl => ?_)
          exact lX19_segment_189 hst F hA E  _ x0 x1 x2 x3 x4 x5 (0 : Int32) hx0 hx1 hr (lv_sub hl [1, 2, 3, 4, 5, 6, 0] rfl) h
  · replace h := zi_f c1 h
    refine lv_aload_n F.1 F.2.1 dX19_segment_26 rfl (lv_at hl 1 rfl) ?_
    refine gf19_340 F hx1 hr dX19_segment_27 ?_
    refine lv_iload F.1 F.2.1 dX19_segment_30 (lv_at hl 6 rfl) ?_
    replace h := zk_some h
    obtain ⟨c17, h⟩ := h
    refine zr_aaldv (k := 158) (by decide) rfl rfl (zlen_d (by decide)) F (zal_a F hx1 (j := 28) rfl) hr dX19_segment_32 c17 (fun y18 ey18 => ?_)
    replace h := zl_sub ey18 h
    have hy18 := zal_q hr (zal_a F hx1 (j := 28) rfl) rfl ey18
    clear ey18
    replace h := zd_some h
    obtain ⟨a19, rfl, h⟩ := h
    refine gf19_344 F (hy18 _ rfl) hr dX19_segment_33 (fun y20 ey20 => ?_)
    replace h := zl_sub ey20 h
    have hy20 := zal_g hr (hy18 _ rfl) (j := 4) rfl ey20
    clear ey20
    refine zr_astore (lv' := [(7, va_rf (Option.map (B 14) y20)), (0, .ref (B 19 x0)), (1, .ref (B 12 x1)), (2, .int x2), (3, .int x3), (4, .int x4), (5, .int x5), (6, .int x6)]) F.1 F.2.1 dX19_segment_36 hl (by decide) rfl (fun ls hl => ?_)
    refine lv_aload_n F.1 F.2.1 dX19_segment_38 rfl (lv_at hl 2 rfl) ?_
    refine gf19_340 F hx1 hr dX19_segment_39 ?_
    refine lv_iload F.1 F.2.1 dX19_segment_42 (lv_at hl 7 rfl) ?_
    replace h := zk_some h
    obtain ⟨c21, h⟩ := h
    refine zr_aaldv (k := 158) (by decide) rfl rfl (zlen_d (by decide)) F (zal_a F hx1 (j := 28) rfl) hr dX19_segment_44 c21 (fun y22 ey22 => ?_)
    replace h := zl_sub ey22 h
    have hy22 := zal_q hr (zal_a F hx1 (j := 28) rfl) rfl ey22
    clear ey22
    replace h := zd_some h
    obtain ⟨a23, rfl, h⟩ := h
    refine gf19_350 F (hy22 _ rfl) hr dX19_segment_45 ?_
    refine lv_if_eq (tgt := 152) F.1 F.2.1 dX19_segment_48 (by decide) (fun c24 => ?_) (fun c24 => ?_)
    · replace h := zi_t c24 h
      exact bX19_segment_152 hst F hA E hK19 x0 x1 x2 x3 x4 x5 x6 hx0 hx1 hr (lv_sub hl [1, 2, 3, 4, 5, 6, 7] rfl) h
    · replace h := zi_f c24 h
      refine zr_aload F.1 F.2.1 dX19_segment_51 (lv_at hl 0 rfl) ?_
      replace h := zd_some h
      obtain ⟨a25, rfl, h⟩ := h
      replace h := zc_some h
      obtain ⟨r26, z27, hc28, h⟩ := h
      refine zr_calli (zrun_VN (As := []) (rest := []) zn_2651 zq_2653 zs_X14_isDead zq_2654 zq_21 hdX14_isDead (by decide) (T := TX14) (N := 47) rfl (okX14_isDead l D cy B ids hst N a25 (hy20 _ rfl) hr.2.2 hc28) F hr (hy20 _ rfl) hl.1 rfl (by decide) dX19_segment_53 rfl rfl hroX19_segment_X14_isDead ⟨Nat.zero_le _, Nat.zero_le _⟩) F hA hr (fun H locs hw29 hr => ?_)
      clear hc28
      refine lv_if_ne (tgt := 152) F.1 F.2.1 dX19_segment_56 (by decide) (fun c30 => ?_) (fun c30 => ?_)
      · replace h := zi_t c30 h
        exact bX19_segment_152 hst F hA E hK19 x0 x1 x2 x3 x4 x5 x6 hx0 hx1 hr (lv_sub hl [1, 2, 3, 4, 5, 6, 7] rfl) h
      · replace h := zi_f (fun q => q c30) h
        refine lv_aload F.1 F.2.1 dX19_segment_59 (lv_at hl 0 rfl) ?_
        refine gf19_358 F (hy20 _ rfl) hr dX19_segment_61 ?_
        refine lv_iload F.1 F.2.1 dX19_segment_64 (lv_at hl 5 rfl) ?_
        refine lv_icmp_ne (tgt := 152) F.1 F.2.1 dX19_segment_66 (by decide) (fun c31 => ?_) (fun c31 => ?_)
        · replace h := zi_t c31 h
          exact bX19_segment_152 hst F hA E hK19 x0 x1 x2 x3 x4 x5 x6 hx0 hx1 hr (lv_sub hl [1, 2, 3, 4, 5, 6, 7] rfl) h
        · replace h := zi_f (fun q => q c31) h
          refine lv_aload F.1 F.2.1 dX19_segment_69 (lv_at hl 0 rfl) ?_
          refine gf19_361 F (hy20 _ rfl) hr dX19_segment_71 ?_
          refine lv_iload_n F.1 F.2.1 dX19_segment_74 rfl (lv_at hl 4 rfl) ?_
          refine lv_icmp_ne (tgt := 152) F.1 F.2.1 dX19_segment_75 (by decide) (fun c32 => ?_) (fun c32 => ?_)
          · replace h := zi_t c32 h
            exact bX19_segment_152 hst F hA E hK19 x0 x1 x2 x3 x4 x5 x6 hx0 hx1 hr (lv_sub hl [1, 2, 3, 4, 5, 6, 7] rfl) h
          · replace h := zi_f (fun q => q c32) h
            refine lv_aload F.1 F.2.1 dX19_segment_78 (lv_at hl 0 rfl) ?_
            refine gf19_364 F (hy20 _ rfl) hr dX19_segment_80 ?_
            refine lv_iload F.1 F.2.1 dX19_segment_83 (lv_at hl 6 rfl) ?_
            refine lv_icmp_ne (tgt := 152) F.1 F.2.1 dX19_segment_85 (by decide) (fun c33 => ?_) (fun c33 => ?_)
            · replace h := zi_t c33 h
              exact bX19_segment_152 hst F hA E hK19 x0 x1 x2 x3 x4 x5 x6 hx0 hx1 hr (lv_sub hl [1, 2, 3, 4, 5, 6, 7] rfl) h
            · replace h := zi_f (fun q => q c33) h
              refine lv_aload_n F.1 F.2.1 dX19_segment_88 rfl (lv_at hl 1 rfl) ?_
              refine lv_aload F.1 F.2.1 dX19_segment_89 (lv_at hl 0 rfl) ?_
              refine lv_iload_n F.1 F.2.1 dX19_segment_91 rfl (lv_at hl 3 rfl) ?_
              replace h := zc_some h
              obtain ⟨r34, z35, hc36, h⟩ := h
              refine zr_calli (zrun_V (As := [.ref (B 14 a25), .int x2]) (rest := []) zq_2655 zq_2657 zs_X19_arrives zq_2658 zq_4 hdX19_arrives (by decide) (T := TX19) (N := 32) rfl (okX19_arrives l D cy B ids hst N x0 hx0 a25 (hy20 _ rfl) x2  hr.2.2 hc36) F hr hx0 hl.1 rfl (by decide) dX19_segment_92 rfl rfl hroX19_segment_X19_arrives ⟨Nat.zero_le _, Nat.zero_le _⟩) F hA hr (fun H locs hw37 hr => ?_)
              clear hc36
              refine lv_if_eq (tgt := 151) F.1 F.2.1 dX19_segment_95 (by decide) (fun c38 => ?_) (fun c38 => ?_)
              · replace h := zi_t c38 h
                obtain ⟨rfl, rfl⟩ := zret h
                exact E _ _ _ _ dX19_segment_151 trivial hr
              · replace h := zi_f c38 h
                refine lv_aload F.1 F.2.1 dX19_segment_98 (lv_at hl 0 rfl) ?_
                refine lv_aload F.1 F.2.1 dX19_segment_100 (lv_at hl 0 rfl) ?_
                refine gf19_588 F (hy20 _ rfl) hr dX19_segment_102 ?_
                refine lv_aload F.1 F.2.1 dX19_segment_105 (lv_at hl 0 rfl) ?_
                refine gf19_576 F (hy20 _ rfl) hr dX19_segment_107 ?_
                replace h := zc_some h
                obtain ⟨r39, z40, hc41, h⟩ := h
                refine zr_callv (zrun_VN (As := [.int (zgI z35 14 5 a25), .int (zgI z35 14 14 a25)]) (rest := []) zn_2729 zq_2731 zs_X14_begin zq_2732 zq_21 hdX14_begin (by decide) (T := TX14) (N := 47) rfl (okX14_begin l D cy B ids hst N a25 (hy20 _ rfl) (zgI z35 14 5 a25)  (zgI z35 14 14 a25)  hr.2.2 hc41) F hr (hy20 _ rfl) hl.1 rfl (by decide) dX19_segment_110 rfl rfl hroX19_segment_X14_begin ⟨Nat.zero_le _, Nat.zero_le _⟩) F hA hr (fun H locs hw42 hr => ?_)
                clear hc41
                refine lv_aload_n F.1 F.2.1 dX19_segment_113 rfl (lv_at hl 1 rfl) ?_
                refine gf19_90 F hx0 hr dX19_segment_114 ?_
                refine lv_aload F.1 F.2.1 dX19_segment_117 (lv_at hl 0 rfl) ?_
                refine gf19_732 F (hy20 _ rfl) hr dX19_segment_119 ?_
                refine lv_iconst (v := (0 : Int32)) F.1 F.2.1 dX19_segment_122 (by decide) ?_
                replace h := zk_some h
                obtain ⟨c43, h⟩ := h
                refine zr_iast (k := 182) (by decide) rfl (by decide) F (zal_a F hx0 (j := 13) rfl) hr dX19_segment_123 c43 (fun H locs z44 ez44 hr => ?_)
                replace h := zl_sub ez44 h
                clear ez44
                refine lv_aload_n F.1 F.2.1 dX19_segment_124 rfl (lv_at hl 1 rfl) ?_
                refine lv_aload F.1 F.2.1 dX19_segment_125 (lv_at hl 0 rfl) ?_
                refine gf19_594 F (hy20 _ rfl) hr dX19_segment_127 ?_
                replace h := zc_some h
                obtain ⟨r45, z46, hc47, h⟩ := h
                refine zr_callv (zrun_V (As := [.int (zgI z44 14 45 a25)]) (rest := []) zq_2561 zq_2563 zs_X19_dropBook zq_2564 zq_4 hdX19_dropBook (by decide) (T := TX19) (N := 32) rfl (okX19_dropBook l D cy B ids hst N x0 hx0 (zgI z44 14 45 a25)  hr.2.2 hc47) F hr hx0 hl.1 rfl (by decide) dX19_segment_130 rfl rfl hroX19_segment_X19_dropBook ⟨Nat.zero_le _, Nat.zero_le _⟩) F hA hr (fun H locs hw48 hr => ?_)
                clear hc47
                refine lv_aload F.1 F.2.1 dX19_segment_133 (lv_at hl 0 rfl) ?_
                refine lv_iconst (v := (-1 : Int32)) F.1 F.2.1 dX19_segment_135 (by decide) ?_
                refine pf19_594 F (hy20 _ rfl) hr dX19_segment_136 (-1 : Int32) (fun H locs z49 ez49 hr => ?_)
                replace h := zl_sub ez49 h
                clear ez49
                refine lv_aload F.1 F.2.1 dX19_segment_139 (lv_at hl 0 rfl) ?_
                refine lv_iconst (v := (1 : Int32)) F.1 F.2.1 dX19_segment_141 (by decide) ?_
                refine pf19_353 F (hy20 _ rfl) hr dX19_segment_142 (1 : Int32) (fun H locs z50 ez50 hr => ?_)
                replace h := zl_sub ez50 h
                clear ez50
                refine lv_aload F.1 F.2.1 dX19_segment_145 (lv_at hl 0 rfl) ?_
                refine lv_iconst (v := (1 : Int32)) F.1 F.2.1 dX19_segment_147 (by decide) ?_
                refine pf19_631 F (hy20 _ rfl) hr dX19_segment_148 (1 : Int32) (by decide) (fun H locs z51 ez51 hr => ?_)
                replace h := zl_sub ez51 h
                clear ez51
                obtain ⟨rfl, rfl⟩ := zret h
                exact E _ _ _ _ dX19_segment_151 trivial hr
theorem lX19_segment_19 (hst : zSt B ids) (F : zFx p m c cX19_segment 8 s args RX19 D cy B ids A) (hA : ∀ q : Nat, s.heap.size ≤ q → A q) {r : Int32} {z' : St} (E : zEnd p l e rmX19_segment s m args below meth c cX19_segment D cy B ids A Q none z' .return_ True) {N : Nat}  : ∀ (n : Nat) (x0 : Nat) (x1 : Nat) (x2 : Int32) (x3 : Int32) (x4 : Int32) (x5 : Int32) (x6 : Int32) (hx0 : (19, x0) ∈ ids) (hx1 : (12, x1) ∈ ids) {z : St} {H : Heap} {locs : List Loc} {ls : Array Slot} (hr : zRep D cy B ids A s.heap z H locs) (hl : lv_has ls 8 [(0, .ref (B 19 x0)), (1, .ref (B 12 x1)), (2, .int x2), (3, .int x3), (4, .int x4), (5, .int x5), (6, .int x6)]), fX19_segment_19 N  n x0 x1 x2 x3 x4 x5 x6 z = some (r, z') → W p l e rmX19_segment s m args below meth c H locs 0 0 Q (F0 m 19 ls []) := by
  intro n
  induction n with
  | zero => intro x0 x1 x2 x3 x4 x5 x6 hx0 hx1 z H locs ls hr hl h; cases h
  | succ n ih => intro x0 x1 x2 x3 x4 x5 x6 hx0 hx1 z H locs ls hr hl h; exact bX19_segment_19 hst F hA E ih x0 x1 x2 x3 x4 x5 x6 hx0 hx1 hr hl h
def fX19_segment (N : Nat)  (x0 : Nat) (x1 : Nat) (x2 : Int32) (x3 : Int32) (z : St) : Option (Int32 × St) := zc (fX19_seg N x0 x2 (1 : Int32) z) fun r1 z2 => zc (fX19_seg N x0 x2 (0 : Int32) z2) fun r5 z6 => fX19_segment_19 N N x0 x1 x2 x3 r1 r5 (0 : Int32) z6
set_option maxHeartbeats 4000000 in
set_option maxRecDepth 100000 in
theorem bX19_segment_0 (hst : zSt B ids) (F : zFx p m c cX19_segment 8 s args RX19 D cy B ids A) (hA : ∀ q : Nat, s.heap.size ≤ q → A q) {r : Int32} {z' : St} (E : zEnd p l e rmX19_segment s m args below meth c cX19_segment D cy B ids A Q none z' .return_ True) {N : Nat}  (x0 : Nat) (x1 : Nat) (x2 : Int32) (x3 : Int32) (hx0 : (19, x0) ∈ ids) (hx1 : (12, x1) ∈ ids) {z : St} {H : Heap} {locs : List Loc} {ls : Array Slot} (hr : zRep D cy B ids A s.heap z H locs) (hl : lv_has ls 8 [(0, .ref (B 19 x0)), (1, .ref (B 12 x1)), (2, .int x2), (3, .int x3)]) (h : fX19_segment N x0 x1 x2 x3 z = some (r, z')) : W p l e rmX19_segment s m args below meth c H locs 0 0 Q (F0 m 0 ls []) := by
  unfold fX19_segment at h
  refine lv_aload_n F.1 F.2.1 dX19_segment_0 rfl (lv_at hl 0 rfl) ?_
  refine lv_iload_n F.1 F.2.1 dX19_segment_1 rfl (lv_at hl 2 rfl) ?_
  refine lv_iconst (v := (1 : Int32)) F.1 F.2.1 dX19_segment_2 (by decide) ?_
  replace h := zc_some h
  obtain ⟨r1, z2, hc3, h⟩ := h
  refine zr_calli (zrun_V (As := [.int x2, .int (1 : Int32)]) (rest := []) zq_2557 zq_2559 zs_X19_seg zq_2560 zq_4 hdX19_seg (by decide) (T := TX19) (N := 32) rfl (okX19_seg l D cy B ids hst N x0 hx0 x2  (1 : Int32)  hr.2.2 hc3) F hr hx0 hl.1 rfl (by decide) dX19_segment_3 rfl rfl hroX19_segment_X19_seg ⟨Nat.zero_le _, Nat.zero_le _⟩) F hA hr (fun H locs hw4 hr => ?_)
  clear hc3
  refine lv_istore (lv' := [(4, .int r1), (0, .ref (B 19 x0)), (1, .ref (B 12 x1)), (2, .int x2), (3, .int x3)]) F.1 F.2.1 dX19_segment_6 hl (by decide) rfl (fun ls hl => ?_)
  refine lv_aload_n F.1 F.2.1 dX19_segment_8 rfl (lv_at hl 1 rfl) ?_
  refine lv_iload_n F.1 F.2.1 dX19_segment_9 rfl (lv_at hl 3 rfl) ?_
  refine lv_iconst (v := (0 : Int32)) F.1 F.2.1 dX19_segment_10 (by decide) ?_
  replace h := zc_some h
  obtain ⟨r5, z6, hc7, h⟩ := h
  refine zr_calli (zrun_V (As := [.int x2, .int (0 : Int32)]) (rest := []) zq_2557 zq_2559 zs_X19_seg zq_2560 zq_4 hdX19_seg (by decide) (T := TX19) (N := 32) rfl (okX19_seg l D cy B ids hst N x0 hx0 x2  (0 : Int32)  hr.2.2 hc7) F hr hx0 hl.1 rfl (by decide) dX19_segment_11 rfl rfl hroX19_segment_X19_seg ⟨Nat.zero_le _, Nat.zero_le _⟩) F hA hr (fun H locs hw8 hr => ?_)
  clear hc7
  refine lv_istore (lv' := [(5, .int r5), (4, .int r1), (0, .ref (B 19 x0)), (1, .ref (B 12 x1)), (2, .int x2), (3, .int x3)]) F.1 F.2.1 dX19_segment_14 hl (by decide) rfl (fun ls hl => ?_)
  refine lv_iconst (v := (0 : Int32)) F.1 F.2.1 dX19_segment_16 (by decide) ?_
  refine lv_istore (lv' := [(6, .int (0 : Int32)), (5, .int r5), (4, .int r1), (0, .ref (B 19 x0)), (1, .ref (B 12 x1)), (2, .int x2), (3, .int x3)]) F.1 F.2.1 dX19_segment_17 hl (by decide) rfl (fun ls hl => ?_)
  exact lX19_segment_19 hst F hA E  _ x0 x1 x2 x3 r1 r5 (0 : Int32) hx0 hx1 hr (lv_sub hl [3, 4, 5, 6, 2, 1, 0] rfl) h
end SX19_segment
set_option maxRecDepth 100000 in
theorem okX19_segment (l : Launch) (D : va_G) (cy : Nat → ClassId) (B : Nat → Nat → Nat) (ids : List (Nat × Nat)) (hst : zSt B ids) (N : Nat) (x0 : Nat) (hx0 : (19, x0) ∈ ids) (x1 : Nat) (hx1 : (12, x1) ∈ ids) (x2 : Int32) (x3 : Int32) {z : St} {r : Int32} {z' : St} (hW : zWf ids z) (h : fX19_segment N x0 x1 x2 x3 z = some (r, z')) : zM l yX19_segment (zws yX19_segment cX19_segment 8 none) rmX19_segment D cy B ids [.ref (B 19 x0), .ref (B 12 x1), .int x2, .int x3] none True z z' :=
  zM_of hst hW (by decide +kernel) (Nat.le_of_ble_eq_true rfl) (fun p e s m args below meth c A ls F hA hret hlocks hr hl => bX19_segment_0 hst F hA (zEnd_v F hret hlocks) x0 x1 x2 x3 hx0 hx1 hr hl h)
abbrev rmX19_handle : Room := { frames := 11, cells := 0, slots := 0, locals := 285 }
theorem hdX19_handle : yX19_handle.cls ≠ "java/lang/invoke/MethodHandle" ∧ yX19_handle.cls ≠ "java/lang/invoke/VarHandle" ∧ (parseMethodDescriptor yX19_handle.desc).map (fun d => d.parameters.length) = some 2 := by decide +kernel
theorem hroX19_handle_X19_act : rmX19_act.frames + 1 ≤ rmX19_handle.frames ∧ 8 + (8 + 11) + rmX19_act.locals ≤ rmX19_handle.locals := by decide
theorem hroX19_handle_X19_ad : rmX19_ad.frames + 1 ≤ rmX19_handle.frames ∧ 8 + (3 + 11) + rmX19_ad.locals ≤ rmX19_handle.locals := by decide
theorem hroX19_handle_X19_advertCame : rmX19_advertCame.frames + 1 ≤ rmX19_handle.frames ∧ 8 + (8 + 11) + rmX19_advertCame.locals ≤ rmX19_handle.locals := by decide
theorem hroX19_handle_X19_friend : rmX19_friend.frames + 1 ≤ rmX19_handle.frames ∧ 8 + (4 + 11) + rmX19_friend.locals ≤ rmX19_handle.locals := by decide
theorem hroX19_handle_X19_greeted : rmX19_greeted.frames + 1 ≤ rmX19_handle.frames ∧ 8 + (8 + 11) + rmX19_greeted.locals ≤ rmX19_handle.locals := by decide
theorem hroX19_handle_X19_of : rmX19_of.frames + 1 ≤ rmX19_handle.frames ∧ 8 + (3 + 11) + rmX19_of.locals ≤ rmX19_handle.locals := by decide
theorem hroX19_handle_X19_segment : rmX19_segment.frames + 1 ≤ rmX19_handle.frames ∧ 8 + (8 + 11) + rmX19_segment.locals ≤ rmX19_handle.locals := by decide
section SX19_handle
variable {p : Program} {l : Launch} {e : Env} {s : State} {m : MethodId} {args : Array Value} {below : List Frame} {meth : Method} {c : Code} {Q : State → Prop} {D : va_G} {cy : Nat → ClassId} {B : Nat → Nat → Nat} {ids : List (Nat × Nat)} {A : Nat → Prop}
def fX19_handle_226 (N : Nat)  (x0 : Nat) (x2 : Int32) (x4 : Option Nat) (x5 : Int32) (s0 : Int32) (z : St) : Option (Int32 × St) := if s0 = (-1 : Int32) then (some (0, z)) else (zc (fX19_ad N x0 s0 (1 : Int32) z) fun r2 z3 => zc (fX19_of N x0 x2 (13 : Int32) z3) fun r6 z7 => if ¬ r2 = (r6 &&& (16777215 : Int32)) then (some (0, z7)) else (zd x4 fun a11 => zk x5 16 <| zl (zsA z7 162 a11 (Int32.toNatClampNeg x5) (vp_nar .boolean (0 : Int32))) fun z13 => some (0, z13)))
set_option maxHeartbeats 4000000 in
set_option maxRecDepth 100000 in
theorem bX19_handle_226 (hst : zSt B ids) (F : zFx p m c cX19_handle 7 s args RX19 D cy B ids A) (hA : ∀ q : Nat, s.heap.size ≤ q → A q) {r : Int32} {z' : St} (E : zEnd p l e rmX19_handle s m args below meth c cX19_handle D cy B ids A Q none z' .return_ True) {N : Nat}  (x0 : Nat) (x2 : Int32) (x4 : Option Nat) (x5 : Int32) (s0 : Int32) (hx0 : (19, x0) ∈ ids) (hx4 : ∀ t, x4 = some t → (15, t) ∈ ids) {z : St} {H : Heap} {locs : List Loc} {ls : Array Slot} (hr : zRep D cy B ids A s.heap z H locs) (hl : lv_has ls 7 [(0, .ref (B 19 x0)), (2, .int x2), (4, va_rf (Option.map (B 15) x4)), (5, .int x5)]) (h : fX19_handle_226 N x0 x2 x4 x5 s0 z = some (r, z')) : W p l e rmX19_handle s m args below meth c H locs 0 0 Q (F0 m 226 ls [.int s0]) := by
  unfold fX19_handle_226 at h
  refine lv_istore (lv' := [(6, .int s0), (0, .ref (B 19 x0)), (2, .int x2), (4, va_rf (Option.map (B 15) x4)), (5, .int x5)]) F.1 F.2.1 dX19_handle_226 hl (by decide) rfl (fun ls hl => ?_)
  refine lv_iload F.1 F.2.1 dX19_handle_228 (lv_at hl 0 rfl) ?_
  refine lv_iconst (v := (-1 : Int32)) F.1 F.2.1 dX19_handle_230 (by decide) ?_
  refine lv_icmp_eq (tgt := 264) F.1 F.2.1 dX19_handle_231 (by decide) (fun c1 => ?_) (fun c1 => ?_)
  · replace h := zi_t c1 h
    obtain ⟨rfl, rfl⟩ := zret h
    exact E _ _ _ _ dX19_handle_264 trivial hr
  · replace h := zi_f c1 h
    refine lv_aload_n F.1 F.2.1 dX19_handle_234 rfl (lv_at hl 1 rfl) ?_
    refine lv_iload F.1 F.2.1 dX19_handle_235 (lv_at hl 0 rfl) ?_
    refine lv_iconst (v := (1 : Int32)) F.1 F.2.1 dX19_handle_237 (by decide) ?_
    replace h := zc_some h
    obtain ⟨r2, z3, hc4, h⟩ := h
    refine zr_calli (zrun_V (As := [.int s0, .int (1 : Int32)]) (rest := []) zq_2828 zq_2830 zs_X19_ad zq_2831 zq_4 hdX19_ad (by decide) (T := TX19) (N := 32) rfl (okX19_ad l D cy B ids hst N x0 hx0 s0  (1 : Int32)  hr.2.2 hc4) F hr hx0 hl.1 rfl (by decide) dX19_handle_238 rfl rfl hroX19_handle_X19_ad ⟨Nat.zero_le _, Nat.zero_le _⟩) F hA hr (fun H locs hw5 hr => ?_)
    clear hc4
    refine lv_aload_n F.1 F.2.1 dX19_handle_241 rfl (lv_at hl 1 rfl) ?_
    refine lv_iload_n F.1 F.2.1 dX19_handle_242 rfl (lv_at hl 2 rfl) ?_
    refine lv_bipush (v := (13 : Int32)) F.1 F.2.1 dX19_handle_243 (by decide) ?_
    replace h := zc_some h
    obtain ⟨r6, z7, hc8, h⟩ := h
    refine zr_calli (zrun_V (As := [.int x2, .int (13 : Int32)]) (rest := [.int r2]) zq_2549 zq_2551 zs_X19_of zq_2552 zq_4 hdX19_of (by decide) (T := TX19) (N := 32) rfl (okX19_of l D cy B ids hst N x0 hx0 x2  (13 : Int32)  hr.2.2 hc8) F hr hx0 hl.1 rfl (Nat.le_of_ble_eq_true rfl) dX19_handle_245 rfl rfl hroX19_handle_X19_of ⟨Nat.zero_le _, Nat.zero_le _⟩) F hA hr (fun H locs hw9 hr => ?_)
    clear hc8
    refine lv_ldcw (v := (16777215)) F.1 F.2.1 F.2.2.2.1 (F.2.2.2.2.1 _ zq_2840) dX19_handle_248 ?_
    refine lv_iand F.1 F.2.1 dX19_handle_251 ?_
    refine lv_icmp_ne (tgt := 264) F.1 F.2.1 dX19_handle_252 (by decide) (fun c10 => ?_) (fun c10 => ?_)
    · replace h := zi_t c10 h
      obtain ⟨rfl, rfl⟩ := zret h
      exact E _ _ _ _ dX19_handle_264 trivial hr
    · replace h := zi_f (fun q => q c10) h
      refine zr_aload F.1 F.2.1 dX19_handle_255 (lv_at hl 3 rfl) ?_
      replace h := zd_some h
      obtain ⟨a11, rfl, h⟩ := h
      refine gf19_452 F (hx4 _ rfl) hr dX19_handle_257 ?_
      refine lv_iload F.1 F.2.1 dX19_handle_260 (lv_at hl 4 rfl) ?_
      refine lv_iconst (v := (0 : Int32)) F.1 F.2.1 dX19_handle_262 (by decide) ?_
      replace h := zk_some h
      obtain ⟨c12, h⟩ := h
      refine zr_zast (k := 162) (by decide) rfl (by decide) F (zal_a F (hx4 _ rfl) (j := 4) rfl) hr dX19_handle_263 c12 (fun H locs z13 ez13 hr => ?_)
      replace h := zl_sub ez13 h
      clear ez13
      obtain ⟨rfl, rfl⟩ := zret h
      exact E _ _ _ _ dX19_handle_264 trivial hr
def fX19_handle_162 (N : Nat)  (x0 : Nat) (x1 : Nat) (x2 : Int32) (x3 : Int32) (z : St) : Option (Int32 × St) := if ¬ x3 = (4 : Int32) then (some (0, z)) else (if (zgI z 12 1 x1) = 0 then (some (0, z)) else (zc (fX19_of N x0 x2 (9 : Int32) z) fun r3 z4 => zc (fX19_of N x0 x2 (12 : Int32) z4) fun r7 z8 => zc (fX19_friend N x1 r3 r7 z8) fun r11 z12 => zc (fX19_of N x0 x2 (13 : Int32) z12) fun r15 z16 => zl ((r15 >>> ((24 : Int32) &&& 31)) &&& (255 : Int32)) fun v19 => zo r11 (fX19_handle_226 N x0 x2 none v19 (-1 : Int32) z16) fun a21 => zk v19 16 <| fX19_handle_226 N x0 x2 (some a21) v19 (zgA z16 150 x1 (Int32.toNatClampNeg v19)) z16))
set_option maxHeartbeats 4000000 in
set_option maxRecDepth 100000 in
theorem bX19_handle_162 (hst : zSt B ids) (F : zFx p m c cX19_handle 7 s args RX19 D cy B ids A) (hA : ∀ q : Nat, s.heap.size ≤ q → A q) {r : Int32} {z' : St} (E : zEnd p l e rmX19_handle s m args below meth c cX19_handle D cy B ids A Q none z' .return_ True) {N : Nat}  (x0 : Nat) (x1 : Nat) (x2 : Int32) (x3 : Int32) (hx0 : (19, x0) ∈ ids) (hx1 : (12, x1) ∈ ids) {z : St} {H : Heap} {locs : List Loc} {ls : Array Slot} (hr : zRep D cy B ids A s.heap z H locs) (hl : lv_has ls 7 [(0, .ref (B 19 x0)), (1, .ref (B 12 x1)), (2, .int x2), (3, .int x3)]) (h : fX19_handle_162 N x0 x1 x2 x3 z = some (r, z')) : W p l e rmX19_handle s m args below meth c H locs 0 0 Q (F0 m 162 ls []) := by
  unfold fX19_handle_162 at h
  refine lv_iload_n F.1 F.2.1 dX19_handle_162 rfl (lv_at hl 3 rfl) ?_
  refine lv_iconst (v := (4 : Int32)) F.1 F.2.1 dX19_handle_163 (by decide) ?_
  refine lv_icmp_ne (tgt := 264) F.1 F.2.1 dX19_handle_164 (by decide) (fun c1 => ?_) (fun c1 => ?_)
  · replace h := zi_t c1 h
    obtain ⟨rfl, rfl⟩ := zret h
    exact E _ _ _ _ dX19_handle_264 trivial hr
  · replace h := zi_f (fun q => q c1) h
    refine lv_aload_n F.1 F.2.1 dX19_handle_167 rfl (lv_at hl 1 rfl) ?_
    refine gf19_298 F hx1 hr dX19_handle_168 ?_
    refine lv_if_eq (tgt := 264) F.1 F.2.1 dX19_handle_171 (by decide) (fun c2 => ?_) (fun c2 => ?_)
    · replace h := zi_t c2 h
      obtain ⟨rfl, rfl⟩ := zret h
      exact E _ _ _ _ dX19_handle_264 trivial hr
    · replace h := zi_f c2 h
      refine lv_aload_n F.1 F.2.1 dX19_handle_174 rfl (lv_at hl 1 rfl) ?_
      refine lv_aload_n F.1 F.2.1 dX19_handle_175 rfl (lv_at hl 0 rfl) ?_
      refine lv_iload_n F.1 F.2.1 dX19_handle_176 rfl (lv_at hl 2 rfl) ?_
      refine lv_bipush (v := (9 : Int32)) F.1 F.2.1 dX19_handle_177 (by decide) ?_
      replace h := zc_some h
      obtain ⟨r3, z4, hc5, h⟩ := h
      refine zr_calli (zrun_V (As := [.int x2, .int (9 : Int32)]) (rest := [.ref (B 12 x1)]) zq_2549 zq_2551 zs_X19_of zq_2552 zq_4 hdX19_of (by decide) (T := TX19) (N := 32) rfl (okX19_of l D cy B ids hst N x0 hx0 x2  (9 : Int32)  hr.2.2 hc5) F hr hx0 hl.1 rfl (Nat.le_of_ble_eq_true rfl) dX19_handle_179 rfl rfl hroX19_handle_X19_of ⟨Nat.zero_le _, Nat.zero_le _⟩) F hA hr (fun H locs hw6 hr => ?_)
      clear hc5
      refine lv_aload_n F.1 F.2.1 dX19_handle_182 rfl (lv_at hl 0 rfl) ?_
      refine lv_iload_n F.1 F.2.1 dX19_handle_183 rfl (lv_at hl 2 rfl) ?_
      refine lv_bipush (v := (12 : Int32)) F.1 F.2.1 dX19_handle_184 (by decide) ?_
      replace h := zc_some h
      obtain ⟨r7, z8, hc9, h⟩ := h
      refine zr_calli (zrun_V (As := [.int x2, .int (12 : Int32)]) (rest := [.int r3, .ref (B 12 x1)]) zq_2549 zq_2551 zs_X19_of zq_2552 zq_4 hdX19_of (by decide) (T := TX19) (N := 32) rfl (okX19_of l D cy B ids hst N x0 hx0 x2  (12 : Int32)  hr.2.2 hc9) F hr hx0 hl.1 rfl (Nat.le_of_ble_eq_true rfl) dX19_handle_186 rfl rfl hroX19_handle_X19_of ⟨Nat.zero_le _, Nat.zero_le _⟩) F hA hr (fun H locs hw10 hr => ?_)
      clear hc9
      replace h := zc_some h
      obtain ⟨r11, z12, hc13, h⟩ := h
      refine zr_callr (zrun_S (As := [.ref (B 12 x1), .int r3, .int r7]) (rest := []) zq_2825 zq_2826 zq_2827 zq_4 hdX19_friend (okX19_friend l D cy B ids hst N x1 hx1 r3  r7  hr.2.2 hc13) F hr hl.1 rfl (by decide) dX19_handle_189 rfl rfl hroX19_handle_X19_friend ⟨Nat.zero_le _, Nat.zero_le _⟩) F hA hr (fun H locs hw14 hr => ?_)
      clear hc13
      refine zr_astore (lv' := [(4, va_rf (Option.map (B 15) r11)), (0, .ref (B 19 x0)), (1, .ref (B 12 x1)), (2, .int x2), (3, .int x3)]) F.1 F.2.1 dX19_handle_192 hl (by decide) rfl (fun ls hl => ?_)
      refine lv_aload_n F.1 F.2.1 dX19_handle_194 rfl (lv_at hl 1 rfl) ?_
      refine lv_iload_n F.1 F.2.1 dX19_handle_195 rfl (lv_at hl 3 rfl) ?_
      refine lv_bipush (v := (13 : Int32)) F.1 F.2.1 dX19_handle_196 (by decide) ?_
      replace h := zc_some h
      obtain ⟨r15, z16, hc17, h⟩ := h
      refine zr_calli (zrun_V (As := [.int x2, .int (13 : Int32)]) (rest := []) zq_2549 zq_2551 zs_X19_of zq_2552 zq_4 hdX19_of (by decide) (T := TX19) (N := 32) rfl (okX19_of l D cy B ids hst N x0 hx0 x2  (13 : Int32)  hr.2.2 hc17) F hr hx0 hl.1 rfl (by decide) dX19_handle_198 rfl rfl hroX19_handle_X19_of ⟨Nat.zero_le _, Nat.zero_le _⟩) F hA hr (fun H locs hw18 hr => ?_)
      clear hc17
      refine lv_bipush (v := (24 : Int32)) F.1 F.2.1 dX19_handle_201 (by decide) ?_
      refine lv_ishr F.1 F.2.1 dX19_handle_203 ?_
      refine lv_sipush (v := (255 : Int32)) F.1 F.2.1 dX19_handle_204 (by decide) ?_
      refine lv_iand F.1 F.2.1 dX19_handle_207 ?_
      refine lv_topi (fun v19 ev19 => ?_)
      replace h := zl_sub ev19 h
      refine lv_istore (lv' := [(5, .int v19), (4, va_rf (Option.map (B 15) r11)), (0, .ref (B 19 x0)), (1, .ref (B 12 x1)), (2, .int x2), (3, .int x3)]) F.1 F.2.1 dX19_handle_208 hl (by decide) (by simp only [List.filter, zrf_cat]; rfl) (fun ls hl => ?_)
      refine zr_aload F.1 F.2.1 dX19_handle_210 (lv_at hl 1 rfl) ?_
      refine zr_ifnonnull (tgt := 219) F.1 F.2.1 dX19_handle_212 (by decide) (fun e20 => ?_) (fun a21 e20 => ?_)
      · replace h := zo_n e20 h
        subst e20
        refine lv_iconst (v := (-1 : Int32)) F.1 F.2.1 dX19_handle_215 (by decide) ?_
        refine lv_goto (tgt := 226) F.1 F.2.1 dX19_handle_216 (by decide) ?_
        exact bX19_handle_226 hst F hA E  x0 x2 none v19 (-1 : Int32) hx0 zal_0 hr (lv_sub hl [2, 4, 1, 0] rfl) h
      · replace h := zo_s e20 h
        subst e20
        refine lv_aload_n F.1 F.2.1 dX19_handle_219 rfl (lv_at hl 3 rfl) ?_
        refine gf19_448 F hx1 hr dX19_handle_220 ?_
        refine lv_iload F.1 F.2.1 dX19_handle_223 (lv_at hl 0 rfl) ?_
        replace h := zk_some h
        obtain ⟨c22, h⟩ := h
        refine zr_iald (k := 150) (by decide) rfl (by decide) F (zal_a F hx1 (j := 14) rfl) hr dX19_handle_225 c22 ?_
        exact bX19_handle_226 hst F hA E  x0 x2 (some a21) v19 (zgA z16 150 x1 (Int32.toNatClampNeg v19)) hx0 (zal_s (hw14 _ rfl)) hr (lv_sub hl [2, 4, 1, 0] rfl) h
def fX19_handle_141 (N : Nat)  (x0 : Nat) (x1 : Nat) (x2 : Int32) (x3 : Int32) (z : St) : Option (Int32 × St) := if ¬ x3 = (3 : Int32) then (fX19_handle_162 N x0 x1 x2 x3 z) else (if (zgI z 12 1 x1) = 0 then (fX19_handle_162 N x0 x1 x2 x3 z) else (zc (fX19_advertCame N x0 x1 x2 z) fun _ z4 => some (0, z4)))
set_option maxHeartbeats 4000000 in
set_option maxRecDepth 100000 in
theorem bX19_handle_141 (hst : zSt B ids) (F : zFx p m c cX19_handle 7 s args RX19 D cy B ids A) (hA : ∀ q : Nat, s.heap.size ≤ q → A q) {r : Int32} {z' : St} (E : zEnd p l e rmX19_handle s m args below meth c cX19_handle D cy B ids A Q none z' .return_ True) {N : Nat}  (x0 : Nat) (x1 : Nat) (x2 : Int32) (x3 : Int32) (hx0 : (19, x0) ∈ ids) (hx1 : (12, x1) ∈ ids) {z : St} {H : Heap} {locs : List Loc} {ls : Array Slot} (hr : zRep D cy B ids A s.heap z H locs) (hl : lv_has ls 7 [(0, .ref (B 19 x0)), (1, .ref (B 12 x1)), (2, .int x2), (3, .int x3)]) (h : fX19_handle_141 N x0 x1 x2 x3 z = some (r, z')) : W p l e rmX19_handle s m args below meth c H locs 0 0 Q (F0 m 141 ls []) := by
  unfold fX19_handle_141 at h
  refine lv_iload_n F.1 F.2.1 dX19_handle_141 rfl (lv_at hl 3 rfl) ?_
  refine lv_iconst (v := (3 : Int32)) F.1 F.2.1 dX19_handle_142 (by decide) ?_
  refine lv_icmp_ne (tgt := 162) F.1 F.2.1 dX19_handle_143 (by decide) (fun c1 => ?_) (fun c1 => ?_)
  · replace h := zi_t c1 h
    exact bX19_handle_162 hst F hA E  x0 x1 x2 x3 hx0 hx1 hr (lv_sub hl [0, 1, 2, 3] rfl) h
  · replace h := zi_f (fun q => q c1) h
    refine lv_aload_n F.1 F.2.1 dX19_handle_146 rfl (lv_at hl 1 rfl) ?_
    refine gf19_298 F hx1 hr dX19_handle_147 ?_
    refine lv_if_eq (tgt := 162) F.1 F.2.1 dX19_handle_150 (by decide) (fun c2 => ?_) (fun c2 => ?_)
    · replace h := zi_t c2 h
      exact bX19_handle_162 hst F hA E  x0 x1 x2 x3 hx0 hx1 hr (lv_sub hl [0, 1, 2, 3] rfl) h
    · replace h := zi_f c2 h
      refine lv_aload_n F.1 F.2.1 dX19_handle_153 rfl (lv_at hl 0 rfl) ?_
      refine lv_aload_n F.1 F.2.1 dX19_handle_154 rfl (lv_at hl 1 rfl) ?_
      refine lv_iload_n F.1 F.2.1 dX19_handle_155 rfl (lv_at hl 2 rfl) ?_
      replace h := zc_some h
      obtain ⟨r3, z4, hc5, h⟩ := h
      refine zr_callv (zrun_V (As := [.ref (B 12 x1), .int x2]) (rest := []) zq_2821 zq_2823 zs_X19_advertCame zq_2824 zq_4 hdX19_advertCame (by decide) (T := TX19) (N := 32) rfl (okX19_advertCame l D cy B ids hst N x0 hx0 x1 hx1 x2  hr.2.2 hc5) F hr hx0 hl.1 rfl (by decide) dX19_handle_156 rfl rfl hroX19_handle_X19_advertCame ⟨Nat.zero_le _, Nat.zero_le _⟩) F hA hr (fun H locs hw6 hr => ?_)
      clear hc5
      refine lv_goto (tgt := 264) F.1 F.2.1 dX19_handle_159 (by decide) ?_
      obtain ⟨rfl, rfl⟩ := zret h
      exact E _ _ _ _ dX19_handle_264 trivial hr
def fX19_handle_100 (N : Nat)  (x0 : Nat) (x1 : Nat) (x2 : Int32) (x3 : Int32) (z : St) : Option (Int32 × St) := if ¬ x3 = (2 : Int32) then (fX19_handle_141 N x0 x1 x2 x3 z) else (if (zgI z 12 1 x1) = 0 then (fX19_handle_141 N x0 x1 x2 x3 z) else (zc (fX19_of N x0 x2 (9 : Int32) z) fun r3 z4 => zc (fX19_of N x0 x2 (12 : Int32) z4) fun r7 z8 => zc (fX19_of N x0 x2 (13 : Int32) z8) fun r11 z12 => zc (fX19_greeted N x0 x1 r3 r7 r11 z12) fun _ z16 => some (0, z16)))
set_option maxHeartbeats 4000000 in
set_option maxRecDepth 100000 in
theorem bX19_handle_100 (hst : zSt B ids) (F : zFx p m c cX19_handle 7 s args RX19 D cy B ids A) (hA : ∀ q : Nat, s.heap.size ≤ q → A q) {r : Int32} {z' : St} (E : zEnd p l e rmX19_handle s m args below meth c cX19_handle D cy B ids A Q none z' .return_ True) {N : Nat}  (x0 : Nat) (x1 : Nat) (x2 : Int32) (x3 : Int32) (hx0 : (19, x0) ∈ ids) (hx1 : (12, x1) ∈ ids) {z : St} {H : Heap} {locs : List Loc} {ls : Array Slot} (hr : zRep D cy B ids A s.heap z H locs) (hl : lv_has ls 7 [(0, .ref (B 19 x0)), (1, .ref (B 12 x1)), (2, .int x2), (3, .int x3)]) (h : fX19_handle_100 N x0 x1 x2 x3 z = some (r, z')) : W p l e rmX19_handle s m args below meth c H locs 0 0 Q (F0 m 100 ls []) := by
  unfold fX19_handle_100 at h
  refine lv_iload_n F.1 F.2.1 dX19_handle_100 rfl (lv_at hl 3 rfl) ?_
  refine lv_iconst (v := (2 : Int32)) F.1 F.2.1 dX19_handle_101 (by decide) ?_
  refine lv_icmp_ne (tgt := 141) F.1 F.2.1 dX19_handle_102 (by decide) (fun c1 => ?_) (fun c1 => ?_)
  · replace h := zi_t c1 h
    exact bX19_handle_141 hst F hA E  x0 x1 x2 x3 hx0 hx1 hr (lv_sub hl [0, 1, 2, 3] rfl) h
  · replace h := zi_f (fun q => q c1) h
    refine lv_aload_n F.1 F.2.1 dX19_handle_105 rfl (lv_at hl 1 rfl) ?_
    refine gf19_298 F hx1 hr dX19_handle_106 ?_
    refine lv_if_eq (tgt := 141) F.1 F.2.1 dX19_handle_109 (by decide) (fun c2 => ?_) (fun c2 => ?_)
    · replace h := zi_t c2 h
      exact bX19_handle_141 hst F hA E  x0 x1 x2 x3 hx0 hx1 hr (lv_sub hl [0, 1, 2, 3] rfl) h
    · replace h := zi_f c2 h
      refine lv_aload_n F.1 F.2.1 dX19_handle_112 rfl (lv_at hl 0 rfl) ?_
      refine lv_aload_n F.1 F.2.1 dX19_handle_113 rfl (lv_at hl 1 rfl) ?_
      refine lv_aload_n F.1 F.2.1 dX19_handle_114 rfl (lv_at hl 0 rfl) ?_
      refine lv_iload_n F.1 F.2.1 dX19_handle_115 rfl (lv_at hl 2 rfl) ?_
      refine lv_bipush (v := (9 : Int32)) F.1 F.2.1 dX19_handle_116 (by decide) ?_
      replace h := zc_some h
      obtain ⟨r3, z4, hc5, h⟩ := h
      refine zr_calli (zrun_V (As := [.int x2, .int (9 : Int32)]) (rest := [.ref (B 12 x1), .ref (B 19 x0)]) zq_2549 zq_2551 zs_X19_of zq_2552 zq_4 hdX19_of (by decide) (T := TX19) (N := 32) rfl (okX19_of l D cy B ids hst N x0 hx0 x2  (9 : Int32)  hr.2.2 hc5) F hr hx0 hl.1 rfl (Nat.le_of_ble_eq_true rfl) dX19_handle_118 rfl rfl hroX19_handle_X19_of ⟨Nat.zero_le _, Nat.zero_le _⟩) F hA hr (fun H locs hw6 hr => ?_)
      clear hc5
      refine lv_aload_n F.1 F.2.1 dX19_handle_121 rfl (lv_at hl 0 rfl) ?_
      refine lv_iload_n F.1 F.2.1 dX19_handle_122 rfl (lv_at hl 2 rfl) ?_
      refine lv_bipush (v := (12 : Int32)) F.1 F.2.1 dX19_handle_123 (by decide) ?_
      replace h := zc_some h
      obtain ⟨r7, z8, hc9, h⟩ := h
      refine zr_calli (zrun_V (As := [.int x2, .int (12 : Int32)]) (rest := [.int r3, .ref (B 12 x1), .ref (B 19 x0)]) zq_2549 zq_2551 zs_X19_of zq_2552 zq_4 hdX19_of (by decide) (T := TX19) (N := 32) rfl (okX19_of l D cy B ids hst N x0 hx0 x2  (12 : Int32)  hr.2.2 hc9) F hr hx0 hl.1 rfl (Nat.le_of_ble_eq_true rfl) dX19_handle_125 rfl rfl hroX19_handle_X19_of ⟨Nat.zero_le _, Nat.zero_le _⟩) F hA hr (fun H locs hw10 hr => ?_)
      clear hc9
      refine lv_aload_n F.1 F.2.1 dX19_handle_128 rfl (lv_at hl 0 rfl) ?_
      refine lv_iload_n F.1 F.2.1 dX19_handle_129 rfl (lv_at hl 2 rfl) ?_
      refine lv_bipush (v := (13 : Int32)) F.1 F.2.1 dX19_handle_130 (by decide) ?_
      replace h := zc_some h
      obtain ⟨r11, z12, hc13, h⟩ := h
      refine zr_calli (zrun_V (As := [.int x2, .int (13 : Int32)]) (rest := [.int r7, .int r3, .ref (B 12 x1), .ref (B 19 x0)]) zq_2549 zq_2551 zs_X19_of zq_2552 zq_4 hdX19_of (by decide) (T := TX19) (N := 32) rfl (okX19_of l D cy B ids hst N x0 hx0 x2  (13 : Int32)  hr.2.2 hc13) F hr hx0 hl.1 rfl (Nat.le_of_ble_eq_true rfl) dX19_handle_132 rfl rfl hroX19_handle_X19_of ⟨Nat.zero_le _, Nat.zero_le _⟩) F hA hr (fun H locs hw14 hr => ?_)
      clear hc13
      replace h := zc_some h
      obtain ⟨r15, z16, hc17, h⟩ := h
      refine zr_callv (zrun_V (As := [.ref (B 12 x1), .int r3, .int r7, .int r11]) (rest := []) zq_2810 zq_2812 zs_X19_greeted zq_2813 zq_4 hdX19_greeted (by decide) (T := TX19) (N := 32) rfl (okX19_greeted l D cy B ids hst N x0 hx0 x1 hx1 r3  r7  r11  hr.2.2 hc17) F hr hx0 hl.1 rfl (by decide) dX19_handle_135 rfl rfl hroX19_handle_X19_greeted ⟨Nat.zero_le _, Nat.zero_le _⟩) F hA hr (fun H locs hw18 hr => ?_)
      clear hc17
      refine lv_goto (tgt := 264) F.1 F.2.1 dX19_handle_138 (by decide) ?_
      obtain ⟨rfl, rfl⟩ := zret h
      exact E _ _ _ _ dX19_handle_264 trivial hr
def fX19_handle (N : Nat)  (x0 : Nat) (x1 : Nat) (x2 : Int32) (z : St) : Option (Int32 × St) := zl (zsI z 12 5 x1 ((zgI z 12 5 x1) + (1 : Int32))) fun z1 => zc (fX19_of N x0 x2 (2 : Int32) z1) fun r2 z3 => if ¬ r2 = 0 then (if ¬ r2 = (1 : Int32) then (fX19_handle_100 N x0 x1 x2 r2 z3) else (if ¬ (zgI z3 12 1 x1) = 0 then (fX19_handle_100 N x0 x1 x2 r2 z3) else (zc (fX19_of N x0 x2 (10 : Int32) z3) fun r9 z10 => zc (fX19_of N x0 x2 (0 : Int32) z10) fun r13 z14 => zc (fX19_segment N x0 x1 r9 r13 z14) fun _ z18 => some (0, z18)))) else (zl (zsI z3 12 9 x1 ((zgI z3 12 9 x1) + (1 : Int32))) fun z21 => zc (fX19_of N x0 x2 (14 : Int32) z21) fun r22 z23 => zc (fX19_of N x0 x2 (15 : Int32) z23) fun r26 z27 => zc (fX19_of N x0 x2 (16 : Int32) z27) fun r30 z31 => zc (fX19_of N x0 x2 (17 : Int32) z31) fun r34 z35 => zc (fX19_act N x0 x1 r22 r26 r30 r34 z35) fun _ z39 => some (0, z39))
set_option maxHeartbeats 4000000 in
set_option maxRecDepth 100000 in
theorem bX19_handle_0 (hst : zSt B ids) (F : zFx p m c cX19_handle 7 s args RX19 D cy B ids A) (hA : ∀ q : Nat, s.heap.size ≤ q → A q) {r : Int32} {z' : St} (E : zEnd p l e rmX19_handle s m args below meth c cX19_handle D cy B ids A Q none z' .return_ True) {N : Nat}  (x0 : Nat) (x1 : Nat) (x2 : Int32) (hx0 : (19, x0) ∈ ids) (hx1 : (12, x1) ∈ ids) {z : St} {H : Heap} {locs : List Loc} {ls : Array Slot} (hr : zRep D cy B ids A s.heap z H locs) (hl : lv_has ls 7 [(0, .ref (B 19 x0)), (1, .ref (B 12 x1)), (2, .int x2)]) (h : fX19_handle N x0 x1 x2 z = some (r, z')) : W p l e rmX19_handle s m args below meth c H locs 0 0 Q (F0 m 0 ls []) := by
  unfold fX19_handle at h
  refine lv_aload_n F.1 F.2.1 dX19_handle_0 rfl (lv_at hl 1 rfl) ?_
  refine lv_dup F.1 F.2.1 dX19_handle_1 rfl ?_
  refine gf19_430 F hx1 hr dX19_handle_2 ?_
  refine lv_iconst (v := (1 : Int32)) F.1 F.2.1 dX19_handle_5 (by decide) ?_
  refine lv_iadd F.1 F.2.1 dX19_handle_6 ?_
  refine pf19_430 F hx1 hr dX19_handle_7 ((zgI z 12 5 x1) + (1 : Int32)) (fun H locs z1 ez1 hr => ?_)
  replace h := zl_sub ez1 h
  clear ez1
  refine lv_aload_n F.1 F.2.1 dX19_handle_10 rfl (lv_at hl 0 rfl) ?_
  refine lv_iload_n F.1 F.2.1 dX19_handle_11 rfl (lv_at hl 2 rfl) ?_
  refine lv_iconst (v := (2 : Int32)) F.1 F.2.1 dX19_handle_12 (by decide) ?_
  replace h := zc_some h
  obtain ⟨r2, z3, hc4, h⟩ := h
  refine zr_calli (zrun_V (As := [.int x2, .int (2 : Int32)]) (rest := []) zq_2549 zq_2551 zs_X19_of zq_2552 zq_4 hdX19_of (by decide) (T := TX19) (N := 32) rfl (okX19_of l D cy B ids hst N x0 hx0 x2  (2 : Int32)  hr.2.2 hc4) F hr hx0 hl.1 rfl (by decide) dX19_handle_13 rfl rfl hroX19_handle_X19_of ⟨Nat.zero_le _, Nat.zero_le _⟩) F hA hr (fun H locs hw5 hr => ?_)
  clear hc4
  refine lv_istore_n (lv' := [(3, .int r2), (0, .ref (B 19 x0)), (1, .ref (B 12 x1)), (2, .int x2)]) F.1 F.2.1 dX19_handle_16 rfl hl (by decide) rfl (fun ls hl => ?_)
  refine lv_iload_n F.1 F.2.1 dX19_handle_17 rfl (lv_at hl 0 rfl) ?_
  refine lv_if_ne (tgt := 67) F.1 F.2.1 dX19_handle_18 (by decide) (fun c6 => ?_) (fun c6 => ?_)
  · replace h := zi_t c6 h
    refine lv_iload_n F.1 F.2.1 dX19_handle_67 rfl (lv_at hl 0 rfl) ?_
    refine lv_iconst (v := (1 : Int32)) F.1 F.2.1 dX19_handle_68 (by decide) ?_
    refine lv_icmp_ne (tgt := 100) F.1 F.2.1 dX19_handle_69 (by decide) (fun c7 => ?_) (fun c7 => ?_)
    · replace h := zi_t c7 h
      exact bX19_handle_100 hst F hA E  x0 x1 x2 r2 hx0 hx1 hr (lv_sub hl [1, 2, 3, 0] rfl) h
    · replace h := zi_f (fun q => q c7) h
      refine lv_aload_n F.1 F.2.1 dX19_handle_72 rfl (lv_at hl 2 rfl) ?_
      refine gf19_298 F hx1 hr dX19_handle_73 ?_
      refine lv_if_ne (tgt := 100) F.1 F.2.1 dX19_handle_76 (by decide) (fun c8 => ?_) (fun c8 => ?_)
      · replace h := zi_t c8 h
        exact bX19_handle_100 hst F hA E  x0 x1 x2 r2 hx0 hx1 hr (lv_sub hl [1, 2, 3, 0] rfl) h
      · replace h := zi_f (fun q => q c8) h
        refine lv_aload_n F.1 F.2.1 dX19_handle_79 rfl (lv_at hl 1 rfl) ?_
        refine lv_aload_n F.1 F.2.1 dX19_handle_80 rfl (lv_at hl 2 rfl) ?_
        refine lv_aload_n F.1 F.2.1 dX19_handle_81 rfl (lv_at hl 1 rfl) ?_
        refine lv_iload_n F.1 F.2.1 dX19_handle_82 rfl (lv_at hl 3 rfl) ?_
        refine lv_bipush (v := (10 : Int32)) F.1 F.2.1 dX19_handle_83 (by decide) ?_
        replace h := zc_some h
        obtain ⟨r9, z10, hc11, h⟩ := h
        refine zr_calli (zrun_V (As := [.int x2, .int (10 : Int32)]) (rest := [.ref (B 12 x1), .ref (B 19 x0)]) zq_2549 zq_2551 zs_X19_of zq_2552 zq_4 hdX19_of (by decide) (T := TX19) (N := 32) rfl (okX19_of l D cy B ids hst N x0 hx0 x2  (10 : Int32)  hr.2.2 hc11) F hr hx0 hl.1 rfl (Nat.le_of_ble_eq_true rfl) dX19_handle_85 rfl rfl hroX19_handle_X19_of ⟨Nat.zero_le _, Nat.zero_le _⟩) F hA hr (fun H locs hw12 hr => ?_)
        clear hc11
        refine lv_aload_n F.1 F.2.1 dX19_handle_88 rfl (lv_at hl 1 rfl) ?_
        refine lv_iload_n F.1 F.2.1 dX19_handle_89 rfl (lv_at hl 3 rfl) ?_
        refine lv_iconst (v := (0 : Int32)) F.1 F.2.1 dX19_handle_90 (by decide) ?_
        replace h := zc_some h
        obtain ⟨r13, z14, hc15, h⟩ := h
        refine zr_calli (zrun_V (As := [.int x2, .int (0 : Int32)]) (rest := [.int r9, .ref (B 12 x1), .ref (B 19 x0)]) zq_2549 zq_2551 zs_X19_of zq_2552 zq_4 hdX19_of (by decide) (T := TX19) (N := 32) rfl (okX19_of l D cy B ids hst N x0 hx0 x2  (0 : Int32)  hr.2.2 hc15) F hr hx0 hl.1 rfl (Nat.le_of_ble_eq_true rfl) dX19_handle_91 rfl rfl hroX19_handle_X19_of ⟨Nat.zero_le _, Nat.zero_le _⟩) F hA hr (fun H locs hw16 hr => ?_)
        clear hc15
        replace h := zc_some h
        obtain ⟨r17, z18, hc19, h⟩ := h
        refine zr_callv (zrun_V (As := [.ref (B 12 x1), .int r9, .int r13]) (rest := []) zq_2647 zq_2649 zs_X19_segment zq_2650 zq_4 hdX19_segment (by decide) (T := TX19) (N := 32) rfl (okX19_segment l D cy B ids hst N x0 hx0 x1 hx1 r9  r13  hr.2.2 hc19) F hr hx0 hl.1 rfl (by decide) dX19_handle_94 rfl rfl hroX19_handle_X19_segment ⟨Nat.zero_le _, Nat.zero_le _⟩) F hA hr (fun H locs hw20 hr => ?_)
        clear hc19
        refine lv_goto (tgt := 264) F.1 F.2.1 dX19_handle_97 (by decide) ?_
        obtain ⟨rfl, rfl⟩ := zret h
        exact E _ _ _ _ dX19_handle_264 trivial hr
  · replace h := zi_f (fun q => q c6) h
    refine lv_aload_n F.1 F.2.1 dX19_handle_21 rfl (lv_at hl 2 rfl) ?_
    refine lv_dup F.1 F.2.1 dX19_handle_22 rfl ?_
    refine gf19_322 F hx1 hr dX19_handle_23 ?_
    refine lv_iconst (v := (1 : Int32)) F.1 F.2.1 dX19_handle_26 (by decide) ?_
    refine lv_iadd F.1 F.2.1 dX19_handle_27 ?_
    refine pf19_322 F hx1 hr dX19_handle_28 ((zgI z3 12 9 x1) + (1 : Int32)) (fun H locs z21 ez21 hr => ?_)
    replace h := zl_sub ez21 h
    clear ez21
    refine lv_aload_n F.1 F.2.1 dX19_handle_31 rfl (lv_at hl 1 rfl) ?_
    refine lv_aload_n F.1 F.2.1 dX19_handle_32 rfl (lv_at hl 2 rfl) ?_
    refine lv_aload_n F.1 F.2.1 dX19_handle_33 rfl (lv_at hl 1 rfl) ?_
    refine lv_iload_n F.1 F.2.1 dX19_handle_34 rfl (lv_at hl 3 rfl) ?_
    refine lv_bipush (v := (14 : Int32)) F.1 F.2.1 dX19_handle_35 (by decide) ?_
    replace h := zc_some h
    obtain ⟨r22, z23, hc24, h⟩ := h
    refine zr_calli (zrun_V (As := [.int x2, .int (14 : Int32)]) (rest := [.ref (B 12 x1), .ref (B 19 x0)]) zq_2549 zq_2551 zs_X19_of zq_2552 zq_4 hdX19_of (by decide) (T := TX19) (N := 32) rfl (okX19_of l D cy B ids hst N x0 hx0 x2  (14 : Int32)  hr.2.2 hc24) F hr hx0 hl.1 rfl (Nat.le_of_ble_eq_true rfl) dX19_handle_37 rfl rfl hroX19_handle_X19_of ⟨Nat.zero_le _, Nat.zero_le _⟩) F hA hr (fun H locs hw25 hr => ?_)
    clear hc24
    refine lv_aload_n F.1 F.2.1 dX19_handle_40 rfl (lv_at hl 1 rfl) ?_
    refine lv_iload_n F.1 F.2.1 dX19_handle_41 rfl (lv_at hl 3 rfl) ?_
    refine lv_bipush (v := (15 : Int32)) F.1 F.2.1 dX19_handle_42 (by decide) ?_
    replace h := zc_some h
    obtain ⟨r26, z27, hc28, h⟩ := h
    refine zr_calli (zrun_V (As := [.int x2, .int (15 : Int32)]) (rest := [.int r22, .ref (B 12 x1), .ref (B 19 x0)]) zq_2549 zq_2551 zs_X19_of zq_2552 zq_4 hdX19_of (by decide) (T := TX19) (N := 32) rfl (okX19_of l D cy B ids hst N x0 hx0 x2  (15 : Int32)  hr.2.2 hc28) F hr hx0 hl.1 rfl (Nat.le_of_ble_eq_true rfl) dX19_handle_44 rfl rfl hroX19_handle_X19_of ⟨Nat.zero_le _, Nat.zero_le _⟩) F hA hr (fun H locs hw29 hr => ?_)
    clear hc28
    refine lv_aload_n F.1 F.2.1 dX19_handle_47 rfl (lv_at hl 1 rfl) ?_
    refine lv_iload_n F.1 F.2.1 dX19_handle_48 rfl (lv_at hl 3 rfl) ?_
    refine lv_bipush (v := (16 : Int32)) F.1 F.2.1 dX19_handle_49 (by decide) ?_
    replace h := zc_some h
    obtain ⟨r30, z31, hc32, h⟩ := h
    refine zr_calli (zrun_V (As := [.int x2, .int (16 : Int32)]) (rest := [.int r26, .int r22, .ref (B 12 x1), .ref (B 19 x0)]) zq_2549 zq_2551 zs_X19_of zq_2552 zq_4 hdX19_of (by decide) (T := TX19) (N := 32) rfl (okX19_of l D cy B ids hst N x0 hx0 x2  (16 : Int32)  hr.2.2 hc32) F hr hx0 hl.1 rfl (Nat.le_of_ble_eq_true rfl) dX19_handle_51 rfl rfl hroX19_handle_X19_of ⟨Nat.zero_le _, Nat.zero_le _⟩) F hA hr (fun H locs hw33 hr => ?_)
    clear hc32
    refine lv_aload_n F.1 F.2.1 dX19_handle_54 rfl (lv_at hl 1 rfl) ?_
    refine lv_iload_n F.1 F.2.1 dX19_handle_55 rfl (lv_at hl 3 rfl) ?_
    refine lv_bipush (v := (17 : Int32)) F.1 F.2.1 dX19_handle_56 (by decide) ?_
    replace h := zc_some h
    obtain ⟨r34, z35, hc36, h⟩ := h
    refine zr_calli (zrun_V (As := [.int x2, .int (17 : Int32)]) (rest := [.int r30, .int r26, .int r22, .ref (B 12 x1), .ref (B 19 x0)]) zq_2549 zq_2551 zs_X19_of zq_2552 zq_4 hdX19_of (by decide) (T := TX19) (N := 32) rfl (okX19_of l D cy B ids hst N x0 hx0 x2  (17 : Int32)  hr.2.2 hc36) F hr hx0 hl.1 rfl (Nat.le_of_ble_eq_true rfl) dX19_handle_58 rfl rfl hroX19_handle_X19_of ⟨Nat.zero_le _, Nat.zero_le _⟩) F hA hr (fun H locs hw37 hr => ?_)
    clear hc36
    replace h := zc_some h
    obtain ⟨r38, z39, hc40, h⟩ := h
    refine zr_callv (zrun_V (As := [.ref (B 12 x1), .int r22, .int r26, .int r30, .int r34]) (rest := []) zq_2639 zq_2641 zs_X19_act zq_2642 zq_4 hdX19_act (by decide) (T := TX19) (N := 32) rfl (okX19_act l D cy B ids hst N x0 hx0 x1 hx1 r22  r26  r30  r34  hr.2.2 hc40) F hr hx0 hl.1 rfl (by decide) dX19_handle_61 rfl rfl hroX19_handle_X19_act ⟨Nat.zero_le _, Nat.zero_le _⟩) F hA hr (fun H locs hw41 hr => ?_)
    clear hc40
    refine lv_goto (tgt := 264) F.1 F.2.1 dX19_handle_64 (by decide) ?_
    obtain ⟨rfl, rfl⟩ := zret h
    exact E _ _ _ _ dX19_handle_264 trivial hr
end SX19_handle
set_option maxRecDepth 100000 in
theorem okX19_handle (l : Launch) (D : va_G) (cy : Nat → ClassId) (B : Nat → Nat → Nat) (ids : List (Nat × Nat)) (hst : zSt B ids) (N : Nat) (x0 : Nat) (hx0 : (19, x0) ∈ ids) (x1 : Nat) (hx1 : (12, x1) ∈ ids) (x2 : Int32) {z : St} {r : Int32} {z' : St} (hW : zWf ids z) (h : fX19_handle N x0 x1 x2 z = some (r, z')) : zM l yX19_handle (zws yX19_handle cX19_handle 7 none) rmX19_handle D cy B ids [.ref (B 19 x0), .ref (B 12 x1), .int x2] none True z z' :=
  zM_of hst hW (by decide +kernel) (Nat.le_of_ble_eq_true rfl) (fun p e s m args below meth c A ls F hA hret hlocks hr hl => bX19_handle_0 hst F hA (zEnd_v F hret hlocks) x0 x1 x2 hx0 hx1 hr hl h)
abbrev rmX19_get : Room := { frames := 12, cells := 0, slots := 0, locals := 311 }
theorem hdX19_get : yX19_get.cls ≠ "java/lang/invoke/MethodHandle" ∧ yX19_get.cls ≠ "java/lang/invoke/VarHandle" ∧ (parseMethodDescriptor yX19_get.desc).map (fun d => d.parameters.length) = some 2 := by decide +kernel
theorem hroX19_get_X17_isWhole : rmX17_isWhole.frames + 1 ≤ rmX19_get.frames ∧ 8 + (2 + 11) + rmX17_isWhole.locals ≤ rmX19_get.locals := by decide
theorem hroX19_get_X19_endPieces : rmX19_endPieces.frames + 1 ≤ rmX19_get.frames ∧ 8 + (4 + 11) + rmX19_endPieces.locals ≤ rmX19_get.locals := by decide
theorem hroX19_get_X19_handle : rmX19_handle.frames + 1 ≤ rmX19_get.frames ∧ 8 + (7 + 11) + rmX19_handle.locals ≤ rmX19_get.locals := by decide
theorem hroX19_get_X19_of : rmX19_of.frames + 1 ≤ rmX19_get.frames ∧ 8 + (3 + 11) + rmX19_of.locals ≤ rmX19_get.locals := by decide
theorem hroX19_get_X19_stir : rmX19_stir.frames + 1 ≤ rmX19_get.frames ∧ 8 + (1 + 11) + rmX19_stir.locals ≤ rmX19_get.locals := by decide
section SX19_get
variable {p : Program} {l : Launch} {e : Env} {s : State} {m : MethodId} {args : Array Value} {below : List Frame} {meth : Method} {c : Code} {Q : State → Prop} {D : va_G} {cy : Nat → ClassId} {B : Nat → Nat → Nat} {ids : List (Nat × Nat)} {A : Nat → Prop}
def fX19_get_102 (N : Nat) (K22 : Nat → Nat → Int32 → Int32 → Int32 → St → Option (Int32 × St)) (x0 : Nat) (x1 : Nat) (x2 : Int32) (x4 : Int32) (s0 : Int32) (z : St) : Option (Int32 × St) := zl (x4 + 1) fun v1 => K22 x0 x1 x2 s0 v1 z
set_option maxHeartbeats 4000000 in
set_option maxRecDepth 100000 in
theorem bX19_get_102 (hst : zSt B ids) (F : zFx p m c cX19_get 7 s args RX19 D cy B ids A) (hA : ∀ q : Nat, s.heap.size ≤ q → A q) {r : Int32} {z' : St} (E : zEnd p l e rmX19_get s m args below meth c cX19_get D cy B ids A Q none z' .return_ True) {N : Nat} {K22 : Nat → Nat → Int32 → Int32 → Int32 → St → Option (Int32 × St)} (hK22 : ∀ (x0 : Nat) (x1 : Nat) (x2 : Int32) (x3 : Int32) (x4 : Int32) (hx0 : (19, x0) ∈ ids) (hx1 : (12, x1) ∈ ids) {z : St} {H : Heap} {locs : List Loc} {ls : Array Slot} (hr : zRep D cy B ids A s.heap z H locs) (hl : lv_has ls 7 [(0, .ref (B 19 x0)), (1, .ref (B 12 x1)), (2, .int x2), (3, .int x3), (4, .int x4)]), K22 x0 x1 x2 x3 x4 z = some (r, z') → W p l e rmX19_get s m args below meth c H locs 0 0 Q (F0 m 22 ls [])) (x0 : Nat) (x1 : Nat) (x2 : Int32) (x4 : Int32) (s0 : Int32) (hx0 : (19, x0) ∈ ids) (hx1 : (12, x1) ∈ ids) {z : St} {H : Heap} {locs : List Loc} {ls : Array Slot} (hr : zRep D cy B ids A s.heap z H locs) (hl : lv_has ls 7 [(0, .ref (B 19 x0)), (1, .ref (B 12 x1)), (2, .int x2), (4, .int x4)]) (h : fX19_get_102 N K22 x0 x1 x2 x4 s0 z = some (r, z')) : W p l e rmX19_get s m args below meth c H locs 0 0 Q (F0 m 102 ls [.int s0]) := by
  unfold fX19_get_102 at h
  refine lv_istore_n (lv' := [(3, .int s0), (0, .ref (B 19 x0)), (1, .ref (B 12 x1)), (2, .int x2), (4, .int x4)]) F.1 F.2.1 dX19_get_102 rfl hl (by decide) rfl (fun ls hl => ?_)
  obtain ⟨v1, ev1⟩ : ∃ y : Int32, y = (x4 + 1) := ⟨_, rfl⟩
  replace h := zl_sub ev1 h
  refine lv_iinc (v := v1) (lv' := [(4, .int v1), (3, .int s0), (0, .ref (B 19 x0)), (1, .ref (B 12 x1)), (2, .int x2)]) F.1 F.2.1 dX19_get_103 hl (k := 4) rfl (by rw [ev1]; rfl) (by decide) rfl (fun ls hl => ?_)
  refine lv_goto (tgt := 22) F.1 F.2.1 dX19_get_106 (by decide) ?_
  exact hK22 x0 x1 x2 s0 v1 hx0 hx1 hr (lv_sub hl [2, 3, 4, 1, 0] rfl) h
def fX19_get_101 (N : Nat) (K22 : Nat → Nat → Int32 → Int32 → Int32 → St → Option (Int32 × St)) (x0 : Nat) (x1 : Nat) (x2 : Int32) (x3 : Int32) (x4 : Int32) (z : St) : Option (Int32 × St) := fX19_get_102 N K22 x0 x1 x2 x4 x3 z
set_option maxHeartbeats 4000000 in
set_option maxRecDepth 100000 in
theorem bX19_get_101 (hst : zSt B ids) (F : zFx p m c cX19_get 7 s args RX19 D cy B ids A) (hA : ∀ q : Nat, s.heap.size ≤ q → A q) {r : Int32} {z' : St} (E : zEnd p l e rmX19_get s m args below meth c cX19_get D cy B ids A Q none z' .return_ True) {N : Nat} {K22 : Nat → Nat → Int32 → Int32 → Int32 → St → Option (Int32 × St)} (hK22 : ∀ (x0 : Nat) (x1 : Nat) (x2 : Int32) (x3 : Int32) (x4 : Int32) (hx0 : (19, x0) ∈ ids) (hx1 : (12, x1) ∈ ids) {z : St} {H : Heap} {locs : List Loc} {ls : Array Slot} (hr : zRep D cy B ids A s.heap z H locs) (hl : lv_has ls 7 [(0, .ref (B 19 x0)), (1, .ref (B 12 x1)), (2, .int x2), (3, .int x3), (4, .int x4)]), K22 x0 x1 x2 x3 x4 z = some (r, z') → W p l e rmX19_get s m args below meth c H locs 0 0 Q (F0 m 22 ls [])) (x0 : Nat) (x1 : Nat) (x2 : Int32) (x3 : Int32) (x4 : Int32) (hx0 : (19, x0) ∈ ids) (hx1 : (12, x1) ∈ ids) {z : St} {H : Heap} {locs : List Loc} {ls : Array Slot} (hr : zRep D cy B ids A s.heap z H locs) (hl : lv_has ls 7 [(0, .ref (B 19 x0)), (1, .ref (B 12 x1)), (2, .int x2), (3, .int x3), (4, .int x4)]) (h : fX19_get_101 N K22 x0 x1 x2 x3 x4 z = some (r, z')) : W p l e rmX19_get s m args below meth c H locs 0 0 Q (F0 m 101 ls []) := by
  unfold fX19_get_101 at h
  refine lv_iload_n F.1 F.2.1 dX19_get_101 rfl (lv_at hl 3 rfl) ?_
  exact bX19_get_102 hst F hA E hK22 x0 x1 x2 x4 x3 hx0 hx1 hr (lv_sub hl [0, 1, 2, 4] rfl) h
def fX19_get_317 (N : Nat)  (x0 : Nat) (x1 : Nat) (x2 : Int32) (x3 : Int32) (x4 : Option Nat) (z : St) : Option (Int32 × St) := zd x4 fun a1 => zc (fX17_isWhole N a1 z) fun r2 z3 => if r2 = 0 then (some (0, z3)) else (zc (fX19_endPieces N x1 x3 z3) fun _ z8 => zl (zsI z8 12 8 x1 ((zgI z8 12 8 x1) + (1 : Int32))) fun z11 => zc (fX19_handle N x0 x1 x2 z11) fun _ z13 => some (0, z13))
set_option maxHeartbeats 4000000 in
set_option maxRecDepth 100000 in
theorem bX19_get_317 (hst : zSt B ids) (F : zFx p m c cX19_get 7 s args RX19 D cy B ids A) (hA : ∀ q : Nat, s.heap.size ≤ q → A q) {r : Int32} {z' : St} (E : zEnd p l e rmX19_get s m args below meth c cX19_get D cy B ids A Q none z' .return_ True) {N : Nat}  (x0 : Nat) (x1 : Nat) (x2 : Int32) (x3 : Int32) (x4 : Option Nat) (hx0 : (19, x0) ∈ ids) (hx1 : (12, x1) ∈ ids) (hx4 : ∀ t, x4 = some t → (17, t) ∈ ids) {z : St} {H : Heap} {locs : List Loc} {ls : Array Slot} (hr : zRep D cy B ids A s.heap z H locs) (hl : lv_has ls 7 [(0, .ref (B 19 x0)), (1, .ref (B 12 x1)), (2, .int x2), (3, .int x3), (4, va_rf (Option.map (B 17) x4))]) (h : fX19_get_317 N x0 x1 x2 x3 x4 z = some (r, z')) : W p l e rmX19_get s m args below meth c H locs 0 0 Q (F0 m 317 ls []) := by
  unfold fX19_get_317 at h
  refine zr_aload F.1 F.2.1 dX19_get_317 (lv_at hl 4 rfl) ?_
  replace h := zd_some h
  obtain ⟨a1, rfl, h⟩ := h
  replace h := zc_some h
  obtain ⟨r2, z3, hc4, h⟩ := h
  refine zr_calli (zrun_VN (As := []) (rest := []) zn_2844 zq_2846 zs_X17_isWhole zq_2847 zq_18 hdX17_isWhole (by decide) (T := TX17) (N := 7) rfl (okX17_isWhole l D cy B ids hst N a1 (hx4 _ rfl) hr.2.2 hc4) F hr (hx4 _ rfl) hl.1 rfl (by decide) dX19_get_319 rfl rfl hroX19_get_X17_isWhole ⟨Nat.zero_le _, Nat.zero_le _⟩) F hA hr (fun H locs hw5 hr => ?_)
  clear hc4
  refine lv_if_eq (tgt := 346) F.1 F.2.1 dX19_get_322 (by decide) (fun c6 => ?_) (fun c6 => ?_)
  · replace h := zi_t c6 h
    obtain ⟨rfl, rfl⟩ := zret h
    exact E _ _ _ _ dX19_get_346 trivial hr
  · replace h := zi_f c6 h
    refine lv_aload_n F.1 F.2.1 dX19_get_325 rfl (lv_at hl 1 rfl) ?_
    refine lv_iload_n F.1 F.2.1 dX19_get_326 rfl (lv_at hl 3 rfl) ?_
    replace h := zc_some h
    obtain ⟨r7, z8, hc9, h⟩ := h
    refine zr_callv (zrun_S (As := [.ref (B 12 x1), .int x3]) (rest := []) zq_2841 zq_2842 zq_2843 zq_4 hdX19_endPieces (okX19_endPieces l D cy B ids hst N x1 hx1 x3  hr.2.2 hc9) F hr hl.1 rfl (by decide) dX19_get_327 rfl rfl hroX19_get_X19_endPieces ⟨Nat.zero_le _, Nat.zero_le _⟩) F hA hr (fun H locs hw10 hr => ?_)
    clear hc9
    refine lv_aload_n F.1 F.2.1 dX19_get_330 rfl (lv_at hl 1 rfl) ?_
    refine lv_dup F.1 F.2.1 dX19_get_331 rfl ?_
    refine gf19_427 F hx1 hr dX19_get_332 ?_
    refine lv_iconst (v := (1 : Int32)) F.1 F.2.1 dX19_get_335 (by decide) ?_
    refine lv_iadd F.1 F.2.1 dX19_get_336 ?_
    refine pf19_427 F hx1 hr dX19_get_337 ((zgI z8 12 8 x1) + (1 : Int32)) (fun H locs z11 ez11 hr => ?_)
    replace h := zl_sub ez11 h
    clear ez11
    refine lv_aload_n F.1 F.2.1 dX19_get_340 rfl (lv_at hl 0 rfl) ?_
    refine lv_aload_n F.1 F.2.1 dX19_get_341 rfl (lv_at hl 1 rfl) ?_
    refine lv_iload_n F.1 F.2.1 dX19_get_342 rfl (lv_at hl 2 rfl) ?_
    replace h := zc_some h
    obtain ⟨r12, z13, hc14, h⟩ := h
    refine zr_callv (zrun_V (As := [.ref (B 12 x1), .int x2]) (rest := []) zq_2635 zq_2637 zs_X19_handle zq_2638 zq_4 hdX19_handle (by decide) (T := TX19) (N := 32) rfl (okX19_handle l D cy B ids hst N x0 hx0 x1 hx1 x2  hr.2.2 hc14) F hr hx0 hl.1 rfl (by decide) dX19_get_343 rfl rfl hroX19_get_X19_handle ⟨Nat.zero_le _, Nat.zero_le _⟩) F hA hr (fun H locs hw15 hr => ?_)
    clear hc14
    obtain ⟨rfl, rfl⟩ := zret h
    exact E _ _ _ _ dX19_get_346 trivial hr
def fX19_get_275b (N : Nat) (K275 : Nat → Nat → Int32 → Int32 → Option Nat → Int32 → Int32 → St → Option (Int32 × St)) (x0 : Nat) (x1 : Nat) (x2 : Int32) (x3 : Int32) (x4 : Option Nat) (x5 : Int32) (x6 : Int32) (z : St) : Option (Int32 × St) := if x5 ≤ ((8 : Int32) * x6) then (zc (fX19_of N x0 x2 (7 : Int32) z) fun r2 z3 => if ¬ r2 = 0 then (fX19_get_317 N x0 x1 x2 x3 x4 z3) else (zd x4 fun a7 => zl (zsI z3 17 5 a7 x5) fun z8 => fX19_get_317 N x0 x1 x2 x3 (some a7) z8)) else (zd x4 fun a9 => zk x6 192 <| zl (zsA z 166 a9 (Int32.toNatClampNeg x6) (vp_nar .boolean (1 : Int32))) fun z11 => zl (x6 + 1) fun v12 => K275 x0 x1 x2 x3 (some a9) x5 v12 z11)
def fX19_get_275 (N : Nat)  : Nat → Nat → Nat → Int32 → Int32 → Option Nat → Int32 → Int32 → St → Option (Int32 × St)
  | 0 => fun _ _ _ _ _ _ _ _ => none
  | n + 1 => fX19_get_275b N (fX19_get_275 N  n)
set_option maxHeartbeats 4000000 in
set_option maxRecDepth 100000 in
theorem bX19_get_275 (hst : zSt B ids) (F : zFx p m c cX19_get 7 s args RX19 D cy B ids A) (hA : ∀ q : Nat, s.heap.size ≤ q → A q) {r : Int32} {z' : St} (E : zEnd p l e rmX19_get s m args below meth c cX19_get D cy B ids A Q none z' .return_ True) {N : Nat} {K275 : Nat → Nat → Int32 → Int32 → Option Nat → Int32 → Int32 → St → Option (Int32 × St)} (hK275 : ∀ (x0 : Nat) (x1 : Nat) (x2 : Int32) (x3 : Int32) (x4 : Option Nat) (x5 : Int32) (x6 : Int32) (hx0 : (19, x0) ∈ ids) (hx1 : (12, x1) ∈ ids) (hx4 : ∀ t, x4 = some t → (17, t) ∈ ids) {z : St} {H : Heap} {locs : List Loc} {ls : Array Slot} (hr : zRep D cy B ids A s.heap z H locs) (hl : lv_has ls 7 [(0, .ref (B 19 x0)), (1, .ref (B 12 x1)), (2, .int x2), (3, .int x3), (4, va_rf (Option.map (B 17) x4)), (5, .int x5), (6, .int x6)]), K275 x0 x1 x2 x3 x4 x5 x6 z = some (r, z') → W p l e rmX19_get s m args below meth c H locs 0 0 Q (F0 m 275 ls [])) (x0 : Nat) (x1 : Nat) (x2 : Int32) (x3 : Int32) (x4 : Option Nat) (x5 : Int32) (x6 : Int32) (hx0 : (19, x0) ∈ ids) (hx1 : (12, x1) ∈ ids) (hx4 : ∀ t, x4 = some t → (17, t) ∈ ids) {z : St} {H : Heap} {locs : List Loc} {ls : Array Slot} (hr : zRep D cy B ids A s.heap z H locs) (hl : lv_has ls 7 [(0, .ref (B 19 x0)), (1, .ref (B 12 x1)), (2, .int x2), (3, .int x3), (4, va_rf (Option.map (B 17) x4)), (5, .int x5), (6, .int x6)]) (h : fX19_get_275b N K275 x0 x1 x2 x3 x4 x5 x6 z = some (r, z')) : W p l e rmX19_get s m args below meth c H locs 0 0 Q (F0 m 275 ls []) := by
  unfold fX19_get_275b at h
  refine lv_bipush (v := (8 : Int32)) F.1 F.2.1 dX19_get_275 (by decide) ?_
  refine lv_iload F.1 F.2.1 dX19_get_277 (lv_at hl 6 rfl) ?_
  refine lv_imul F.1 F.2.1 dX19_get_279 ?_
  refine lv_iload F.1 F.2.1 dX19_get_280 (lv_at hl 5 rfl) ?_
  refine lv_icmp_ge (tgt := 300) F.1 F.2.1 dX19_get_282 (by decide) (fun c1 => ?_) (fun c1 => ?_)
  · replace h := zi_t c1 h
    refine lv_aload_n F.1 F.2.1 dX19_get_300 rfl (lv_at hl 0 rfl) ?_
    refine lv_iload_n F.1 F.2.1 dX19_get_301 rfl (lv_at hl 2 rfl) ?_
    refine lv_bipush (v := (7 : Int32)) F.1 F.2.1 dX19_get_302 (by decide) ?_
    replace h := zc_some h
    obtain ⟨r2, z3, hc4, h⟩ := h
    refine zr_calli (zrun_V (As := [.int x2, .int (7 : Int32)]) (rest := []) zq_2549 zq_2551 zs_X19_of zq_2552 zq_4 hdX19_of (by decide) (T := TX19) (N := 32) rfl (okX19_of l D cy B ids hst N x0 hx0 x2  (7 : Int32)  hr.2.2 hc4) F hr hx0 hl.1 rfl (by decide) dX19_get_304 rfl rfl hroX19_get_X19_of ⟨Nat.zero_le _, Nat.zero_le _⟩) F hA hr (fun H locs hw5 hr => ?_)
    clear hc4
    refine lv_if_ne (tgt := 317) F.1 F.2.1 dX19_get_307 (by decide) (fun c6 => ?_) (fun c6 => ?_)
    · replace h := zi_t c6 h
      exact bX19_get_317 hst F hA E  x0 x1 x2 x3 x4 hx0 hx1 hx4 hr (lv_sub hl [0, 1, 2, 3, 4] rfl) h
    · replace h := zi_f (fun q => q c6) h
      refine zr_aload F.1 F.2.1 dX19_get_310 (lv_at hl 4 rfl) ?_
      refine lv_iload F.1 F.2.1 dX19_get_312 (lv_at hl 5 rfl) ?_
      replace h := zd_some h
      obtain ⟨a7, rfl, h⟩ := h
      refine pf19_417 F (hx4 _ rfl) hr dX19_get_314 x5 (fun H locs z8 ez8 hr => ?_)
      replace h := zl_sub ez8 h
      clear ez8
      exact bX19_get_317 hst F hA E  x0 x1 x2 x3 (some a7) hx0 hx1 (zal_s (hx4 _ rfl)) hr (lv_sub hl [0, 1, 2, 3, 4] rfl) h
  · replace h := zi_f c1 h
    refine zr_aload F.1 F.2.1 dX19_get_285 (lv_at hl 4 rfl) ?_
    replace h := zd_some h
    obtain ⟨a9, rfl, h⟩ := h
    refine gf19_420 F (hx4 _ rfl) hr dX19_get_287 ?_
    refine lv_iload F.1 F.2.1 dX19_get_290 (lv_at hl 6 rfl) ?_
    refine lv_iconst (v := (1 : Int32)) F.1 F.2.1 dX19_get_292 (by decide) ?_
    replace h := zk_some h
    obtain ⟨c10, h⟩ := h
    refine zr_zast (k := 166) (by decide) rfl (by decide) F (zal_a F (hx4 _ rfl) (j := 6) rfl) hr dX19_get_293 c10 (fun H locs z11 ez11 hr => ?_)
    replace h := zl_sub ez11 h
    clear ez11
    obtain ⟨v12, ev12⟩ : ∃ y : Int32, y = (x6 + 1) := ⟨_, rfl⟩
    replace h := zl_sub ev12 h
    refine lv_iinc (v := v12) (lv' := [(6, .int v12), (0, .ref (B 19 x0)), (1, .ref (B 12 x1)), (2, .int x2), (3, .int x3), (4, .ref (B 17 a9)), (5, .int x5)]) F.1 F.2.1 dX19_get_294 hl (k := 6) rfl (by rw [ev12]; rfl) (by decide) rfl (fun ls hl => ?_)
    refine lv_goto (tgt := 275) F.1 F.2.1 dX19_get_297 (by decide) ?_
    exact hK275 x0 x1 x2 x3 (some a9) x5 v12 hx0 hx1 (zal_s (hx4 _ rfl)) hr (lv_sub hl [1, 2, 3, 4, 5, 6, 0] rfl) h
theorem lX19_get_275 (hst : zSt B ids) (F : zFx p m c cX19_get 7 s args RX19 D cy B ids A) (hA : ∀ q : Nat, s.heap.size ≤ q → A q) {r : Int32} {z' : St} (E : zEnd p l e rmX19_get s m args below meth c cX19_get D cy B ids A Q none z' .return_ True) {N : Nat}  : ∀ (n : Nat) (x0 : Nat) (x1 : Nat) (x2 : Int32) (x3 : Int32) (x4 : Option Nat) (x5 : Int32) (x6 : Int32) (hx0 : (19, x0) ∈ ids) (hx1 : (12, x1) ∈ ids) (hx4 : ∀ t, x4 = some t → (17, t) ∈ ids) {z : St} {H : Heap} {locs : List Loc} {ls : Array Slot} (hr : zRep D cy B ids A s.heap z H locs) (hl : lv_has ls 7 [(0, .ref (B 19 x0)), (1, .ref (B 12 x1)), (2, .int x2), (3, .int x3), (4, va_rf (Option.map (B 17) x4)), (5, .int x5), (6, .int x6)]), fX19_get_275 N  n x0 x1 x2 x3 x4 x5 x6 z = some (r, z') → W p l e rmX19_get s m args below meth c H locs 0 0 Q (F0 m 275 ls []) := by
  intro n
  induction n with
  | zero => intro x0 x1 x2 x3 x4 x5 x6 hx0 hx1 hx4 z H locs ls hr hl h; cases h
  | succ n ih => intro x0 x1 x2 x3 x4 x5 x6 hx0 hx1 hx4 z H locs ls hr hl h; exact bX19_get_275 hst F hA E ih x0 x1 x2 x3 x4 x5 x6 hx0 hx1 hx4 hr hl h
def fX19_get_239 (N : Nat)  (x0 : Nat) (x1 : Nat) (x2 : Int32) (x3 : Int32) (z : St) : Option (Int32 × St) := zk x3 4 <| zl (zgQ z 148 x1 (Int32.toNatClampNeg x3)) fun y2 => zc (fX19_of N x0 x2 (6 : Int32) z) fun r3 z4 => zc (fX19_of N x0 x2 (5 : Int32) z4) fun r7 z8 => zl (r3 + r7) fun v11 => zc (fX19_of N x0 x2 (6 : Int32) z8) fun r12 z13 => zl (r12 / (8 : Int32)) fun v16 => fX19_get_275 N N x0 x1 x2 x3 y2 v11 v16 z13
set_option maxHeartbeats 4000000 in
set_option maxRecDepth 100000 in
theorem bX19_get_239 (hst : zSt B ids) (F : zFx p m c cX19_get 7 s args RX19 D cy B ids A) (hA : ∀ q : Nat, s.heap.size ≤ q → A q) {r : Int32} {z' : St} (E : zEnd p l e rmX19_get s m args below meth c cX19_get D cy B ids A Q none z' .return_ True) {N : Nat}  (x0 : Nat) (x1 : Nat) (x2 : Int32) (x3 : Int32) (hx0 : (19, x0) ∈ ids) (hx1 : (12, x1) ∈ ids) {z : St} {H : Heap} {locs : List Loc} {ls : Array Slot} (hr : zRep D cy B ids A s.heap z H locs) (hl : lv_has ls 7 [(0, .ref (B 19 x0)), (1, .ref (B 12 x1)), (2, .int x2), (3, .int x3)]) (h : fX19_get_239 N x0 x1 x2 x3 z = some (r, z')) : W p l e rmX19_get s m args below meth c H locs 0 0 Q (F0 m 239 ls []) := by
  unfold fX19_get_239 at h
  refine lv_aload_n F.1 F.2.1 dX19_get_239 rfl (lv_at hl 1 rfl) ?_
  refine gf19_395 F hx1 hr dX19_get_240 ?_
  refine lv_iload_n F.1 F.2.1 dX19_get_243 rfl (lv_at hl 3 rfl) ?_
  replace h := zk_some h
  obtain ⟨c1, h⟩ := h
  refine zr_aaldv (k := 148) (by decide) rfl rfl (zlen_d (by decide)) F (zal_a F hx1 (j := 10) rfl) hr dX19_get_244 c1 (fun y2 ey2 => ?_)
  replace h := zl_sub ey2 h
  have hy2 := zal_q hr (zal_a F hx1 (j := 10) rfl) rfl ey2
  clear ey2
  refine zr_astore (lv' := [(4, va_rf (Option.map (B 17) y2)), (0, .ref (B 19 x0)), (1, .ref (B 12 x1)), (2, .int x2), (3, .int x3)]) F.1 F.2.1 dX19_get_245 hl (by decide) rfl (fun ls hl => ?_)
  refine lv_aload_n F.1 F.2.1 dX19_get_247 rfl (lv_at hl 1 rfl) ?_
  refine lv_iload_n F.1 F.2.1 dX19_get_248 rfl (lv_at hl 3 rfl) ?_
  refine lv_bipush (v := (6 : Int32)) F.1 F.2.1 dX19_get_249 (by decide) ?_
  replace h := zc_some h
  obtain ⟨r3, z4, hc5, h⟩ := h
  refine zr_calli (zrun_V (As := [.int x2, .int (6 : Int32)]) (rest := []) zq_2549 zq_2551 zs_X19_of zq_2552 zq_4 hdX19_of (by decide) (T := TX19) (N := 32) rfl (okX19_of l D cy B ids hst N x0 hx0 x2  (6 : Int32)  hr.2.2 hc5) F hr hx0 hl.1 rfl (by decide) dX19_get_251 rfl rfl hroX19_get_X19_of ⟨Nat.zero_le _, Nat.zero_le _⟩) F hA hr (fun H locs hw6 hr => ?_)
  clear hc5
  refine lv_aload_n F.1 F.2.1 dX19_get_254 rfl (lv_at hl 1 rfl) ?_
  refine lv_iload_n F.1 F.2.1 dX19_get_255 rfl (lv_at hl 3 rfl) ?_
  refine lv_iconst (v := (5 : Int32)) F.1 F.2.1 dX19_get_256 (by decide) ?_
  replace h := zc_some h
  obtain ⟨r7, z8, hc9, h⟩ := h
  refine zr_calli (zrun_V (As := [.int x2, .int (5 : Int32)]) (rest := [.int r3]) zq_2549 zq_2551 zs_X19_of zq_2552 zq_4 hdX19_of (by decide) (T := TX19) (N := 32) rfl (okX19_of l D cy B ids hst N x0 hx0 x2  (5 : Int32)  hr.2.2 hc9) F hr hx0 hl.1 rfl (Nat.le_of_ble_eq_true rfl) dX19_get_257 rfl rfl hroX19_get_X19_of ⟨Nat.zero_le _, Nat.zero_le _⟩) F hA hr (fun H locs hw10 hr => ?_)
  clear hc9
  refine lv_iadd F.1 F.2.1 dX19_get_260 ?_
  refine lv_topi (fun v11 ev11 => ?_)
  replace h := zl_sub ev11 h
  refine lv_istore (lv' := [(5, .int v11), (4, va_rf (Option.map (B 17) y2)), (0, .ref (B 19 x0)), (1, .ref (B 12 x1)), (2, .int x2), (3, .int x3)]) F.1 F.2.1 dX19_get_261 hl (by decide) (by simp only [List.filter, zrf_cat]; rfl) (fun ls hl => ?_)
  refine lv_aload_n F.1 F.2.1 dX19_get_263 rfl (lv_at hl 2 rfl) ?_
  refine lv_iload_n F.1 F.2.1 dX19_get_264 rfl (lv_at hl 4 rfl) ?_
  refine lv_bipush (v := (6 : Int32)) F.1 F.2.1 dX19_get_265 (by decide) ?_
  replace h := zc_some h
  obtain ⟨r12, z13, hc14, h⟩ := h
  refine zr_calli (zrun_V (As := [.int x2, .int (6 : Int32)]) (rest := []) zq_2549 zq_2551 zs_X19_of zq_2552 zq_4 hdX19_of (by decide) (T := TX19) (N := 32) rfl (okX19_of l D cy B ids hst N x0 hx0 x2  (6 : Int32)  hr.2.2 hc14) F hr hx0 hl.1 rfl (by decide) dX19_get_267 rfl rfl hroX19_get_X19_of ⟨Nat.zero_le _, Nat.zero_le _⟩) F hA hr (fun H locs hw15 hr => ?_)
  clear hc14
  refine lv_bipush (v := (8 : Int32)) F.1 F.2.1 dX19_get_270 (by decide) ?_
  refine lv_idiv F.1 F.2.1 dX19_get_272 (by decide) ?_
  refine lv_topi (fun v16 ev16 => ?_)
  replace h := zl_sub ev16 h
  refine lv_istore (lv' := [(6, .int v16), (5, .int v11), (4, va_rf (Option.map (B 17) y2)), (0, .ref (B 19 x0)), (1, .ref (B 12 x1)), (2, .int x2), (3, .int x3)]) F.1 F.2.1 dX19_get_273 hl (by decide) rfl (fun ls hl => ?_)
  exact lX19_get_275 hst F hA E  _ x0 x1 x2 x3 y2 v11 v16 hx0 hx1 hy2 hr (lv_sub hl [3, 4, 5, 6, 2, 1, 0] rfl) h
def fX19_get_216b (N : Nat) (K216 : Nat → Nat → Int32 → Int32 → Nat → Int32 → St → Option (Int32 × St)) (x0 : Nat) (x1 : Nat) (x2 : Int32) (x3 : Int32) (x4 : Nat) (x5 : Int32) (z : St) : Option (Int32 × St) := if (192 : Int32) ≤ x5 then (fX19_get_239 N x0 x1 x2 x3 z) else (zk x5 192 <| zl (zsA z 166 x4 (Int32.toNatClampNeg x5) (vp_nar .boolean (0 : Int32))) fun z3 => zl (x5 + 1) fun v4 => K216 x0 x1 x2 x3 x4 v4 z3)
def fX19_get_216 (N : Nat)  : Nat → Nat → Nat → Int32 → Int32 → Nat → Int32 → St → Option (Int32 × St)
  | 0 => fun _ _ _ _ _ _ _ => none
  | n + 1 => fX19_get_216b N (fX19_get_216 N  n)
set_option maxHeartbeats 4000000 in
set_option maxRecDepth 100000 in
theorem bX19_get_216 (hst : zSt B ids) (F : zFx p m c cX19_get 7 s args RX19 D cy B ids A) (hA : ∀ q : Nat, s.heap.size ≤ q → A q) {r : Int32} {z' : St} (E : zEnd p l e rmX19_get s m args below meth c cX19_get D cy B ids A Q none z' .return_ True) {N : Nat} {K216 : Nat → Nat → Int32 → Int32 → Nat → Int32 → St → Option (Int32 × St)} (hK216 : ∀ (x0 : Nat) (x1 : Nat) (x2 : Int32) (x3 : Int32) (x4 : Nat) (x5 : Int32) (hx0 : (19, x0) ∈ ids) (hx1 : (12, x1) ∈ ids) (hx4 : (17, x4) ∈ ids) {z : St} {H : Heap} {locs : List Loc} {ls : Array Slot} (hr : zRep D cy B ids A s.heap z H locs) (hl : lv_has ls 7 [(0, .ref (B 19 x0)), (1, .ref (B 12 x1)), (2, .int x2), (3, .int x3), (4, .ref (B 17 x4)), (5, .int x5)]), K216 x0 x1 x2 x3 x4 x5 z = some (r, z') → W p l e rmX19_get s m args below meth c H locs 0 0 Q (F0 m 216 ls [])) (x0 : Nat) (x1 : Nat) (x2 : Int32) (x3 : Int32) (x4 : Nat) (x5 : Int32) (hx0 : (19, x0) ∈ ids) (hx1 : (12, x1) ∈ ids) (hx4 : (17, x4) ∈ ids) {z : St} {H : Heap} {locs : List Loc} {ls : Array Slot} (hr : zRep D cy B ids A s.heap z H locs) (hl : lv_has ls 7 [(0, .ref (B 19 x0)), (1, .ref (B 12 x1)), (2, .int x2), (3, .int x3), (4, .ref (B 17 x4)), (5, .int x5)]) (h : fX19_get_216b N K216 x0 x1 x2 x3 x4 x5 z = some (r, z')) : W p l e rmX19_get s m args below meth c H locs 0 0 Q (F0 m 216 ls []) := by
  unfold fX19_get_216b at h
  refine lv_iload F.1 F.2.1 dX19_get_216 (lv_at hl 5 rfl) ?_
  refine lv_sipush (v := (192 : Int32)) F.1 F.2.1 dX19_get_218 (by decide) ?_
  refine lv_icmp_ge (tgt := 239) F.1 F.2.1 dX19_get_221 (by decide) (fun c1 => ?_) (fun c1 => ?_)
  · replace h := zi_t c1 h
    exact bX19_get_239 hst F hA E  x0 x1 x2 x3 hx0 hx1 hr (lv_sub hl [0, 1, 2, 3] rfl) h
  · replace h := zi_f c1 h
    refine lv_aload F.1 F.2.1 dX19_get_224 (lv_at hl 4 rfl) ?_
    refine gf19_420 F hx4 hr dX19_get_226 ?_
    refine lv_iload F.1 F.2.1 dX19_get_229 (lv_at hl 5 rfl) ?_
    refine lv_iconst (v := (0 : Int32)) F.1 F.2.1 dX19_get_231 (by decide) ?_
    replace h := zk_some h
    obtain ⟨c2, h⟩ := h
    refine zr_zast (k := 166) (by decide) rfl (by decide) F (zal_a F hx4 (j := 6) rfl) hr dX19_get_232 c2 (fun H locs z3 ez3 hr => ?_)
    replace h := zl_sub ez3 h
    clear ez3
    obtain ⟨v4, ev4⟩ : ∃ y : Int32, y = (x5 + 1) := ⟨_, rfl⟩
    replace h := zl_sub ev4 h
    refine lv_iinc (v := v4) (lv' := [(5, .int v4), (0, .ref (B 19 x0)), (1, .ref (B 12 x1)), (2, .int x2), (3, .int x3), (4, .ref (B 17 x4))]) F.1 F.2.1 dX19_get_233 hl (k := 5) rfl (by rw [ev4]; rfl) (by decide) rfl (fun ls hl => ?_)
    refine lv_goto (tgt := 216) F.1 F.2.1 dX19_get_236 (by decide) ?_
    exact hK216 x0 x1 x2 x3 x4 v4 hx0 hx1 hx4 hr (lv_sub hl [1, 2, 3, 4, 5, 0] rfl) h
theorem lX19_get_216 (hst : zSt B ids) (F : zFx p m c cX19_get 7 s args RX19 D cy B ids A) (hA : ∀ q : Nat, s.heap.size ≤ q → A q) {r : Int32} {z' : St} (E : zEnd p l e rmX19_get s m args below meth c cX19_get D cy B ids A Q none z' .return_ True) {N : Nat}  : ∀ (n : Nat) (x0 : Nat) (x1 : Nat) (x2 : Int32) (x3 : Int32) (x4 : Nat) (x5 : Int32) (hx0 : (19, x0) ∈ ids) (hx1 : (12, x1) ∈ ids) (hx4 : (17, x4) ∈ ids) {z : St} {H : Heap} {locs : List Loc} {ls : Array Slot} (hr : zRep D cy B ids A s.heap z H locs) (hl : lv_has ls 7 [(0, .ref (B 19 x0)), (1, .ref (B 12 x1)), (2, .int x2), (3, .int x3), (4, .ref (B 17 x4)), (5, .int x5)]), fX19_get_216 N  n x0 x1 x2 x3 x4 x5 z = some (r, z') → W p l e rmX19_get s m args below meth c H locs 0 0 Q (F0 m 216 ls []) := by
  intro n
  induction n with
  | zero => intro x0 x1 x2 x3 x4 x5 hx0 hx1 hx4 z H locs ls hr hl h; cases h
  | succ n ih => intro x0 x1 x2 x3 x4 x5 hx0 hx1 hx4 z H locs ls hr hl h; exact bX19_get_216 hst F hA E ih x0 x1 x2 x3 x4 x5 hx0 hx1 hx4 hr hl h
def fX19_get_131 (N : Nat)  (x0 : Nat) (x1 : Nat) (x2 : Int32) (z : St) : Option (Int32 × St) := zl (zgI z 12 11 x1) fun v1 => zl (zsI z 12 11 x1 ((zgI z 12 11 x1) + (1 : Int32))) fun z2 => zk v1 4 <| zl (zgQ z2 148 x1 (Int32.toNatClampNeg v1)) fun y4 => zc (fX19_of N x0 x2 (0 : Int32) z2) fun r5 z6 => zd y4 fun a9 => zl (zsI z6 17 0 a9 r5) fun z10 => zc (fX19_of N x0 x2 (1 : Int32) z10) fun r11 z12 => zl (zsI z12 17 1 a9 r11) fun z15 => zc (fX19_of N x0 x2 (2 : Int32) z15) fun r16 z17 => zl (zsI z17 17 2 a9 r16) fun z20 => zc (fX19_of N x0 x2 (3 : Int32) z20) fun r21 z22 => zl (zsI z22 17 3 a9 r21) fun z25 => zl (zsI z25 17 4 a9 (zgI z25 19 24 x0)) fun z26 => zl (zsI z26 17 5 a9 (-1 : Int32)) fun z27 => fX19_get_216 N N x0 x1 x2 v1 a9 (0 : Int32) z27
set_option maxHeartbeats 4000000 in
set_option maxRecDepth 100000 in
theorem bX19_get_131 (hst : zSt B ids) (F : zFx p m c cX19_get 7 s args RX19 D cy B ids A) (hA : ∀ q : Nat, s.heap.size ≤ q → A q) {r : Int32} {z' : St} (E : zEnd p l e rmX19_get s m args below meth c cX19_get D cy B ids A Q none z' .return_ True) {N : Nat}  (x0 : Nat) (x1 : Nat) (x2 : Int32) (hx0 : (19, x0) ∈ ids) (hx1 : (12, x1) ∈ ids) {z : St} {H : Heap} {locs : List Loc} {ls : Array Slot} (hr : zRep D cy B ids A s.heap z H locs) (hl : lv_has ls 7 [(0, .ref (B 19 x0)), (1, .ref (B 12 x1)), (2, .int x2)]) (h : fX19_get_131 N x0 x1 x2 z = some (r, z')) : W p l e rmX19_get s m args below meth c H locs 0 0 Q (F0 m 131 ls []) := by
  unfold fX19_get_131 at h
  refine lv_aload_n F.1 F.2.1 dX19_get_131 rfl (lv_at hl 1 rfl) ?_
  refine gf19_392 F hx1 hr dX19_get_132 ?_
  refine lv_topi (fun v1 ev1 => ?_)
  replace h := zl_sub ev1 h
  refine lv_istore_n (lv' := [(3, .int v1), (0, .ref (B 19 x0)), (1, .ref (B 12 x1)), (2, .int x2)]) F.1 F.2.1 dX19_get_135 rfl hl (by decide) rfl (fun ls hl => ?_)
  refine lv_aload_n F.1 F.2.1 dX19_get_136 rfl (lv_at hl 2 rfl) ?_
  refine lv_dup F.1 F.2.1 dX19_get_137 rfl ?_
  refine gf19_392 F hx1 hr dX19_get_138 ?_
  refine lv_iconst (v := (1 : Int32)) F.1 F.2.1 dX19_get_141 (by decide) ?_
  refine lv_iadd F.1 F.2.1 dX19_get_142 ?_
  refine pf19_392 F hx1 hr dX19_get_143 ((zgI z 12 11 x1) + (1 : Int32)) (fun H locs z2 ez2 hr => ?_)
  replace h := zl_sub ez2 h
  clear ez2
  refine lv_aload_n F.1 F.2.1 dX19_get_146 rfl (lv_at hl 2 rfl) ?_
  refine gf19_395 F hx1 hr dX19_get_147 ?_
  refine lv_iload_n F.1 F.2.1 dX19_get_150 rfl (lv_at hl 0 rfl) ?_
  replace h := zk_some h
  obtain ⟨c3, h⟩ := h
  refine zr_aaldv (k := 148) (by decide) rfl rfl (zlen_d (by decide)) F (zal_a F hx1 (j := 10) rfl) hr dX19_get_151 c3 (fun y4 ey4 => ?_)
  replace h := zl_sub ey4 h
  have hy4 := zal_q hr (zal_a F hx1 (j := 10) rfl) rfl ey4
  clear ey4
  refine zr_astore (lv' := [(4, va_rf (Option.map (B 17) y4)), (3, .int v1), (0, .ref (B 19 x0)), (1, .ref (B 12 x1)), (2, .int x2)]) F.1 F.2.1 dX19_get_152 hl (by decide) rfl (fun ls hl => ?_)
  refine zr_aload F.1 F.2.1 dX19_get_154 (lv_at hl 0 rfl) ?_
  refine lv_aload_n F.1 F.2.1 dX19_get_156 rfl (lv_at hl 2 rfl) ?_
  refine lv_iload_n F.1 F.2.1 dX19_get_157 rfl (lv_at hl 4 rfl) ?_
  refine lv_iconst (v := (0 : Int32)) F.1 F.2.1 dX19_get_158 (by decide) ?_
  replace h := zc_some h
  obtain ⟨r5, z6, hc7, h⟩ := h
  refine zr_calli (zrun_V (As := [.int x2, .int (0 : Int32)]) (rest := [va_rf (Option.map (B 17) y4)]) zq_2549 zq_2551 zs_X19_of zq_2552 zq_4 hdX19_of (by decide) (T := TX19) (N := 32) rfl (okX19_of l D cy B ids hst N x0 hx0 x2  (0 : Int32)  hr.2.2 hc7) F hr hx0 hl.1 rfl (by simp only [List.map, zrf_cat]; exact Nat.le_of_ble_eq_true rfl) dX19_get_159 rfl rfl hroX19_get_X19_of ⟨Nat.zero_le _, Nat.zero_le _⟩) F hA hr (fun H locs hw8 hr => ?_)
  clear hc7
  replace h := zd_some h
  obtain ⟨a9, rfl, h⟩ := h
  refine pf19_399 F (hy4 _ rfl) hr dX19_get_162 r5 (fun H locs z10 ez10 hr => ?_)
  replace h := zl_sub ez10 h
  clear ez10
  refine lv_aload F.1 F.2.1 dX19_get_165 (lv_at hl 0 rfl) ?_
  refine lv_aload_n F.1 F.2.1 dX19_get_167 rfl (lv_at hl 2 rfl) ?_
  refine lv_iload_n F.1 F.2.1 dX19_get_168 rfl (lv_at hl 4 rfl) ?_
  refine lv_iconst (v := (1 : Int32)) F.1 F.2.1 dX19_get_169 (by decide) ?_
  replace h := zc_some h
  obtain ⟨r11, z12, hc13, h⟩ := h
  refine zr_calli (zrun_V (As := [.int x2, .int (1 : Int32)]) (rest := [.ref (B 17 a9)]) zq_2549 zq_2551 zs_X19_of zq_2552 zq_4 hdX19_of (by decide) (T := TX19) (N := 32) rfl (okX19_of l D cy B ids hst N x0 hx0 x2  (1 : Int32)  hr.2.2 hc13) F hr hx0 hl.1 rfl (Nat.le_of_ble_eq_true rfl) dX19_get_170 rfl rfl hroX19_get_X19_of ⟨Nat.zero_le _, Nat.zero_le _⟩) F hA hr (fun H locs hw14 hr => ?_)
  clear hc13
  refine pf19_404 F (hy4 _ rfl) hr dX19_get_173 r11 (fun H locs z15 ez15 hr => ?_)
  replace h := zl_sub ez15 h
  clear ez15
  refine lv_aload F.1 F.2.1 dX19_get_176 (lv_at hl 0 rfl) ?_
  refine lv_aload_n F.1 F.2.1 dX19_get_178 rfl (lv_at hl 2 rfl) ?_
  refine lv_iload_n F.1 F.2.1 dX19_get_179 rfl (lv_at hl 4 rfl) ?_
  refine lv_iconst (v := (2 : Int32)) F.1 F.2.1 dX19_get_180 (by decide) ?_
  replace h := zc_some h
  obtain ⟨r16, z17, hc18, h⟩ := h
  refine zr_calli (zrun_V (As := [.int x2, .int (2 : Int32)]) (rest := [.ref (B 17 a9)]) zq_2549 zq_2551 zs_X19_of zq_2552 zq_4 hdX19_of (by decide) (T := TX19) (N := 32) rfl (okX19_of l D cy B ids hst N x0 hx0 x2  (2 : Int32)  hr.2.2 hc18) F hr hx0 hl.1 rfl (Nat.le_of_ble_eq_true rfl) dX19_get_181 rfl rfl hroX19_get_X19_of ⟨Nat.zero_le _, Nat.zero_le _⟩) F hA hr (fun H locs hw19 hr => ?_)
  clear hc18
  refine pf19_407 F (hy4 _ rfl) hr dX19_get_184 r16 (fun H locs z20 ez20 hr => ?_)
  replace h := zl_sub ez20 h
  clear ez20
  refine lv_aload F.1 F.2.1 dX19_get_187 (lv_at hl 0 rfl) ?_
  refine lv_aload_n F.1 F.2.1 dX19_get_189 rfl (lv_at hl 2 rfl) ?_
  refine lv_iload_n F.1 F.2.1 dX19_get_190 rfl (lv_at hl 4 rfl) ?_
  refine lv_iconst (v := (3 : Int32)) F.1 F.2.1 dX19_get_191 (by decide) ?_
  replace h := zc_some h
  obtain ⟨r21, z22, hc23, h⟩ := h
  refine zr_calli (zrun_V (As := [.int x2, .int (3 : Int32)]) (rest := [.ref (B 17 a9)]) zq_2549 zq_2551 zs_X19_of zq_2552 zq_4 hdX19_of (by decide) (T := TX19) (N := 32) rfl (okX19_of l D cy B ids hst N x0 hx0 x2  (3 : Int32)  hr.2.2 hc23) F hr hx0 hl.1 rfl (Nat.le_of_ble_eq_true rfl) dX19_get_192 rfl rfl hroX19_get_X19_of ⟨Nat.zero_le _, Nat.zero_le _⟩) F hA hr (fun H locs hw24 hr => ?_)
  clear hc23
  refine pf19_410 F (hy4 _ rfl) hr dX19_get_195 r21 (fun H locs z25 ez25 hr => ?_)
  replace h := zl_sub ez25 h
  clear ez25
  refine lv_aload F.1 F.2.1 dX19_get_198 (lv_at hl 0 rfl) ?_
  refine lv_aload_n F.1 F.2.1 dX19_get_200 rfl (lv_at hl 2 rfl) ?_
  refine gf19_143 F hx0 hr dX19_get_201 ?_
  refine pf19_414 F (hy4 _ rfl) hr dX19_get_204 (zgI z25 19 24 x0) (fun H locs z26 ez26 hr => ?_)
  replace h := zl_sub ez26 h
  clear ez26
  refine lv_aload F.1 F.2.1 dX19_get_207 (lv_at hl 0 rfl) ?_
  refine lv_iconst (v := (-1 : Int32)) F.1 F.2.1 dX19_get_209 (by decide) ?_
  refine pf19_417 F (hy4 _ rfl) hr dX19_get_210 (-1 : Int32) (fun H locs z27 ez27 hr => ?_)
  replace h := zl_sub ez27 h
  clear ez27
  refine lv_iconst (v := (0 : Int32)) F.1 F.2.1 dX19_get_213 (by decide) ?_
  refine lv_istore (lv' := [(5, .int (0 : Int32)), (4, .ref (B 17 a9)), (3, .int v1), (0, .ref (B 19 x0)), (1, .ref (B 12 x1)), (2, .int x2)]) F.1 F.2.1 dX19_get_214 hl (by decide) rfl (fun ls hl => ?_)
  exact lX19_get_216 hst F hA E  _ x0 x1 x2 v1 a9 (0 : Int32) hx0 hx1 (hy4 _ rfl) hr (lv_sub hl [3, 4, 5, 2, 1, 0] rfl) h
def fX19_get_22b (N : Nat) (K22 : Nat → Nat → Int32 → Int32 → Int32 → St → Option (Int32 × St)) (x0 : Nat) (x1 : Nat) (x2 : Int32) (x3 : Int32) (x4 : Int32) (z : St) : Option (Int32 × St) := if (zgI z 12 11 x1) ≤ x4 then (if ¬ x3 = (-1 : Int32) then (fX19_get_239 N x0 x1 x2 x3 z) else (if ¬ (zgI z 12 11 x1) = (4 : Int32) then (fX19_get_131 N x0 x1 x2 z) else (zc (fX19_endPieces N x1 (0 : Int32) z) fun _ z5 => zc (fX19_stir N x0 z5) fun _ z9 => fX19_get_131 N x0 x1 x2 z9))) else (zk x4 4 <| zl (zgQ z 148 x1 (Int32.toNatClampNeg x4)) fun y13 => zd y13 fun a14 => zc (fX19_of N x0 x2 (0 : Int32) z) fun r15 z16 => if ¬ (zgI z 17 0 a14) = r15 then (fX19_get_101 N K22 x0 x1 x2 x3 x4 z16) else (zc (fX19_of N x0 x2 (1 : Int32) z16) fun r20 z21 => if ¬ (zgI z16 17 1 a14) = r20 then (fX19_get_101 N K22 x0 x1 x2 x3 x4 z21) else (zc (fX19_of N x0 x2 (2 : Int32) z21) fun r25 z26 => if ¬ (zgI z21 17 2 a14) = r25 then (fX19_get_101 N K22 x0 x1 x2 x3 x4 z26) else (zc (fX19_of N x0 x2 (3 : Int32) z26) fun r30 z31 => if ¬ (zgI z26 17 3 a14) = r30 then (fX19_get_101 N K22 x0 x1 x2 x3 x4 z31) else (fX19_get_102 N K22 x0 x1 x2 x4 x4 z31)))))
def fX19_get_22 (N : Nat)  : Nat → Nat → Nat → Int32 → Int32 → Int32 → St → Option (Int32 × St)
  | 0 => fun _ _ _ _ _ _ => none
  | n + 1 => fX19_get_22b N (fX19_get_22 N  n)
set_option maxHeartbeats 4000000 in
set_option maxRecDepth 100000 in
theorem bX19_get_22 (hst : zSt B ids) (F : zFx p m c cX19_get 7 s args RX19 D cy B ids A) (hA : ∀ q : Nat, s.heap.size ≤ q → A q) {r : Int32} {z' : St} (E : zEnd p l e rmX19_get s m args below meth c cX19_get D cy B ids A Q none z' .return_ True) {N : Nat} {K22 : Nat → Nat → Int32 → Int32 → Int32 → St → Option (Int32 × St)} (hK22 : ∀ (x0 : Nat) (x1 : Nat) (x2 : Int32) (x3 : Int32) (x4 : Int32) (hx0 : (19, x0) ∈ ids) (hx1 : (12, x1) ∈ ids) {z : St} {H : Heap} {locs : List Loc} {ls : Array Slot} (hr : zRep D cy B ids A s.heap z H locs) (hl : lv_has ls 7 [(0, .ref (B 19 x0)), (1, .ref (B 12 x1)), (2, .int x2), (3, .int x3), (4, .int x4)]), K22 x0 x1 x2 x3 x4 z = some (r, z') → W p l e rmX19_get s m args below meth c H locs 0 0 Q (F0 m 22 ls [])) (x0 : Nat) (x1 : Nat) (x2 : Int32) (x3 : Int32) (x4 : Int32) (hx0 : (19, x0) ∈ ids) (hx1 : (12, x1) ∈ ids) {z : St} {H : Heap} {locs : List Loc} {ls : Array Slot} (hr : zRep D cy B ids A s.heap z H locs) (hl : lv_has ls 7 [(0, .ref (B 19 x0)), (1, .ref (B 12 x1)), (2, .int x2), (3, .int x3), (4, .int x4)]) (h : fX19_get_22b N K22 x0 x1 x2 x3 x4 z = some (r, z')) : W p l e rmX19_get s m args below meth c H locs 0 0 Q (F0 m 22 ls []) := by
  unfold fX19_get_22b at h
  refine lv_iload F.1 F.2.1 dX19_get_22 (lv_at hl 4 rfl) ?_
  refine lv_aload_n F.1 F.2.1 dX19_get_24 rfl (lv_at hl 1 rfl) ?_
  refine gf19_392 F hx1 hr dX19_get_25 ?_
  refine lv_icmp_ge (tgt := 109) F.1 F.2.1 dX19_get_28 (by decide) (fun c1 => ?_) (fun c1 => ?_)
  · replace h := zi_t c1 h
    refine lv_iload_n F.1 F.2.1 dX19_get_109 rfl (lv_at hl 3 rfl) ?_
    refine lv_iconst (v := (-1 : Int32)) F.1 F.2.1 dX19_get_110 (by decide) ?_
    refine lv_icmp_ne (tgt := 239) F.1 F.2.1 dX19_get_111 (by decide) (fun c2 => ?_) (fun c2 => ?_)
    · replace h := zi_t c2 h
      exact bX19_get_239 hst F hA E  x0 x1 x2 x3 hx0 hx1 hr (lv_sub hl [0, 1, 2, 3] rfl) h
    · replace h := zi_f (fun q => q c2) h
      refine lv_aload_n F.1 F.2.1 dX19_get_114 rfl (lv_at hl 1 rfl) ?_
      refine gf19_392 F hx1 hr dX19_get_115 ?_
      refine lv_iconst (v := (4 : Int32)) F.1 F.2.1 dX19_get_118 (by decide) ?_
      refine lv_icmp_ne (tgt := 131) F.1 F.2.1 dX19_get_119 (by decide) (fun c3 => ?_) (fun c3 => ?_)
      · replace h := zi_t c3 h
        exact bX19_get_131 hst F hA E  x0 x1 x2 hx0 hx1 hr (lv_sub hl [0, 1, 2] rfl) h
      · replace h := zi_f (fun q => q c3) h
        refine lv_aload_n F.1 F.2.1 dX19_get_122 rfl (lv_at hl 1 rfl) ?_
        refine lv_iconst (v := (0 : Int32)) F.1 F.2.1 dX19_get_123 (by decide) ?_
        replace h := zc_some h
        obtain ⟨r4, z5, hc6, h⟩ := h
        refine zr_callv (zrun_S (As := [.ref (B 12 x1), .int (0 : Int32)]) (rest := []) zq_2841 zq_2842 zq_2843 zq_4 hdX19_endPieces (okX19_endPieces l D cy B ids hst N x1 hx1 (0 : Int32)  hr.2.2 hc6) F hr hl.1 rfl (by decide) dX19_get_124 rfl rfl hroX19_get_X19_endPieces ⟨Nat.zero_le _, Nat.zero_le _⟩) F hA hr (fun H locs hw7 hr => ?_)
        clear hc6
        refine lv_aload_n F.1 F.2.1 dX19_get_127 rfl (lv_at hl 0 rfl) ?_
        replace h := zc_some h
        obtain ⟨r8, z9, hc10, h⟩ := h
        refine zr_callv (zrun_V (As := []) (rest := []) zq_2394 zq_2396 zs_X19_stir zq_2397 zq_4 hdX19_stir (by decide) (T := TX19) (N := 32) rfl (okX19_stir l D cy B ids hst N x0 hx0 hr.2.2 hc10) F hr hx0 hl.1 rfl (by decide) dX19_get_128 rfl rfl hroX19_get_X19_stir ⟨Nat.zero_le _, Nat.zero_le _⟩) F hA hr (fun H locs hw11 hr => ?_)
        clear hc10
        exact bX19_get_131 hst F hA E  x0 x1 x2 hx0 hx1 hr (lv_sub hl [0, 1, 2] rfl) h
  · replace h := zi_f c1 h
    refine lv_aload_n F.1 F.2.1 dX19_get_31 rfl (lv_at hl 1 rfl) ?_
    refine gf19_395 F hx1 hr dX19_get_32 ?_
    refine lv_iload F.1 F.2.1 dX19_get_35 (lv_at hl 4 rfl) ?_
    replace h := zk_some h
    obtain ⟨c12, h⟩ := h
    refine zr_aaldv (k := 148) (by decide) rfl rfl (zlen_d (by decide)) F (zal_a F hx1 (j := 10) rfl) hr dX19_get_37 c12 (fun y13 ey13 => ?_)
    replace h := zl_sub ey13 h
    have hy13 := zal_q hr (zal_a F hx1 (j := 10) rfl) rfl ey13
    clear ey13
    refine zr_astore (lv' := [(5, va_rf (Option.map (B 17) y13)), (0, .ref (B 19 x0)), (1, .ref (B 12 x1)), (2, .int x2), (3, .int x3), (4, .int x4)]) F.1 F.2.1 dX19_get_38 hl (by decide) rfl (fun ls hl => ?_)
    refine zr_aload F.1 F.2.1 dX19_get_40 (lv_at hl 0 rfl) ?_
    replace h := zd_some h
    obtain ⟨a14, rfl, h⟩ := h
    refine gf19_399 F (hy13 _ rfl) hr dX19_get_42 ?_
    refine lv_aload_n F.1 F.2.1 dX19_get_45 rfl (lv_at hl 1 rfl) ?_
    refine lv_iload_n F.1 F.2.1 dX19_get_46 rfl (lv_at hl 3 rfl) ?_
    refine lv_iconst (v := (0 : Int32)) F.1 F.2.1 dX19_get_47 (by decide) ?_
    replace h := zc_some h
    obtain ⟨r15, z16, hc17, h⟩ := h
    refine zr_calli (zrun_V (As := [.int x2, .int (0 : Int32)]) (rest := [.int (zgI z 17 0 a14)]) zq_2549 zq_2551 zs_X19_of zq_2552 zq_4 hdX19_of (by decide) (T := TX19) (N := 32) rfl (okX19_of l D cy B ids hst N x0 hx0 x2  (0 : Int32)  hr.2.2 hc17) F hr hx0 hl.1 rfl (Nat.le_of_ble_eq_true rfl) dX19_get_48 rfl rfl hroX19_get_X19_of ⟨Nat.zero_le _, Nat.zero_le _⟩) F hA hr (fun H locs hw18 hr => ?_)
    clear hc17
    refine lv_icmp_ne (tgt := 101) F.1 F.2.1 dX19_get_51 (by decide) (fun c19 => ?_) (fun c19 => ?_)
    · replace h := zi_t c19 h
      exact bX19_get_101 hst F hA E hK22 x0 x1 x2 x3 x4 hx0 hx1 hr (lv_sub hl [1, 2, 3, 4, 5] rfl) h
    · replace h := zi_f (fun q => q c19) h
      refine lv_aload F.1 F.2.1 dX19_get_54 (lv_at hl 0 rfl) ?_
      refine gf19_404 F (hy13 _ rfl) hr dX19_get_56 ?_
      refine lv_aload_n F.1 F.2.1 dX19_get_59 rfl (lv_at hl 1 rfl) ?_
      refine lv_iload_n F.1 F.2.1 dX19_get_60 rfl (lv_at hl 3 rfl) ?_
      refine lv_iconst (v := (1 : Int32)) F.1 F.2.1 dX19_get_61 (by decide) ?_
      replace h := zc_some h
      obtain ⟨r20, z21, hc22, h⟩ := h
      refine zr_calli (zrun_V (As := [.int x2, .int (1 : Int32)]) (rest := [.int (zgI z16 17 1 a14)]) zq_2549 zq_2551 zs_X19_of zq_2552 zq_4 hdX19_of (by decide) (T := TX19) (N := 32) rfl (okX19_of l D cy B ids hst N x0 hx0 x2  (1 : Int32)  hr.2.2 hc22) F hr hx0 hl.1 rfl (Nat.le_of_ble_eq_true rfl) dX19_get_62 rfl rfl hroX19_get_X19_of ⟨Nat.zero_le _, Nat.zero_le _⟩) F hA hr (fun H locs hw23 hr => ?_)
      clear hc22
      refine lv_icmp_ne (tgt := 101) F.1 F.2.1 dX19_get_65 (by decide) (fun c24 => ?_) (fun c24 => ?_)
      · replace h := zi_t c24 h
        exact bX19_get_101 hst F hA E hK22 x0 x1 x2 x3 x4 hx0 hx1 hr (lv_sub hl [1, 2, 3, 4, 5] rfl) h
      · replace h := zi_f (fun q => q c24) h
        refine lv_aload F.1 F.2.1 dX19_get_68 (lv_at hl 0 rfl) ?_
        refine gf19_407 F (hy13 _ rfl) hr dX19_get_70 ?_
        refine lv_aload_n F.1 F.2.1 dX19_get_73 rfl (lv_at hl 1 rfl) ?_
        refine lv_iload_n F.1 F.2.1 dX19_get_74 rfl (lv_at hl 3 rfl) ?_
        refine lv_iconst (v := (2 : Int32)) F.1 F.2.1 dX19_get_75 (by decide) ?_
        replace h := zc_some h
        obtain ⟨r25, z26, hc27, h⟩ := h
        refine zr_calli (zrun_V (As := [.int x2, .int (2 : Int32)]) (rest := [.int (zgI z21 17 2 a14)]) zq_2549 zq_2551 zs_X19_of zq_2552 zq_4 hdX19_of (by decide) (T := TX19) (N := 32) rfl (okX19_of l D cy B ids hst N x0 hx0 x2  (2 : Int32)  hr.2.2 hc27) F hr hx0 hl.1 rfl (Nat.le_of_ble_eq_true rfl) dX19_get_76 rfl rfl hroX19_get_X19_of ⟨Nat.zero_le _, Nat.zero_le _⟩) F hA hr (fun H locs hw28 hr => ?_)
        clear hc27
        refine lv_icmp_ne (tgt := 101) F.1 F.2.1 dX19_get_79 (by decide) (fun c29 => ?_) (fun c29 => ?_)
        · replace h := zi_t c29 h
          exact bX19_get_101 hst F hA E hK22 x0 x1 x2 x3 x4 hx0 hx1 hr (lv_sub hl [1, 2, 3, 4, 5] rfl) h
        · replace h := zi_f (fun q => q c29) h
          refine lv_aload F.1 F.2.1 dX19_get_82 (lv_at hl 0 rfl) ?_
          refine gf19_410 F (hy13 _ rfl) hr dX19_get_84 ?_
          refine lv_aload_n F.1 F.2.1 dX19_get_87 rfl (lv_at hl 1 rfl) ?_
          refine lv_iload_n F.1 F.2.1 dX19_get_88 rfl (lv_at hl 3 rfl) ?_
          refine lv_iconst (v := (3 : Int32)) F.1 F.2.1 dX19_get_89 (by decide) ?_
          replace h := zc_some h
          obtain ⟨r30, z31, hc32, h⟩ := h
          refine zr_calli (zrun_V (As := [.int x2, .int (3 : Int32)]) (rest := [.int (zgI z26 17 3 a14)]) zq_2549 zq_2551 zs_X19_of zq_2552 zq_4 hdX19_of (by decide) (T := TX19) (N := 32) rfl (okX19_of l D cy B ids hst N x0 hx0 x2  (3 : Int32)  hr.2.2 hc32) F hr hx0 hl.1 rfl (Nat.le_of_ble_eq_true rfl) dX19_get_90 rfl rfl hroX19_get_X19_of ⟨Nat.zero_le _, Nat.zero_le _⟩) F hA hr (fun H locs hw33 hr => ?_)
          clear hc32
          refine lv_icmp_ne (tgt := 101) F.1 F.2.1 dX19_get_93 (by decide) (fun c34 => ?_) (fun c34 => ?_)
          · replace h := zi_t c34 h
            exact bX19_get_101 hst F hA E hK22 x0 x1 x2 x3 x4 hx0 hx1 hr (lv_sub hl [1, 2, 3, 4, 5] rfl) h
          · replace h := zi_f (fun q => q c34) h
            refine lv_iload F.1 F.2.1 dX19_get_96 (lv_at hl 5 rfl) ?_
            refine lv_goto (tgt := 102) F.1 F.2.1 dX19_get_98 (by decide) ?_
            exact bX19_get_102 hst F hA E hK22 x0 x1 x2 x4 x4 hx0 hx1 hr (lv_sub hl [1, 2, 3, 5] rfl) h
theorem lX19_get_22 (hst : zSt B ids) (F : zFx p m c cX19_get 7 s args RX19 D cy B ids A) (hA : ∀ q : Nat, s.heap.size ≤ q → A q) {r : Int32} {z' : St} (E : zEnd p l e rmX19_get s m args below meth c cX19_get D cy B ids A Q none z' .return_ True) {N : Nat}  : ∀ (n : Nat) (x0 : Nat) (x1 : Nat) (x2 : Int32) (x3 : Int32) (x4 : Int32) (hx0 : (19, x0) ∈ ids) (hx1 : (12, x1) ∈ ids) {z : St} {H : Heap} {locs : List Loc} {ls : Array Slot} (hr : zRep D cy B ids A s.heap z H locs) (hl : lv_has ls 7 [(0, .ref (B 19 x0)), (1, .ref (B 12 x1)), (2, .int x2), (3, .int x3), (4, .int x4)]), fX19_get_22 N  n x0 x1 x2 x3 x4 z = some (r, z') → W p l e rmX19_get s m args below meth c H locs 0 0 Q (F0 m 22 ls []) := by
  intro n
  induction n with
  | zero => intro x0 x1 x2 x3 x4 hx0 hx1 z H locs ls hr hl h; cases h
  | succ n ih => intro x0 x1 x2 x3 x4 hx0 hx1 z H locs ls hr hl h; exact bX19_get_22 hst F hA E ih x0 x1 x2 x3 x4 hx0 hx1 hr hl h
def fX19_get (N : Nat)  (x0 : Nat) (x1 : Nat) (x2 : Int32) (z : St) : Option (Int32 × St) := zc (fX19_of N x0 x2 (8 : Int32) z) fun r1 z2 => if ¬ r1 = 0 then (fX19_get_22 N N x0 x1 x2 (-1 : Int32) (0 : Int32) z2) else (zc (fX19_handle N x0 x1 x2 z2) fun _ z7 => some (0, z7))
set_option maxHeartbeats 4000000 in
set_option maxRecDepth 100000 in
theorem bX19_get_0 (hst : zSt B ids) (F : zFx p m c cX19_get 7 s args RX19 D cy B ids A) (hA : ∀ q : Nat, s.heap.size ≤ q → A q) {r : Int32} {z' : St} (E : zEnd p l e rmX19_get s m args below meth c cX19_get D cy B ids A Q none z' .return_ True) {N : Nat}  (x0 : Nat) (x1 : Nat) (x2 : Int32) (hx0 : (19, x0) ∈ ids) (hx1 : (12, x1) ∈ ids) {z : St} {H : Heap} {locs : List Loc} {ls : Array Slot} (hr : zRep D cy B ids A s.heap z H locs) (hl : lv_has ls 7 [(0, .ref (B 19 x0)), (1, .ref (B 12 x1)), (2, .int x2)]) (h : fX19_get N x0 x1 x2 z = some (r, z')) : W p l e rmX19_get s m args below meth c H locs 0 0 Q (F0 m 0 ls []) := by
  unfold fX19_get at h
  refine lv_aload_n F.1 F.2.1 dX19_get_0 rfl (lv_at hl 0 rfl) ?_
  refine lv_iload_n F.1 F.2.1 dX19_get_1 rfl (lv_at hl 2 rfl) ?_
  refine lv_bipush (v := (8 : Int32)) F.1 F.2.1 dX19_get_2 (by decide) ?_
  replace h := zc_some h
  obtain ⟨r1, z2, hc3, h⟩ := h
  refine zr_calli (zrun_V (As := [.int x2, .int (8 : Int32)]) (rest := []) zq_2549 zq_2551 zs_X19_of zq_2552 zq_4 hdX19_of (by decide) (T := TX19) (N := 32) rfl (okX19_of l D cy B ids hst N x0 hx0 x2  (8 : Int32)  hr.2.2 hc3) F hr hx0 hl.1 rfl (by decide) dX19_get_4 rfl rfl hroX19_get_X19_of ⟨Nat.zero_le _, Nat.zero_le _⟩) F hA hr (fun H locs hw4 hr => ?_)
  clear hc3
  refine lv_if_ne (tgt := 17) F.1 F.2.1 dX19_get_7 (by decide) (fun c5 => ?_) (fun c5 => ?_)
  · replace h := zi_t c5 h
    refine lv_iconst (v := (-1 : Int32)) F.1 F.2.1 dX19_get_17 (by decide) ?_
    refine lv_istore_n (lv' := [(3, .int (-1 : Int32)), (0, .ref (B 19 x0)), (1, .ref (B 12 x1)), (2, .int x2)]) F.1 F.2.1 dX19_get_18 rfl hl (by decide) rfl (fun ls hl => ?_)
    refine lv_iconst (v := (0 : Int32)) F.1 F.2.1 dX19_get_19 (by decide) ?_
    refine lv_istore (lv' := [(4, .int (0 : Int32)), (3, .int (-1 : Int32)), (0, .ref (B 19 x0)), (1, .ref (B 12 x1)), (2, .int x2)]) F.1 F.2.1 dX19_get_20 hl (by decide) rfl (fun ls hl => ?_)
    exact lX19_get_22 hst F hA E  _ x0 x1 x2 (-1 : Int32) (0 : Int32) hx0 hx1 hr (lv_sub hl [2, 3, 4, 1, 0] rfl) h
  · replace h := zi_f (fun q => q c5) h
    refine lv_aload_n F.1 F.2.1 dX19_get_10 rfl (lv_at hl 0 rfl) ?_
    refine lv_aload_n F.1 F.2.1 dX19_get_11 rfl (lv_at hl 1 rfl) ?_
    refine lv_iload_n F.1 F.2.1 dX19_get_12 rfl (lv_at hl 2 rfl) ?_
    replace h := zc_some h
    obtain ⟨r6, z7, hc8, h⟩ := h
    refine zr_callv (zrun_V (As := [.ref (B 12 x1), .int x2]) (rest := []) zq_2635 zq_2637 zs_X19_handle zq_2638 zq_4 hdX19_handle (by decide) (T := TX19) (N := 32) rfl (okX19_handle l D cy B ids hst N x0 hx0 x1 hx1 x2  hr.2.2 hc8) F hr hx0 hl.1 rfl (by decide) dX19_get_13 rfl rfl hroX19_get_X19_handle ⟨Nat.zero_le _, Nat.zero_le _⟩) F hA hr (fun H locs hw9 hr => ?_)
    clear hc8
    obtain ⟨rfl, rfl⟩ := zret h
    exact E _ _ _ _ dX19_get_16 trivial hr
end SX19_get
set_option maxRecDepth 100000 in
theorem okX19_get (l : Launch) (D : va_G) (cy : Nat → ClassId) (B : Nat → Nat → Nat) (ids : List (Nat × Nat)) (hst : zSt B ids) (N : Nat) (x0 : Nat) (hx0 : (19, x0) ∈ ids) (x1 : Nat) (hx1 : (12, x1) ∈ ids) (x2 : Int32) {z : St} {r : Int32} {z' : St} (hW : zWf ids z) (h : fX19_get N x0 x1 x2 z = some (r, z')) : zM l yX19_get (zws yX19_get cX19_get 7 none) rmX19_get D cy B ids [.ref (B 19 x0), .ref (B 12 x1), .int x2] none True z z' :=
  zM_of hst hW (by decide +kernel) (Nat.le_of_ble_eq_true rfl) (fun p e s m args below meth c A ls F hA hret hlocks hr hl => bX19_get_0 hst F hA (zEnd_v F hret hlocks) x0 x1 x2 hx0 hx1 hr hl h)
