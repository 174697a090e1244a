abbrev rmX19_arriveBytes : Room := { frames := 2, cells := 0, slots := 0, locals := 44 }
theorem hdX19_arriveBytes : yX19_arriveBytes.cls ≠ "java/lang/invoke/MethodHandle" ∧ yX19_arriveBytes.cls ≠ "java/lang/invoke/VarHandle" ∧ (parseMethodDescriptor yX19_arriveBytes.desc).map (fun d => d.parameters.length) = some 2 := by decide +kernel
theorem hroX19_arriveBytes_X14_become : rmX14_become.frames + 1 ≤ rmX19_arriveBytes.frames ∧ 8 + (3 + 11) + rmX14_become.locals ≤ rmX19_arriveBytes.locals := by decide
theorem hroX19_arriveBytes_X14_readable : rmX14_readable.frames + 1 ≤ rmX19_arriveBytes.frames ∧ 8 + (1 + 11) + rmX14_readable.locals ≤ rmX19_arriveBytes.locals := by decide
theorem hroX19_arriveBytes_X14_room : rmX14_room.frames + 1 ≤ rmX19_arriveBytes.frames ∧ 8 + (1 + 11) + rmX14_room.locals ≤ rmX19_arriveBytes.locals := by decide
theorem hroX19_arriveBytes_X19_byteOf : rmX19_byteOf.frames + 1 ≤ rmX19_arriveBytes.frames ∧ 8 + (3 + 11) + rmX19_byteOf.locals ≤ rmX19_arriveBytes.locals := by decide
theorem hroX19_arriveBytes_X19_has : rmX19_has.frames + 1 ≤ rmX19_arriveBytes.frames ∧ 8 + (3 + 11) + rmX19_has.locals ≤ rmX19_arriveBytes.locals := by decide
theorem hroX19_arriveBytes_X19_seg : rmX19_seg.frames + 1 ≤ rmX19_arriveBytes.frames ∧ 8 + (3 + 11) + rmX19_seg.locals ≤ rmX19_arriveBytes.locals := by decide
section SX19_arriveBytes
variable {p : Program} {l : Launch} {e : Env} {s : State} {m : MethodId} {args : Array Value} {below : List Frame} {meth : Method} {c : Code} {Q : State → Prop} {D : va_G} {cy : Nat → ClassId} {B : Nat → Nat → Nat} {ids : List (Nat × Nat)} {A : Nat → Prop}
def fX19_arriveBytes_123 (N : Nat) (K50 : Nat → Nat → Int32 → Int32 → Int32 → Int32 → Int32 → St → Option (Int32 × St)) (x0 : Nat) (x1 : Nat) (x2 : Int32) (x3 : Int32) (x4 : Int32) (x5 : Int32) (x6 : Int32) (z : St) : Option (Int32 × St) := zl (x6 + 1) fun v1 => K50 x0 x1 x2 x3 x4 x5 v1 z
set_option maxHeartbeats 4000000 in
set_option maxRecDepth 100000 in
theorem bX19_arriveBytes_123 (hst : zSt B ids) (F : zFx p m c cX19_arriveBytes 9 s args RX19 D cy B ids A) (hA : ∀ q : Nat, s.heap.size ≤ q → A q) {r : Int32} {z' : St} (E : zEnd p l e rmX19_arriveBytes s m args below meth c cX19_arriveBytes D cy B ids A Q none z' .return_ True) {N : Nat} {K50 : Nat → Nat → Int32 → Int32 → Int32 → Int32 → Int32 → St → Option (Int32 × St)} (hK50 : ∀ (x0 : Nat) (x1 : Nat) (x2 : Int32) (x3 : Int32) (x4 : Int32) (x5 : Int32) (x6 : Int32) (hx0 : (19, x0) ∈ ids) (hx1 : (14, x1) ∈ ids) {z : St} {H : Heap} {locs : List Loc} {ls : Array Slot} (hr : zRep D cy B ids A s.heap z H locs) (hl : lv_has ls 9 [(0, .ref (B 19 x0)), (1, .ref (B 14 x1)), (2, .int x2), (3, .int x3), (4, .int x4), (5, .int x5), (6, .int x6)]), K50 x0 x1 x2 x3 x4 x5 x6 z = some (r, z') → W p l e rmX19_arriveBytes s m args below meth c H locs 0 0 Q (F0 m 50 ls [])) (x0 : Nat) (x1 : Nat) (x2 : Int32) (x3 : Int32) (x4 : Int32) (x5 : Int32) (x6 : Int32) (hx0 : (19, x0) ∈ ids) (hx1 : (14, x1) ∈ ids) {z : St} {H : Heap} {locs : List Loc} {ls : Array Slot} (hr : zRep D cy B ids A s.heap z H locs) (hl : lv_has ls 9 [(0, .ref (B 19 x0)), (1, .ref (B 14 x1)), (2, .int x2), (3, .int x3), (4, .int x4), (5, .int x5), (6, .int x6)]) (h : fX19_arriveBytes_123 N K50 x0 x1 x2 x3 x4 x5 x6 z = some (r, z')) : W p l e rmX19_arriveBytes s m args below meth c H locs 0 0 Q (F0 m 123 ls []) := by
  unfold fX19_arriveBytes_123 at h
  obtain ⟨v1, ev1⟩ : ∃ y : Int32, y = (x6 + 1) := ⟨_, rfl⟩
  replace h := zl_sub ev1 h
  refine lv_iinc (v := v1) (lv' := [(6, .int v1), (0, .ref (B 19 x0)), (1, .ref (B 14 x1)), (2, .int x2), (3, .int x3), (4, .int x4), (5, .int x5)]) F.1 F.2.1 dX19_arriveBytes_123 hl (k := 6) rfl (by rw [ev1]; rfl) (by decide) rfl (fun ls hl => ?_)
  refine lv_goto (tgt := 50) F.1 F.2.1 dX19_arriveBytes_126 (by decide) ?_
  exact hK50 x0 x1 x2 x3 x4 x5 v1 hx0 hx1 hr (lv_sub hl [1, 2, 3, 4, 5, 6, 0] rfl) h
def fX19_arriveBytes_334 (N : Nat)  (x1 : Nat) (z : St) : Option (Int32 × St) := zl (zsI z 14 32 x1 (1 : Int32)) fun z1 => some (0, z1)
set_option maxHeartbeats 4000000 in
set_option maxRecDepth 100000 in
theorem bX19_arriveBytes_334 (hst : zSt B ids) (F : zFx p m c cX19_arriveBytes 9 s args RX19 D cy B ids A) (hA : ∀ q : Nat, s.heap.size ≤ q → A q) {r : Int32} {z' : St} (E : zEnd p l e rmX19_arriveBytes s m args below meth c cX19_arriveBytes D cy B ids A Q none z' .return_ True) {N : Nat}  (x1 : Nat) (hx1 : (14, x1) ∈ ids) {z : St} {H : Heap} {locs : List Loc} {ls : Array Slot} (hr : zRep D cy B ids A s.heap z H locs) (hl : lv_has ls 9 [(1, .ref (B 14 x1))]) (h : fX19_arriveBytes_334 N x1 z = some (r, z')) : W p l e rmX19_arriveBytes s m args below meth c H locs 0 0 Q (F0 m 334 ls []) := by
  unfold fX19_arriveBytes_334 at h
  refine lv_aload_n F.1 F.2.1 dX19_arriveBytes_334 rfl (lv_at hl 0 rfl) ?_
  refine lv_iconst (v := (1 : Int32)) F.1 F.2.1 dX19_arriveBytes_335 (by decide) ?_
  refine pf19_616 F hx1 hr dX19_arriveBytes_336 (1 : Int32) (by decide) (fun H locs z1 ez1 hr => ?_)
  replace h := zl_sub ez1 h
  clear ez1
  obtain ⟨rfl, rfl⟩ := zret h
  exact E _ _ _ _ dX19_arriveBytes_339 trivial hr
def fX19_arriveBytes_321 (N : Nat)  (x0 : Nat) (x1 : Nat) (x2 : Int32) (x3 : Int32) (z : St) : Option (Int32 × St) := if 0 < x3 then (fX19_arriveBytes_334 N x1 z) else (zc (fX19_has N x0 x2 (2 : Int32) z) fun r2 z3 => if r2 = 0 then (some (0, z3)) else (fX19_arriveBytes_334 N x1 z3))
set_option maxHeartbeats 4000000 in
set_option maxRecDepth 100000 in
theorem bX19_arriveBytes_321 (hst : zSt B ids) (F : zFx p m c cX19_arriveBytes 9 s args RX19 D cy B ids A) (hA : ∀ q : Nat, s.heap.size ≤ q → A q) {r : Int32} {z' : St} (E : zEnd p l e rmX19_arriveBytes s m args below meth c cX19_arriveBytes D cy B ids A Q none z' .return_ True) {N : Nat}  (x0 : Nat) (x1 : Nat) (x2 : Int32) (x3 : Int32) (hx0 : (19, x0) ∈ ids) (hx1 : (14, x1) ∈ ids) {z : St} {H : Heap} {locs : List Loc} {ls : Array Slot} (hr : zRep D cy B ids A s.heap z H locs) (hl : lv_has ls 9 [(0, .ref (B 19 x0)), (1, .ref (B 14 x1)), (2, .int x2), (3, .int x3)]) (h : fX19_arriveBytes_321 N x0 x1 x2 x3 z = some (r, z')) : W p l e rmX19_arriveBytes s m args below meth c H locs 0 0 Q (F0 m 321 ls []) := by
  unfold fX19_arriveBytes_321 at h
  refine lv_iload_n F.1 F.2.1 dX19_arriveBytes_321 rfl (lv_at hl 3 rfl) ?_
  refine lv_if_gt (tgt := 334) F.1 F.2.1 dX19_arriveBytes_322 (by decide) (fun c1 => ?_) (fun c1 => ?_)
  · replace h := zi_t c1 h
    exact bX19_arriveBytes_334 hst F hA E  x1 hx1 hr (lv_sub hl [1] rfl) h
  · replace h := zi_f c1 h
    refine lv_aload_n F.1 F.2.1 dX19_arriveBytes_325 rfl (lv_at hl 0 rfl) ?_
    refine lv_iload_n F.1 F.2.1 dX19_arriveBytes_326 rfl (lv_at hl 2 rfl) ?_
    refine lv_iconst (v := (2 : Int32)) F.1 F.2.1 dX19_arriveBytes_327 (by decide) ?_
    replace h := zc_some h
    obtain ⟨r2, z3, hc4, h⟩ := h
    refine zr_calli (zrun_V (As := [.int x2, .int (2 : Int32)]) (rest := []) zq_2663 zq_2665 zs_X19_has zq_2666 zq_4 hdX19_has (by decide) (T := TX19) (N := 32) rfl (okX19_has l D cy B ids hst N x0 hx0 x2  (2 : Int32)  hr.2.2 hc4) F hr hx0 hl.1 rfl (by decide) dX19_arriveBytes_328 rfl rfl hroX19_arriveBytes_X19_has ⟨Nat.zero_le _, Nat.zero_le _⟩) F hA hr (fun H locs hw5 hr => ?_)
    clear hc4
    refine lv_if_eq (tgt := 339) F.1 F.2.1 dX19_arriveBytes_331 (by decide) (fun c6 => ?_) (fun c6 => ?_)
    · replace h := zi_t c6 h
      obtain ⟨rfl, rfl⟩ := zret h
      exact E _ _ _ _ dX19_arriveBytes_339 trivial hr
    · replace h := zi_f c6 h
      exact bX19_arriveBytes_334 hst F hA E  x1 hx1 hr (lv_sub hl [1] rfl) h
def fX19_arriveBytes_314 (N : Nat)  (x0 : Nat) (x1 : Nat) (x2 : Int32) (x3 : Int32) (s0 : Nat) (s1 : Int32) (z : St) : Option (Int32 × St) := zc (fX14_become N s0 s1 (zgI z 19 24 x0) z) fun _ z2 => fX19_arriveBytes_321 N x0 x1 x2 x3 z2
set_option maxHeartbeats 4000000 in
set_option maxRecDepth 100000 in
theorem bX19_arriveBytes_314 (hst : zSt B ids) (F : zFx p m c cX19_arriveBytes 9 s args RX19 D cy B ids A) (hA : ∀ q : Nat, s.heap.size ≤ q → A q) {r : Int32} {z' : St} (E : zEnd p l e rmX19_arriveBytes s m args below meth c cX19_arriveBytes D cy B ids A Q none z' .return_ True) {N : Nat}  (x0 : Nat) (x1 : Nat) (x2 : Int32) (x3 : Int32) (s0 : Nat) (s1 : Int32) (hx0 : (19, x0) ∈ ids) (hx1 : (14, x1) ∈ ids) (hs0 : (14, s0) ∈ ids) {z : St} {H : Heap} {locs : List Loc} {ls : Array Slot} (hr : zRep D cy B ids A s.heap z H locs) (hl : lv_has ls 9 [(0, .ref (B 19 x0)), (1, .ref (B 14 x1)), (2, .int x2), (3, .int x3)]) (h : fX19_arriveBytes_314 N x0 x1 x2 x3 s0 s1 z = some (r, z')) : W p l e rmX19_arriveBytes s m args below meth c H locs 0 0 Q (F0 m 314 ls [.int s1, .ref (B 14 s0)]) := by
  unfold fX19_arriveBytes_314 at h
  refine lv_aload_n F.1 F.2.1 dX19_arriveBytes_314 rfl (lv_at hl 0 rfl) ?_
  refine gf19_143 F hx0 hr dX19_arriveBytes_315 ?_
  replace h := zc_some h
  obtain ⟨r1, z2, hc3, h⟩ := h
  refine zr_callv (zrun_VN (As := [.int s1, .int (zgI z 19 24 x0)]) (rest := []) zn_2643 zq_2645 zs_X14_become zq_2646 zq_21 hdX14_become (by decide) (T := TX14) (N := 47) rfl (okX14_become l D cy B ids hst N s0 hs0 s1  (zgI z 19 24 x0)  hr.2.2 hc3) F hr hs0 hl.1 rfl (by decide) dX19_arriveBytes_318 rfl rfl hroX19_arriveBytes_X14_become ⟨Nat.zero_le _, Nat.zero_le _⟩) F hA hr (fun H locs hw4 hr => ?_)
  clear hc3
  exact bX19_arriveBytes_321 hst F hA E  x0 x1 x2 x3 hx0 hx1 hr (lv_sub hl [0, 1, 2, 3] rfl) h
def fX19_arriveBytes_252 (N : Nat)  (x0 : Nat) (x1 : Nat) (x2 : Int32) (x3 : Int32) (z : St) : Option (Int32 × St) := if (zgI z 14 21 x1) = 0 then (fX19_arriveBytes_321 N x0 x1 x2 x3 z) else (if ¬ (zgI z 14 16 x1) = (zgI z 14 22 x1) then (fX19_arriveBytes_321 N x0 x1 x2 x3 z) else (zl (zsI z 14 23 x1 (1 : Int32)) fun z3 => zl (zsI z3 14 16 x1 ((zgI z3 14 16 x1) + (1 : Int32))) fun z4 => if ¬ (zgI z4 14 0 x1) = (4 : Int32) then (if ¬ (zgI z4 14 0 x1) = (5 : Int32) then (fX19_arriveBytes_314 N x0 x1 x2 x3 x1 (10 : Int32) z4) else (fX19_arriveBytes_314 N x0 x1 x2 x3 x1 (8 : Int32) z4)) else (fX19_arriveBytes_314 N x0 x1 x2 x3 x1 (7 : Int32) z4)))
set_option maxHeartbeats 4000000 in
set_option maxRecDepth 100000 in
theorem bX19_arriveBytes_252 (hst : zSt B ids) (F : zFx p m c cX19_arriveBytes 9 s args RX19 D cy B ids A) (hA : ∀ q : Nat, s.heap.size ≤ q → A q) {r : Int32} {z' : St} (E : zEnd p l e rmX19_arriveBytes s m args below meth c cX19_arriveBytes D cy B ids A Q none z' .return_ True) {N : Nat}  (x0 : Nat) (x1 : Nat) (x2 : Int32) (x3 : Int32) (hx0 : (19, x0) ∈ ids) (hx1 : (14, x1) ∈ ids) {z : St} {H : Heap} {locs : List Loc} {ls : Array Slot} (hr : zRep D cy B ids A s.heap z H locs) (hl : lv_has ls 9 [(0, .ref (B 19 x0)), (1, .ref (B 14 x1)), (2, .int x2), (3, .int x3)]) (h : fX19_arriveBytes_252 N x0 x1 x2 x3 z = some (r, z')) : W p l e rmX19_arriveBytes s m args below meth c H locs 0 0 Q (F0 m 252 ls []) := by
  unfold fX19_arriveBytes_252 at h
  refine lv_aload_n F.1 F.2.1 dX19_arriveBytes_252 rfl (lv_at hl 1 rfl) ?_
  refine gf19_673 F hx1 hr dX19_arriveBytes_253 ?_
  refine lv_if_eq (tgt := 321) F.1 F.2.1 dX19_arriveBytes_256 (by decide) (fun c1 => ?_) (fun c1 => ?_)
  · replace h := zi_t c1 h
    exact bX19_arriveBytes_321 hst F hA E  x0 x1 x2 x3 hx0 hx1 hr (lv_sub hl [0, 1, 2, 3] rfl) h
  · replace h := zi_f c1 h
    refine lv_aload_n F.1 F.2.1 dX19_arriveBytes_259 rfl (lv_at hl 1 rfl) ?_
    refine gf19_570 F hx1 hr dX19_arriveBytes_260 ?_
    refine lv_aload_n F.1 F.2.1 dX19_arriveBytes_263 rfl (lv_at hl 1 rfl) ?_
    refine gf19_676 F hx1 hr dX19_arriveBytes_264 ?_
    refine lv_icmp_ne (tgt := 321) F.1 F.2.1 dX19_arriveBytes_267 (by decide) (fun c2 => ?_) (fun c2 => ?_)
    · replace h := zi_t c2 h
      exact bX19_arriveBytes_321 hst F hA E  x0 x1 x2 x3 hx0 hx1 hr (lv_sub hl [0, 1, 2, 3] rfl) h
    · replace h := zi_f (fun q => q c2) h
      refine lv_aload_n F.1 F.2.1 dX19_arriveBytes_270 rfl (lv_at hl 1 rfl) ?_
      refine lv_iconst (v := (1 : Int32)) F.1 F.2.1 dX19_arriveBytes_271 (by decide) ?_
      refine pf19_682 F hx1 hr dX19_arriveBytes_272 (1 : Int32) (by decide) (fun H locs z3 ez3 hr => ?_)
      replace h := zl_sub ez3 h
      clear ez3
      refine lv_aload_n F.1 F.2.1 dX19_arriveBytes_275 rfl (lv_at hl 1 rfl) ?_
      refine lv_dup F.1 F.2.1 dX19_arriveBytes_276 rfl ?_
      refine gf19_570 F hx1 hr dX19_arriveBytes_277 ?_
      refine lv_iconst (v := (1 : Int32)) F.1 F.2.1 dX19_arriveBytes_280 (by decide) ?_
      refine lv_iadd F.1 F.2.1 dX19_arriveBytes_281 ?_
      refine pf19_570 F hx1 hr dX19_arriveBytes_282 ((zgI z3 14 16 x1) + (1 : Int32)) (fun H locs z4 ez4 hr => ?_)
      replace h := zl_sub ez4 h
      clear ez4
      refine lv_aload_n F.1 F.2.1 dX19_arriveBytes_285 rfl (lv_at hl 1 rfl) ?_
      refine lv_aload_n F.1 F.2.1 dX19_arriveBytes_286 rfl (lv_at hl 1 rfl) ?_
      refine gf19_353 F hx1 hr dX19_arriveBytes_287 ?_
      refine lv_iconst (v := (4 : Int32)) F.1 F.2.1 dX19_arriveBytes_290 (by decide) ?_
      refine lv_icmp_ne (tgt := 299) F.1 F.2.1 dX19_arriveBytes_291 (by decide) (fun c5 => ?_) (fun c5 => ?_)
      · replace h := zi_t c5 h
        refine lv_aload_n F.1 F.2.1 dX19_arriveBytes_299 rfl (lv_at hl 1 rfl) ?_
        refine gf19_353 F hx1 hr dX19_arriveBytes_300 ?_
        refine lv_iconst (v := (5 : Int32)) F.1 F.2.1 dX19_arriveBytes_303 (by decide) ?_
        refine lv_icmp_ne (tgt := 312) F.1 F.2.1 dX19_arriveBytes_304 (by decide) (fun c6 => ?_) (fun c6 => ?_)
        · replace h := zi_t c6 h
          refine lv_bipush (v := (10 : Int32)) F.1 F.2.1 dX19_arriveBytes_312 (by decide) ?_
          exact bX19_arriveBytes_314 hst F hA E  x0 x1 x2 x3 x1 (10 : Int32) hx0 hx1 hx1 hr (lv_sub hl [0, 1, 2, 3] rfl) h
        · replace h := zi_f (fun q => q c6) h
          refine lv_bipush (v := (8 : Int32)) F.1 F.2.1 dX19_arriveBytes_307 (by decide) ?_
          refine lv_goto (tgt := 314) F.1 F.2.1 dX19_arriveBytes_309 (by decide) ?_
          exact bX19_arriveBytes_314 hst F hA E  x0 x1 x2 x3 x1 (8 : Int32) hx0 hx1 hx1 hr (lv_sub hl [0, 1, 2, 3] rfl) h
      · replace h := zi_f (fun q => q c5) h
        refine lv_bipush (v := (7 : Int32)) F.1 F.2.1 dX19_arriveBytes_294 (by decide) ?_
        refine lv_goto (tgt := 314) F.1 F.2.1 dX19_arriveBytes_296 (by decide) ?_
        exact bX19_arriveBytes_314 hst F hA E  x0 x1 x2 x3 x1 (7 : Int32) hx0 hx1 hx1 hr (lv_sub hl [0, 1, 2, 3] rfl) h
def fX19_arriveBytes_215 (N : Nat) (K181 : Nat → Nat → Int32 → Int32 → St → Option (Int32 × St)) (x0 : Nat) (x1 : Nat) (x2 : Int32) (x3 : Int32) (z : St) : Option (Int32 × St) := zc (fX14_readable N x1 z) fun r1 z2 => if (2048 : Int32) ≤ r1 then (fX19_arriveBytes_252 N x0 x1 x2 x3 z2) else (zk ((zgI z2 14 16 x1) &&& (2047 : Int32)) 2048 <| zl (zsA z2 161 x1 (Int32.toNatClampNeg ((zgI z2 14 16 x1) &&& (2047 : Int32))) (vp_nar .boolean (0 : Int32))) fun z7 => zl (zsI z7 14 16 x1 ((zgI z7 14 16 x1) + (1 : Int32))) fun z8 => K181 x0 x1 x2 x3 z8)
set_option maxHeartbeats 4000000 in
set_option maxRecDepth 100000 in
theorem bX19_arriveBytes_215 (hst : zSt B ids) (F : zFx p m c cX19_arriveBytes 9 s args RX19 D cy B ids A) (hA : ∀ q : Nat, s.heap.size ≤ q → A q) {r : Int32} {z' : St} (E : zEnd p l e rmX19_arriveBytes s m args below meth c cX19_arriveBytes D cy B ids A Q none z' .return_ True) {N : Nat} {K181 : Nat → Nat → Int32 → Int32 → St → Option (Int32 × St)} (hK181 : ∀ (x0 : Nat) (x1 : Nat) (x2 : Int32) (x3 : Int32) (hx0 : (19, x0) ∈ ids) (hx1 : (14, x1) ∈ ids) {z : St} {H : Heap} {locs : List Loc} {ls : Array Slot} (hr : zRep D cy B ids A s.heap z H locs) (hl : lv_has ls 9 [(0, .ref (B 19 x0)), (1, .ref (B 14 x1)), (2, .int x2), (3, .int x3)]), K181 x0 x1 x2 x3 z = some (r, z') → W p l e rmX19_arriveBytes s m args below meth c H locs 0 0 Q (F0 m 181 ls [])) (x0 : Nat) (x1 : Nat) (x2 : Int32) (x3 : Int32) (hx0 : (19, x0) ∈ ids) (hx1 : (14, x1) ∈ ids) {z : St} {H : Heap} {locs : List Loc} {ls : Array Slot} (hr : zRep D cy B ids A s.heap z H locs) (hl : lv_has ls 9 [(0, .ref (B 19 x0)), (1, .ref (B 14 x1)), (2, .int x2), (3, .int x3)]) (h : fX19_arriveBytes_215 N K181 x0 x1 x2 x3 z = some (r, z')) : W p l e rmX19_arriveBytes s m args below meth c H locs 0 0 Q (F0 m 215 ls []) := by
  unfold fX19_arriveBytes_215 at h
  refine lv_aload_n F.1 F.2.1 dX19_arriveBytes_215 rfl (lv_at hl 1 rfl) ?_
  replace h := zc_some h
  obtain ⟨r1, z2, hc3, h⟩ := h
  refine zr_calli (zrun_VN (As := []) (rest := []) zn_2728 zq_2712 zs_X14_readable zq_2713 zq_21 hdX14_readable (by decide) (T := TX14) (N := 47) rfl (okX14_readable l D cy B ids hst N x1 hx1 hr.2.2 hc3) F hr hx1 hl.1 rfl (by decide) dX19_arriveBytes_216 rfl rfl hroX19_arriveBytes_X14_readable ⟨Nat.zero_le _, Nat.zero_le _⟩) F hA hr (fun H locs hw4 hr => ?_)
  clear hc3
  refine lv_sipush (v := (2048 : Int32)) F.1 F.2.1 dX19_arriveBytes_219 (by decide) ?_
  refine lv_icmp_ge (tgt := 252) F.1 F.2.1 dX19_arriveBytes_222 (by decide) (fun c5 => ?_) (fun c5 => ?_)
  · replace h := zi_t c5 h
    exact bX19_arriveBytes_252 hst F hA E  x0 x1 x2 x3 hx0 hx1 hr (lv_sub hl [0, 1, 2, 3] rfl) h
  · replace h := zi_f c5 h
    refine lv_aload_n F.1 F.2.1 dX19_arriveBytes_225 rfl (lv_at hl 1 rfl) ?_
    refine gf19_664 F hx1 hr dX19_arriveBytes_226 ?_
    refine lv_aload_n F.1 F.2.1 dX19_arriveBytes_229 rfl (lv_at hl 1 rfl) ?_
    refine gf19_570 F hx1 hr dX19_arriveBytes_230 ?_
    refine lv_sipush (v := (2047 : Int32)) F.1 F.2.1 dX19_arriveBytes_233 (by decide) ?_
    refine lv_iand F.1 F.2.1 dX19_arriveBytes_236 ?_
    refine lv_iconst (v := (0 : Int32)) F.1 F.2.1 dX19_arriveBytes_237 (by decide) ?_
    replace h := zk_some h
    obtain ⟨c6, h⟩ := h
    refine zr_zast (k := 161) (by decide) rfl (by decide) F (zal_a F hx1 (j := 20) rfl) hr dX19_arriveBytes_238 c6 (fun H locs z7 ez7 hr => ?_)
    replace h := zl_sub ez7 h
    clear ez7
    refine lv_aload_n F.1 F.2.1 dX19_arriveBytes_239 rfl (lv_at hl 1 rfl) ?_
    refine lv_dup F.1 F.2.1 dX19_arriveBytes_240 rfl ?_
    refine gf19_570 F hx1 hr dX19_arriveBytes_241 ?_
    refine lv_iconst (v := (1 : Int32)) F.1 F.2.1 dX19_arriveBytes_244 (by decide) ?_
    refine lv_iadd F.1 F.2.1 dX19_arriveBytes_245 ?_
    refine pf19_570 F hx1 hr dX19_arriveBytes_246 ((zgI z7 14 16 x1) + (1 : Int32)) (fun H locs z8 ez8 hr => ?_)
    replace h := zl_sub ez8 h
    clear ez8
    refine lv_goto (tgt := 181) F.1 F.2.1 dX19_arriveBytes_249 (by decide) ?_
    exact hK181 x0 x1 x2 x3 hx0 hx1 hr (lv_sub hl [0, 1, 2, 3] rfl) h
def fX19_arriveBytes_181b (N : Nat) (K181 : Nat → Nat → Int32 → Int32 → St → Option (Int32 × St)) (x0 : Nat) (x1 : Nat) (x2 : Int32) (x3 : Int32) (z : St) : Option (Int32 × St) := zk ((zgI z 14 16 x1) &&& (2047 : Int32)) 2048 <| if (zgA z 161 x1 (Int32.toNatClampNeg ((zgI z 14 16 x1) &&& (2047 : Int32)))) = 0 then (fX19_arriveBytes_252 N x0 x1 x2 x3 z) else (if (zgI z 14 21 x1) = 0 then (fX19_arriveBytes_215 N K181 x0 x1 x2 x3 z) else (if (zgI z 14 16 x1) = (zgI z 14 22 x1) then (fX19_arriveBytes_252 N x0 x1 x2 x3 z) else (fX19_arriveBytes_215 N K181 x0 x1 x2 x3 z)))
def fX19_arriveBytes_181 (N : Nat)  : Nat → Nat → Nat → Int32 → Int32 → St → Option (Int32 × St)
  | 0 => fun _ _ _ _ _ => none
  | n + 1 => fX19_arriveBytes_181b N (fX19_arriveBytes_181 N  n)
set_option maxHeartbeats 4000000 in
set_option maxRecDepth 100000 in
theorem bX19_arriveBytes_181 (hst : zSt B ids) (F : zFx p m c cX19_arriveBytes 9 s args RX19 D cy B ids A) (hA : ∀ q : Nat, s.heap.size ≤ q → A q) {r : Int32} {z' : St} (E : zEnd p l e rmX19_arriveBytes s m args below meth c cX19_arriveBytes D cy B ids A Q none z' .return_ True) {N : Nat} {K181 : Nat → Nat → Int32 → Int32 → St → Option (Int32 × St)} (hK181 : ∀ (x0 : Nat) (x1 : Nat) (x2 : Int32) (x3 : Int32) (hx0 : (19, x0) ∈ ids) (hx1 : (14, x1) ∈ ids) {z : St} {H : Heap} {locs : List Loc} {ls : Array Slot} (hr : zRep D cy B ids A s.heap z H locs) (hl : lv_has ls 9 [(0, .ref (B 19 x0)), (1, .ref (B 14 x1)), (2, .int x2), (3, .int x3)]), K181 x0 x1 x2 x3 z = some (r, z') → W p l e rmX19_arriveBytes s m args below meth c H locs 0 0 Q (F0 m 181 ls [])) (x0 : Nat) (x1 : Nat) (x2 : Int32) (x3 : Int32) (hx0 : (19, x0) ∈ ids) (hx1 : (14, x1) ∈ ids) {z : St} {H : Heap} {locs : List Loc} {ls : Array Slot} (hr : zRep D cy B ids A s.heap z H locs) (hl : lv_has ls 9 [(0, .ref (B 19 x0)), (1, .ref (B 14 x1)), (2, .int x2), (3, .int x3)]) (h : fX19_arriveBytes_181b N K181 x0 x1 x2 x3 z = some (r, z')) : W p l e rmX19_arriveBytes s m args below meth c H locs 0 0 Q (F0 m 181 ls []) := by
  unfold fX19_arriveBytes_181b at h
  refine lv_aload_n F.1 F.2.1 dX19_arriveBytes_181 rfl (lv_at hl 1 rfl) ?_
  refine gf19_664 F hx1 hr dX19_arriveBytes_182 ?_
  refine lv_aload_n F.1 F.2.1 dX19_arriveBytes_185 rfl (lv_at hl 1 rfl) ?_
  refine gf19_570 F hx1 hr dX19_arriveBytes_186 ?_
  refine lv_sipush (v := (2047 : Int32)) F.1 F.2.1 dX19_arriveBytes_189 (by decide) ?_
  refine lv_iand F.1 F.2.1 dX19_arriveBytes_192 ?_
  replace h := zk_some h
  obtain ⟨c1, h⟩ := h
  refine zr_zald (k := 161) (by decide) rfl (by decide) F (zal_a F hx1 (j := 20) rfl) hr dX19_arriveBytes_193 c1 ?_
  refine lv_if_eq (tgt := 252) F.1 F.2.1 dX19_arriveBytes_194 (by decide) (fun c2 => ?_) (fun c2 => ?_)
  · replace h := zi_t c2 h
    exact bX19_arriveBytes_252 hst F hA E  x0 x1 x2 x3 hx0 hx1 hr (lv_sub hl [0, 1, 2, 3] rfl) h
  · replace h := zi_f c2 h
    refine lv_aload_n F.1 F.2.1 dX19_arriveBytes_197 rfl (lv_at hl 1 rfl) ?_
    refine gf19_673 F hx1 hr dX19_arriveBytes_198 ?_
    refine lv_if_eq (tgt := 215) F.1 F.2.1 dX19_arriveBytes_201 (by decide) (fun c3 => ?_) (fun c3 => ?_)
    · replace h := zi_t c3 h
      exact bX19_arriveBytes_215 hst F hA E hK181 x0 x1 x2 x3 hx0 hx1 hr (lv_sub hl [0, 1, 2, 3] rfl) h
    · replace h := zi_f c3 h
      refine lv_aload_n F.1 F.2.1 dX19_arriveBytes_204 rfl (lv_at hl 1 rfl) ?_
      refine gf19_570 F hx1 hr dX19_arriveBytes_205 ?_
      refine lv_aload_n F.1 F.2.1 dX19_arriveBytes_208 rfl (lv_at hl 1 rfl) ?_
      refine gf19_676 F hx1 hr dX19_arriveBytes_209 ?_
      refine lv_icmp_eq (tgt := 252) F.1 F.2.1 dX19_arriveBytes_212 (by decide) (fun c4 => ?_) (fun c4 => ?_)
      · replace h := zi_t c4 h
        exact bX19_arriveBytes_252 hst F hA E  x0 x1 x2 x3 hx0 hx1 hr (lv_sub hl [0, 1, 2, 3] rfl) h
      · replace h := zi_f c4 h
        exact bX19_arriveBytes_215 hst F hA E hK181 x0 x1 x2 x3 hx0 hx1 hr (lv_sub hl [0, 1, 2, 3] rfl) h
theorem lX19_arriveBytes_181 (hst : zSt B ids) (F : zFx p m c cX19_arriveBytes 9 s args RX19 D cy B ids A) (hA : ∀ q : Nat, s.heap.size ≤ q → A q) {r : Int32} {z' : St} (E : zEnd p l e rmX19_arriveBytes s m args below meth c cX19_arriveBytes D cy B ids A Q none z' .return_ True) {N : Nat}  : ∀ (n : Nat) (x0 : Nat) (x1 : Nat) (x2 : Int32) (x3 : Int32) (hx0 : (19, x0) ∈ ids) (hx1 : (14, x1) ∈ ids) {z : St} {H : Heap} {locs : List Loc} {ls : Array Slot} (hr : zRep D cy B ids A s.heap z H locs) (hl : lv_has ls 9 [(0, .ref (B 19 x0)), (1, .ref (B 14 x1)), (2, .int x2), (3, .int x3)]), fX19_arriveBytes_181 N  n x0 x1 x2 x3 z = some (r, z') → W p l e rmX19_arriveBytes s m args below meth c H locs 0 0 Q (F0 m 181 ls []) := by
  intro n
  induction n with
  | zero => intro x0 x1 x2 x3 hx0 hx1 z H locs ls hr hl h; cases h
  | succ n ih => intro x0 x1 x2 x3 hx0 hx1 z H locs ls hr hl h; exact bX19_arriveBytes_181 hst F hA E ih x0 x1 x2 x3 hx0 hx1 hr hl h
def fX19_arriveBytes_50b (N : Nat) (K50 : Nat → Nat → Int32 → Int32 → Int32 → Int32 → Int32 → St → Option (Int32 × St)) (x0 : Nat) (x1 : Nat) (x2 : Int32) (x3 : Int32) (x4 : Int32) (x5 : Int32) (x6 : Int32) (z : St) : Option (Int32 × St) := if x3 ≤ x6 then (zl ((x5 + x3) - (zgI z 14 16 x1)) fun v2 => zc (fX19_has N x0 x2 (2 : Int32) z) fun r3 z4 => if r3 = 0 then (fX19_arriveBytes_181 N N x0 x1 x2 x3 z4) else (if ¬ (zgI z4 14 21 x1) = 0 then (fX19_arriveBytes_181 N N x0 x1 x2 x3 z4) else (if v2 < 0 then (fX19_arriveBytes_181 N N x0 x1 x2 x3 z4) else (if x4 ≤ v2 then (fX19_arriveBytes_181 N N x0 x1 x2 x3 z4) else (zl (zsI z4 14 21 x1 (1 : Int32)) fun z11 => zl (zsI z11 14 22 x1 (x5 + x3)) fun z12 => fX19_arriveBytes_181 N N x0 x1 x2 x3 z12))))) else (zl ((x5 + x6) - (zgI z 14 16 x1)) fun v13 => zl ((x5 + x6) &&& (2047 : Int32)) fun v14 => if v13 < 0 then (fX19_arriveBytes_123 N K50 x0 x1 x2 x3 x4 x5 x6 z) else (if x4 ≤ v13 then (fX19_arriveBytes_123 N K50 x0 x1 x2 x3 x4 x5 x6 z) else (zk v14 2048 <| if ¬ (zgA z 161 x1 (Int32.toNatClampNeg v14)) = 0 then (fX19_arriveBytes_123 N K50 x0 x1 x2 x3 x4 x5 x6 z) else (zk v14 2048 <| zl (zsA z 161 x1 (Int32.toNatClampNeg v14) (vp_nar .boolean (1 : Int32))) fun z20 => zc (fX19_byteOf N x0 x2 x6 z20) fun r21 z22 => zk v14 2048 <| zl (zsA z22 160 x1 (Int32.toNatClampNeg v14) (vp_nar .byte r21)) fun z26 => fX19_arriveBytes_123 N K50 x0 x1 x2 x3 x4 x5 x6 z26))))
def fX19_arriveBytes_50 (N : Nat)  : Nat → Nat → Nat → Int32 → Int32 → Int32 → Int32 → Int32 → St → Option (Int32 × St)
  | 0 => fun _ _ _ _ _ _ _ _ => none
  | n + 1 => fX19_arriveBytes_50b N (fX19_arriveBytes_50 N  n)
set_option maxHeartbeats 4000000 in
set_option maxRecDepth 100000 in
theorem bX19_arriveBytes_50 (hst : zSt B ids) (F : zFx p m c cX19_arriveBytes 9 s args RX19 D cy B ids A) (hA : ∀ q : Nat, s.heap.size ≤ q → A q) {r : Int32} {z' : St} (E : zEnd p l e rmX19_arriveBytes s m args below meth c cX19_arriveBytes D cy B ids A Q none z' .return_ True) {N : Nat} {K50 : Nat → Nat → Int32 → Int32 → Int32 → Int32 → Int32 → St → Option (Int32 × St)} (hK50 : ∀ (x0 : Nat) (x1 : Nat) (x2 : Int32) (x3 : Int32) (x4 : Int32) (x5 : Int32) (x6 : Int32) (hx0 : (19, x0) ∈ ids) (hx1 : (14, x1) ∈ ids) {z : St} {H : Heap} {locs : List Loc} {ls : Array Slot} (hr : zRep D cy B ids A s.heap z H locs) (hl : lv_has ls 9 [(0, .ref (B 19 x0)), (1, .ref (B 14 x1)), (2, .int x2), (3, .int x3), (4, .int x4), (5, .int x5), (6, .int x6)]), K50 x0 x1 x2 x3 x4 x5 x6 z = some (r, z') → W p l e rmX19_arriveBytes s m args below meth c H locs 0 0 Q (F0 m 50 ls [])) (x0 : Nat) (x1 : Nat) (x2 : Int32) (x3 : Int32) (x4 : Int32) (x5 : Int32) (x6 : Int32) (hx0 : (19, x0) ∈ ids) (hx1 : (14, x1) ∈ ids) {z : St} {H : Heap} {locs : List Loc} {ls : Array Slot} (hr : zRep D cy B ids A s.heap z H locs) (hl : lv_has ls 9 [(0, .ref (B 19 x0)), (1, .ref (B 14 x1)), (2, .int x2), (3, .int x3), (4, .int x4), (5, .int x5), (6, .int x6)]) (h : fX19_arriveBytes_50b N K50 x0 x1 x2 x3 x4 x5 x6 z = some (r, z')) : W p l e rmX19_arriveBytes s m args below meth c H locs 0 0 Q (F0 m 50 ls []) := by
  unfold fX19_arriveBytes_50b at h
  refine lv_iload F.1 F.2.1 dX19_arriveBytes_50 (lv_at hl 6 rfl) ?_
  refine lv_iload_n F.1 F.2.1 dX19_arriveBytes_52 rfl (lv_at hl 3 rfl) ?_
  refine lv_icmp_ge (tgt := 129) F.1 F.2.1 dX19_arriveBytes_53 (by decide) (fun c1 => ?_) (fun c1 => ?_)
  · replace h := zi_t c1 h
    refine lv_iload F.1 F.2.1 dX19_arriveBytes_129 (lv_at hl 5 rfl) ?_
    refine lv_iload_n F.1 F.2.1 dX19_arriveBytes_131 rfl (lv_at hl 3 rfl) ?_
    refine lv_iadd F.1 F.2.1 dX19_arriveBytes_132 ?_
    refine lv_aload_n F.1 F.2.1 dX19_arriveBytes_133 rfl (lv_at hl 1 rfl) ?_
    refine gf19_570 F hx1 hr dX19_arriveBytes_134 ?_
    refine lv_isub F.1 F.2.1 dX19_arriveBytes_137 ?_
    refine lv_topi (fun v2 ev2 => ?_)
    replace h := zl_sub ev2 h
    refine lv_istore (lv' := [(6, .int v2), (0, .ref (B 19 x0)), (1, .ref (B 14 x1)), (2, .int x2), (3, .int x3), (4, .int x4), (5, .int x5)]) F.1 F.2.1 dX19_arriveBytes_138 hl (by decide) rfl (fun ls hl => ?_)
    refine lv_aload_n F.1 F.2.1 dX19_arriveBytes_140 rfl (lv_at hl 1 rfl) ?_
    refine lv_iload_n F.1 F.2.1 dX19_arriveBytes_141 rfl (lv_at hl 3 rfl) ?_
    refine lv_iconst (v := (2 : Int32)) F.1 F.2.1 dX19_arriveBytes_142 (by decide) ?_
    replace h := zc_some h
    obtain ⟨r3, z4, hc5, h⟩ := h
    refine zr_calli (zrun_V (As := [.int x2, .int (2 : Int32)]) (rest := []) zq_2663 zq_2665 zs_X19_has zq_2666 zq_4 hdX19_has (by decide) (T := TX19) (N := 32) rfl (okX19_has l D cy B ids hst N x0 hx0 x2  (2 : Int32)  hr.2.2 hc5) F hr hx0 hl.1 rfl (by decide) dX19_arriveBytes_143 rfl rfl hroX19_arriveBytes_X19_has ⟨Nat.zero_le _, Nat.zero_le _⟩) F hA hr (fun H locs hw6 hr => ?_)
    clear hc5
    refine lv_if_eq (tgt := 181) F.1 F.2.1 dX19_arriveBytes_146 (by decide) (fun c7 => ?_) (fun c7 => ?_)
    · replace h := zi_t c7 h
      exact lX19_arriveBytes_181 hst F hA E  _ x0 x1 x2 x3 hx0 hx1 hr (lv_sub hl [1, 2, 3, 4] rfl) h
    · replace h := zi_f c7 h
      refine lv_aload_n F.1 F.2.1 dX19_arriveBytes_149 rfl (lv_at hl 2 rfl) ?_
      refine gf19_673 F hx1 hr dX19_arriveBytes_150 ?_
      refine lv_if_ne (tgt := 181) F.1 F.2.1 dX19_arriveBytes_153 (by decide) (fun c8 => ?_) (fun c8 => ?_)
      · replace h := zi_t c8 h
        exact lX19_arriveBytes_181 hst F hA E  _ x0 x1 x2 x3 hx0 hx1 hr (lv_sub hl [1, 2, 3, 4] rfl) h
      · replace h := zi_f (fun q => q c8) h
        refine lv_iload F.1 F.2.1 dX19_arriveBytes_156 (lv_at hl 0 rfl) ?_
        refine lv_if_lt (tgt := 181) F.1 F.2.1 dX19_arriveBytes_158 (by decide) (fun c9 => ?_) (fun c9 => ?_)
        · replace h := zi_t c9 h
          exact lX19_arriveBytes_181 hst F hA E  _ x0 x1 x2 x3 hx0 hx1 hr (lv_sub hl [1, 2, 3, 4] rfl) h
        · replace h := zi_f c9 h
          refine lv_iload F.1 F.2.1 dX19_arriveBytes_161 (lv_at hl 0 rfl) ?_
          refine lv_iload F.1 F.2.1 dX19_arriveBytes_163 (lv_at hl 5 rfl) ?_
          refine lv_icmp_ge (tgt := 181) F.1 F.2.1 dX19_arriveBytes_165 (by decide) (fun c10 => ?_) (fun c10 => ?_)
          · replace h := zi_t c10 h
            exact lX19_arriveBytes_181 hst F hA E  _ x0 x1 x2 x3 hx0 hx1 hr (lv_sub hl [1, 2, 3, 4] rfl) h
          · replace h := zi_f c10 h
            refine lv_aload_n F.1 F.2.1 dX19_arriveBytes_168 rfl (lv_at hl 2 rfl) ?_
            refine lv_iconst (v := (1 : Int32)) F.1 F.2.1 dX19_arriveBytes_169 (by decide) ?_
            refine pf19_673 F hx1 hr dX19_arriveBytes_170 (1 : Int32) (by decide) (fun H locs z11 ez11 hr => ?_)
            replace h := zl_sub ez11 h
            clear ez11
            refine lv_aload_n F.1 F.2.1 dX19_arriveBytes_173 rfl (lv_at hl 2 rfl) ?_
            refine lv_iload F.1 F.2.1 dX19_arriveBytes_174 (lv_at hl 6 rfl) ?_
            refine lv_iload_n F.1 F.2.1 dX19_arriveBytes_176 rfl (lv_at hl 4 rfl) ?_
            refine lv_iadd F.1 F.2.1 dX19_arriveBytes_177 ?_
            refine pf19_676 F hx1 hr dX19_arriveBytes_178 (x5 + x3) (fun H locs z12 ez12 hr => ?_)
            replace h := zl_sub ez12 h
            clear ez12
            exact lX19_arriveBytes_181 hst F hA E  _ x0 x1 x2 x3 hx0 hx1 hr (lv_sub hl [1, 2, 3, 4] rfl) h
  · replace h := zi_f c1 h
    refine lv_iload F.1 F.2.1 dX19_arriveBytes_56 (lv_at hl 5 rfl) ?_
    refine lv_iload F.1 F.2.1 dX19_arriveBytes_58 (lv_at hl 6 rfl) ?_
    refine lv_iadd F.1 F.2.1 dX19_arriveBytes_60 ?_
    refine lv_aload_n F.1 F.2.1 dX19_arriveBytes_61 rfl (lv_at hl 1 rfl) ?_
    refine gf19_570 F hx1 hr dX19_arriveBytes_62 ?_
    refine lv_isub F.1 F.2.1 dX19_arriveBytes_65 ?_
    refine lv_topi (fun v13 ev13 => ?_)
    replace h := zl_sub ev13 h
    refine lv_istore (lv' := [(7, .int v13), (0, .ref (B 19 x0)), (1, .ref (B 14 x1)), (2, .int x2), (3, .int x3), (4, .int x4), (5, .int x5), (6, .int x6)]) F.1 F.2.1 dX19_arriveBytes_66 hl (by decide) rfl (fun ls hl => ?_)
    refine lv_iload F.1 F.2.1 dX19_arriveBytes_68 (lv_at hl 6 rfl) ?_
    refine lv_iload F.1 F.2.1 dX19_arriveBytes_70 (lv_at hl 7 rfl) ?_
    refine lv_iadd F.1 F.2.1 dX19_arriveBytes_72 ?_
    refine lv_sipush (v := (2047 : Int32)) F.1 F.2.1 dX19_arriveBytes_73 (by decide) ?_
    refine lv_iand F.1 F.2.1 dX19_arriveBytes_76 ?_
    refine lv_topi (fun v14 ev14 => ?_)
    replace h := zl_sub ev14 h
    refine lv_istore (lv' := [(8, .int v14), (7, .int v13), (0, .ref (B 19 x0)), (1, .ref (B 14 x1)), (2, .int x2), (3, .int x3), (4, .int x4), (5, .int x5), (6, .int x6)]) F.1 F.2.1 dX19_arriveBytes_77 hl (by decide) rfl (fun ls hl => ?_)
    refine lv_iload F.1 F.2.1 dX19_arriveBytes_79 (lv_at hl 1 rfl) ?_
    refine lv_if_lt (tgt := 123) F.1 F.2.1 dX19_arriveBytes_81 (by decide) (fun c15 => ?_) (fun c15 => ?_)
    · replace h := zi_t c15 h
      exact bX19_arriveBytes_123 hst F hA E hK50 x0 x1 x2 x3 x4 x5 x6 hx0 hx1 hr (lv_sub hl [2, 3, 4, 5, 6, 7, 8] rfl) h
    · replace h := zi_f c15 h
      refine lv_iload F.1 F.2.1 dX19_arriveBytes_84 (lv_at hl 1 rfl) ?_
      refine lv_iload F.1 F.2.1 dX19_arriveBytes_86 (lv_at hl 6 rfl) ?_
      refine lv_icmp_ge (tgt := 123) F.1 F.2.1 dX19_arriveBytes_88 (by decide) (fun c16 => ?_) (fun c16 => ?_)
      · replace h := zi_t c16 h
        exact bX19_arriveBytes_123 hst F hA E hK50 x0 x1 x2 x3 x4 x5 x6 hx0 hx1 hr (lv_sub hl [2, 3, 4, 5, 6, 7, 8] rfl) h
      · replace h := zi_f c16 h
        refine lv_aload_n F.1 F.2.1 dX19_arriveBytes_91 rfl (lv_at hl 3 rfl) ?_
        refine gf19_664 F hx1 hr dX19_arriveBytes_92 ?_
        refine lv_iload F.1 F.2.1 dX19_arriveBytes_95 (lv_at hl 0 rfl) ?_
        replace h := zk_some h
        obtain ⟨c17, h⟩ := h
        refine zr_zald (k := 161) (by decide) rfl (by decide) F (zal_a F hx1 (j := 20) rfl) hr dX19_arriveBytes_97 c17 ?_
        refine lv_if_ne (tgt := 123) F.1 F.2.1 dX19_arriveBytes_98 (by decide) (fun c18 => ?_) (fun c18 => ?_)
        · replace h := zi_t c18 h
          exact bX19_arriveBytes_123 hst F hA E hK50 x0 x1 x2 x3 x4 x5 x6 hx0 hx1 hr (lv_sub hl [2, 3, 4, 5, 6, 7, 8] rfl) h
        · replace h := zi_f (fun q => q c18) h
          refine lv_aload_n F.1 F.2.1 dX19_arriveBytes_101 rfl (lv_at hl 3 rfl) ?_
          refine gf19_664 F hx1 hr dX19_arriveBytes_102 ?_
          refine lv_iload F.1 F.2.1 dX19_arriveBytes_105 (lv_at hl 0 rfl) ?_
          refine lv_iconst (v := (1 : Int32)) F.1 F.2.1 dX19_arriveBytes_107 (by decide) ?_
          replace h := zk_some h
          obtain ⟨c19, h⟩ := h
          refine zr_zast (k := 161) (by decide) rfl (by decide) F (zal_a F hx1 (j := 20) rfl) hr dX19_arriveBytes_108 c19 (fun H locs z20 ez20 hr => ?_)
          replace h := zl_sub ez20 h
          clear ez20
          refine lv_aload_n F.1 F.2.1 dX19_arriveBytes_109 rfl (lv_at hl 3 rfl) ?_
          refine gf19_665 F hx1 hr dX19_arriveBytes_110 ?_
          refine lv_iload F.1 F.2.1 dX19_arriveBytes_113 (lv_at hl 0 rfl) ?_
          refine lv_aload_n F.1 F.2.1 dX19_arriveBytes_115 rfl (lv_at hl 2 rfl) ?_
          refine lv_iload_n F.1 F.2.1 dX19_arriveBytes_116 rfl (lv_at hl 4 rfl) ?_
          refine lv_iload F.1 F.2.1 dX19_arriveBytes_117 (lv_at hl 8 rfl) ?_
          replace h := zc_some h
          obtain ⟨r21, z22, hc23, h⟩ := h
          refine zr_calli (zrun_V (As := [.int x2, .int x6]) (rest := [.int v14, .ref (B 160 x1)]) zq_2724 zq_2726 zs_X19_byteOf zq_2727 zq_4 hdX19_byteOf (by decide) (T := TX19) (N := 32) rfl (okX19_byteOf l D cy B ids hst N x0 hx0 x2  x6  hr.2.2 hc23) F hr hx0 hl.1 rfl (Nat.le_of_ble_eq_true rfl) dX19_arriveBytes_119 rfl rfl hroX19_arriveBytes_X19_byteOf ⟨Nat.zero_le _, Nat.zero_le _⟩) F hA hr (fun H locs hw24 hr => ?_)
          clear hc23
          replace h := zk_some h
          obtain ⟨c25, h⟩ := h
          refine zr_bast (k := 160) (by decide) rfl (by decide) F (zal_a F hx1 (j := 19) rfl) hr dX19_arriveBytes_122 c25 (fun H locs z26 ez26 hr => ?_)
          replace h := zl_sub ez26 h
          clear ez26
          exact bX19_arriveBytes_123 hst F hA E hK50 x0 x1 x2 x3 x4 x5 x6 hx0 hx1 hr (lv_sub hl [2, 3, 4, 5, 6, 7, 8] rfl) h
theorem lX19_arriveBytes_50 (hst : zSt B ids) (F : zFx p m c cX19_arriveBytes 9 s args RX19 D cy B ids A) (hA : ∀ q : Nat, s.heap.size ≤ q → A q) {r : Int32} {z' : St} (E : zEnd p l e rmX19_arriveBytes s m args below meth c cX19_arriveBytes D cy B ids A Q none z' .return_ True) {N : Nat}  : ∀ (n : Nat) (x0 : Nat) (x1 : Nat) (x2 : Int32) (x3 : Int32) (x4 : Int32) (x5 : Int32) (x6 : Int32) (hx0 : (19, x0) ∈ ids) (hx1 : (14, x1) ∈ ids) {z : St} {H : Heap} {locs : List Loc} {ls : Array Slot} (hr : zRep D cy B ids A s.heap z H locs) (hl : lv_has ls 9 [(0, .ref (B 19 x0)), (1, .ref (B 14 x1)), (2, .int x2), (3, .int x3), (4, .int x4), (5, .int x5), (6, .int x6)]), fX19_arriveBytes_50 N  n x0 x1 x2 x3 x4 x5 x6 z = some (r, z') → W p l e rmX19_arriveBytes s m args below meth c H locs 0 0 Q (F0 m 50 ls []) := by
  intro n
  induction n with
  | zero => intro x0 x1 x2 x3 x4 x5 x6 hx0 hx1 z H locs ls hr hl h; cases h
  | succ n ih => intro x0 x1 x2 x3 x4 x5 x6 hx0 hx1 z H locs ls hr hl h; exact bX19_arriveBytes_50 hst F hA E ih x0 x1 x2 x3 x4 x5 x6 hx0 hx1 hr hl h
def fX19_arriveBytes_33 (N : Nat)  (x0 : Nat) (x1 : Nat) (x2 : Int32) (x3 : Int32) (z : St) : Option (Int32 × St) := zc (fX14_room N x1 z) fun r1 z2 => zc (fX19_seg N x0 x2 (3 : Int32) z2) fun r5 z6 => fX19_arriveBytes_50 N N x0 x1 x2 x3 r1 r5 (0 : Int32) z6
set_option maxHeartbeats 4000000 in
set_option maxRecDepth 100000 in
theorem bX19_arriveBytes_33 (hst : zSt B ids) (F : zFx p m c cX19_arriveBytes 9 s args RX19 D cy B ids A) (hA : ∀ q : Nat, s.heap.size ≤ q → A q) {r : Int32} {z' : St} (E : zEnd p l e rmX19_arriveBytes s m args below meth c cX19_arriveBytes D cy B ids A Q none z' .return_ True) {N : Nat}  (x0 : Nat) (x1 : Nat) (x2 : Int32) (x3 : Int32) (hx0 : (19, x0) ∈ ids) (hx1 : (14, x1) ∈ ids) {z : St} {H : Heap} {locs : List Loc} {ls : Array Slot} (hr : zRep D cy B ids A s.heap z H locs) (hl : lv_has ls 9 [(0, .ref (B 19 x0)), (1, .ref (B 14 x1)), (2, .int x2), (3, .int x3)]) (h : fX19_arriveBytes_33 N x0 x1 x2 x3 z = some (r, z')) : W p l e rmX19_arriveBytes s m args below meth c H locs 0 0 Q (F0 m 33 ls []) := by
  unfold fX19_arriveBytes_33 at h
  refine lv_aload_n F.1 F.2.1 dX19_arriveBytes_33 rfl (lv_at hl 1 rfl) ?_
  replace h := zc_some h
  obtain ⟨r1, z2, hc3, h⟩ := h
  refine zr_calli (zrun_VN (As := []) (rest := []) zn_2723 zq_2708 zs_X14_room zq_2709 zq_21 hdX14_room (by decide) (T := TX14) (N := 47) rfl (okX14_room l D cy B ids hst N x1 hx1 hr.2.2 hc3) F hr hx1 hl.1 rfl (by decide) dX19_arriveBytes_34 rfl rfl hroX19_arriveBytes_X14_room ⟨Nat.zero_le _, Nat.zero_le _⟩) F hA hr (fun H locs hw4 hr => ?_)
  clear hc3
  refine lv_istore (lv' := [(4, .int r1), (0, .ref (B 19 x0)), (1, .ref (B 14 x1)), (2, .int x2), (3, .int x3)]) F.1 F.2.1 dX19_arriveBytes_37 hl (by decide) rfl (fun ls hl => ?_)
  refine lv_aload_n F.1 F.2.1 dX19_arriveBytes_39 rfl (lv_at hl 1 rfl) ?_
  refine lv_iload_n F.1 F.2.1 dX19_arriveBytes_40 rfl (lv_at hl 3 rfl) ?_
  refine lv_iconst (v := (3 : Int32)) F.1 F.2.1 dX19_arriveBytes_41 (by decide) ?_
  replace h := zc_some h
  obtain ⟨r5, z6, hc7, h⟩ := h
  refine zr_calli (zrun_V (As := [.int x2, .int (3 : Int32)]) (rest := []) zq_2557 zq_2559 zs_X19_seg zq_2560 zq_4 hdX19_seg (by decide) (T := TX19) (N := 32) rfl (okX19_seg l D cy B ids hst N x0 hx0 x2  (3 : Int32)  hr.2.2 hc7) F hr hx0 hl.1 rfl (by decide) dX19_arriveBytes_42 rfl rfl hroX19_arriveBytes_X19_seg ⟨Nat.zero_le _, Nat.zero_le _⟩) F hA hr (fun H locs hw8 hr => ?_)
  clear hc7
  refine lv_istore (lv' := [(5, .int r5), (4, .int r1), (0, .ref (B 19 x0)), (1, .ref (B 14 x1)), (2, .int x2), (3, .int x3)]) F.1 F.2.1 dX19_arriveBytes_45 hl (by decide) rfl (fun ls hl => ?_)
  refine lv_iconst (v := (0 : Int32)) F.1 F.2.1 dX19_arriveBytes_47 (by decide) ?_
  refine lv_istore (lv' := [(6, .int (0 : Int32)), (5, .int r5), (4, .int r1), (0, .ref (B 19 x0)), (1, .ref (B 14 x1)), (2, .int x2), (3, .int x3)]) F.1 F.2.1 dX19_arriveBytes_48 hl (by decide) rfl (fun ls hl => ?_)
  exact lX19_arriveBytes_50 hst F hA E  _ x0 x1 x2 x3 r1 r5 (0 : Int32) hx0 hx1 hr (lv_sub hl [3, 4, 5, 6, 2, 1, 0] rfl) h
def fX19_arriveBytes (N : Nat)  (x0 : Nat) (x1 : Nat) (x2 : Int32) (z : St) : Option (Int32 × St) := zc (fX19_seg N x0 x2 (7 : Int32) z) fun r1 z2 => if (zgI z2 14 0 x1) = (4 : Int32) then (fX19_arriveBytes_33 N x0 x1 x2 r1 z2) else (if (zgI z2 14 0 x1) = (5 : Int32) then (fX19_arriveBytes_33 N x0 x1 x2 r1 z2) else (if ¬ (zgI z2 14 0 x1) = (6 : Int32) then (fX19_arriveBytes_321 N x0 x1 x2 r1 z2) else (fX19_arriveBytes_33 N x0 x1 x2 r1 z2)))
set_option maxHeartbeats 4000000 in
set_option maxRecDepth 100000 in
theorem bX19_arriveBytes_0 (hst : zSt B ids) (F : zFx p m c cX19_arriveBytes 9 s args RX19 D cy B ids A) (hA : ∀ q : Nat, s.heap.size ≤ q → A q) {r : Int32} {z' : St} (E : zEnd p l e rmX19_arriveBytes s m args below meth c cX19_arriveBytes D cy B ids A Q none z' .return_ True) {N : Nat}  (x0 : Nat) (x1 : Nat) (x2 : Int32) (hx0 : (19, x0) ∈ ids) (hx1 : (14, x1) ∈ ids) {z : St} {H : Heap} {locs : List Loc} {ls : Array Slot} (hr : zRep D cy B ids A s.heap z H locs) (hl : lv_has ls 9 [(0, .ref (B 19 x0)), (1, .ref (B 14 x1)), (2, .int x2)]) (h : fX19_arriveBytes N x0 x1 x2 z = some (r, z')) : W p l e rmX19_arriveBytes s m args below meth c H locs 0 0 Q (F0 m 0 ls []) := by
  unfold fX19_arriveBytes at h
  refine lv_aload_n F.1 F.2.1 dX19_arriveBytes_0 rfl (lv_at hl 0 rfl) ?_
  refine lv_iload_n F.1 F.2.1 dX19_arriveBytes_1 rfl (lv_at hl 2 rfl) ?_
  refine lv_bipush (v := (7 : Int32)) F.1 F.2.1 dX19_arriveBytes_2 (by decide) ?_
  replace h := zc_some h
  obtain ⟨r1, z2, hc3, h⟩ := h
  refine zr_calli (zrun_V (As := [.int x2, .int (7 : Int32)]) (rest := []) zq_2557 zq_2559 zs_X19_seg zq_2560 zq_4 hdX19_seg (by decide) (T := TX19) (N := 32) rfl (okX19_seg l D cy B ids hst N x0 hx0 x2  (7 : Int32)  hr.2.2 hc3) F hr hx0 hl.1 rfl (by decide) dX19_arriveBytes_4 rfl rfl hroX19_arriveBytes_X19_seg ⟨Nat.zero_le _, Nat.zero_le _⟩) F hA hr (fun H locs hw4 hr => ?_)
  clear hc3
  refine lv_istore_n (lv' := [(3, .int r1), (0, .ref (B 19 x0)), (1, .ref (B 14 x1)), (2, .int x2)]) F.1 F.2.1 dX19_arriveBytes_7 rfl hl (by decide) rfl (fun ls hl => ?_)
  refine lv_aload_n F.1 F.2.1 dX19_arriveBytes_8 rfl (lv_at hl 2 rfl) ?_
  refine gf19_353 F hx1 hr dX19_arriveBytes_9 ?_
  refine lv_iconst (v := (4 : Int32)) F.1 F.2.1 dX19_arriveBytes_12 (by decide) ?_
  refine lv_icmp_eq (tgt := 33) F.1 F.2.1 dX19_arriveBytes_13 (by decide) (fun c5 => ?_) (fun c5 => ?_)
  · replace h := zi_t c5 h
    exact bX19_arriveBytes_33 hst F hA E  x0 x1 x2 r1 hx0 hx1 hr (lv_sub hl [1, 2, 3, 0] rfl) h
  · replace h := zi_f c5 h
    refine lv_aload_n F.1 F.2.1 dX19_arriveBytes_16 rfl (lv_at hl 2 rfl) ?_
    refine gf19_353 F hx1 hr dX19_arriveBytes_17 ?_
    refine lv_iconst (v := (5 : Int32)) F.1 F.2.1 dX19_arriveBytes_20 (by decide) ?_
    refine lv_icmp_eq (tgt := 33) F.1 F.2.1 dX19_arriveBytes_21 (by decide) (fun c6 => ?_) (fun c6 => ?_)
    · replace h := zi_t c6 h
      exact bX19_arriveBytes_33 hst F hA E  x0 x1 x2 r1 hx0 hx1 hr (lv_sub hl [1, 2, 3, 0] rfl) h
    · replace h := zi_f c6 h
      refine lv_aload_n F.1 F.2.1 dX19_arriveBytes_24 rfl (lv_at hl 2 rfl) ?_
      refine gf19_353 F hx1 hr dX19_arriveBytes_25 ?_
      refine lv_bipush (v := (6 : Int32)) F.1 F.2.1 dX19_arriveBytes_28 (by decide) ?_
      refine lv_icmp_ne (tgt := 321) F.1 F.2.1 dX19_arriveBytes_30 (by decide) (fun c7 => ?_) (fun c7 => ?_)
      · replace h := zi_t c7 h
        exact bX19_arriveBytes_321 hst F hA E  x0 x1 x2 r1 hx0 hx1 hr (lv_sub hl [1, 2, 3, 0] rfl) h
      · replace h := zi_f (fun q => q c7) h
        exact bX19_arriveBytes_33 hst F hA E  x0 x1 x2 r1 hx0 hx1 hr (lv_sub hl [1, 2, 3, 0] rfl) h
end SX19_arriveBytes
set_option maxRecDepth 100000 in
theorem okX19_arriveBytes (l : Launch) (D : va_G) (cy : Nat → ClassId) (B : Nat → Nat → Nat) (ids : List (Nat × Nat)) (hst : zSt B ids) (N : Nat) (x0 : Nat) (hx0 : (19, x0) ∈ ids) (x1 : Nat) (hx1 : (14, x1) ∈ ids) (x2 : Int32) {z : St} {r : Int32} {z' : St} (hW : zWf ids z) (h : fX19_arriveBytes N x0 x1 x2 z = some (r, z')) : zM l yX19_arriveBytes (zws yX19_arriveBytes cX19_arriveBytes 9 none) rmX19_arriveBytes D cy B ids [.ref (B 19 x0), .ref (B 14 x1), .int x2] none True z z' :=
  zM_of hst hW (by decide +kernel) (Nat.le_of_ble_eq_true rfl) (fun p e s m args below meth c A ls F hA hret hlocks hr hl => bX19_arriveBytes_0 hst F hA (zEnd_v F hret hlocks) x0 x1 x2 hx0 hx1 hr hl h)
abbrev rmX19_arriveListening : Room := { frames := 4, cells := 0, slots := 0, locals := 87 }
theorem hdX19_arriveListening : yX19_arriveListening.cls ≠ "java/lang/invoke/MethodHandle" ∧ yX19_arriveListening.cls ≠ "java/lang/invoke/VarHandle" ∧ (parseMethodDescriptor yX19_arriveListening.desc).map (fun d => d.parameters.length) = some 2 := by decide +kernel
theorem hroX19_arriveListening_X19_answer : rmX19_answer.frames + 1 ≤ rmX19_arriveListening.frames ∧ 8 + (3 + 11) + rmX19_answer.locals ≤ rmX19_arriveListening.locals := by decide
theorem hroX19_arriveListening_X19_has : rmX19_has.frames + 1 ≤ rmX19_arriveListening.frames ∧ 8 + (3 + 11) + rmX19_has.locals ≤ rmX19_arriveListening.locals := by decide
theorem hroX19_arriveListening_X19_takeOpen : rmX19_takeOpen.frames + 1 ≤ rmX19_arriveListening.frames ∧ 8 + (5 + 11) + rmX19_takeOpen.locals ≤ rmX19_arriveListening.locals := by decide
section SX19_arriveListening
variable {p : Program} {l : Launch} {e : Env} {s : State} {m : MethodId} {args : Array Value} {below : List Frame} {meth : Method} {c : Code} {Q : State → Prop} {D : va_G} {cy : Nat → ClassId} {B : Nat → Nat → Nat} {ids : List (Nat × Nat)} {A : Nat → Prop}
def fX19_arriveListening (N : Nat)  (x0 : Nat) (x1 : Nat) (x2 : Int32) (z : St) : Option (Int32 × St) := zc (fX19_has N x0 x2 (4 : Int32) z) fun r1 z2 => if r1 = 0 then (zc (fX19_has N x0 x2 (8 : Int32) z2) fun r6 z7 => if r6 = 0 then (zc (fX19_has N x0 x2 (1 : Int32) z7) fun r11 z12 => if r11 = 0 then (some (0, z12)) else (zc (fX19_takeOpen N x0 x1 x2 z12) fun _ z17 => zl (zsI z17 14 0 x1 (3 : Int32)) fun z20 => zl (zsI z20 14 7 x1 ((zgI z20 14 5 x1) + (1 : Int32))) fun z21 => zl (zsI z21 14 28 x1 (1 : Int32)) fun z22 => some (0, z22))) else (zc (fX19_answer N x0 x1 x2 z7) fun _ z24 => some (0, z24))) else (some (0, z2))
set_option maxHeartbeats 4000000 in
set_option maxRecDepth 100000 in
theorem bX19_arriveListening_0 (hst : zSt B ids) (F : zFx p m c cX19_arriveListening 3 s args RX19 D cy B ids A) (hA : ∀ q : Nat, s.heap.size ≤ q → A q) {r : Int32} {z' : St} (E : zEnd p l e rmX19_arriveListening s m args below meth c cX19_arriveListening D cy B ids A Q none z' .return_ True) {N : Nat}  (x0 : Nat) (x1 : Nat) (x2 : Int32) (hx0 : (19, x0) ∈ ids) (hx1 : (14, x1) ∈ ids) {z : St} {H : Heap} {locs : List Loc} {ls : Array Slot} (hr : zRep D cy B ids A s.heap z H locs) (hl : lv_has ls 3 [(0, .ref (B 19 x0)), (1, .ref (B 14 x1)), (2, .int x2)]) (h : fX19_arriveListening N x0 x1 x2 z = some (r, z')) : W p l e rmX19_arriveListening s m args below meth c H locs 0 0 Q (F0 m 0 ls []) := by
  unfold fX19_arriveListening at h
  refine lv_aload_n F.1 F.2.1 dX19_arriveListening_0 rfl (lv_at hl 0 rfl) ?_
  refine lv_iload_n F.1 F.2.1 dX19_arriveListening_1 rfl (lv_at hl 2 rfl) ?_
  refine lv_iconst (v := (4 : Int32)) F.1 F.2.1 dX19_arriveListening_2 (by decide) ?_
  replace h := zc_some h
  obtain ⟨r1, z2, hc3, h⟩ := h
  refine zr_calli (zrun_V (As := [.int x2, .int (4 : Int32)]) (rest := []) zq_2663 zq_2665 zs_X19_has zq_2666 zq_4 hdX19_has (by decide) (T := TX19) (N := 32) rfl (okX19_has l D cy B ids hst N x0 hx0 x2  (4 : Int32)  hr.2.2 hc3) F hr hx0 hl.1 rfl (by decide) dX19_arriveListening_3 rfl rfl hroX19_arriveListening_X19_has ⟨Nat.zero_le _, Nat.zero_le _⟩) F hA hr (fun H locs hw4 hr => ?_)
  clear hc3
  refine lv_if_eq (tgt := 10) F.1 F.2.1 dX19_arriveListening_6 (by decide) (fun c5 => ?_) (fun c5 => ?_)
  · replace h := zi_t c5 h
    refine lv_aload_n F.1 F.2.1 dX19_arriveListening_10 rfl (lv_at hl 0 rfl) ?_
    refine lv_iload_n F.1 F.2.1 dX19_arriveListening_11 rfl (lv_at hl 2 rfl) ?_
    refine lv_bipush (v := (8 : Int32)) F.1 F.2.1 dX19_arriveListening_12 (by decide) ?_
    replace h := zc_some h
    obtain ⟨r6, z7, hc8, h⟩ := h
    refine zr_calli (zrun_V (As := [.int x2, .int (8 : Int32)]) (rest := []) zq_2663 zq_2665 zs_X19_has zq_2666 zq_4 hdX19_has (by decide) (T := TX19) (N := 32) rfl (okX19_has l D cy B ids hst N x0 hx0 x2  (8 : Int32)  hr.2.2 hc8) F hr hx0 hl.1 rfl (by decide) dX19_arriveListening_14 rfl rfl hroX19_arriveListening_X19_has ⟨Nat.zero_le _, Nat.zero_le _⟩) F hA hr (fun H locs hw9 hr => ?_)
    clear hc8
    refine lv_if_eq (tgt := 29) F.1 F.2.1 dX19_arriveListening_17 (by decide) (fun c10 => ?_) (fun c10 => ?_)
    · replace h := zi_t c10 h
      refine lv_aload_n F.1 F.2.1 dX19_arriveListening_29 rfl (lv_at hl 0 rfl) ?_
      refine lv_iload_n F.1 F.2.1 dX19_arriveListening_30 rfl (lv_at hl 2 rfl) ?_
      refine lv_iconst (v := (1 : Int32)) F.1 F.2.1 dX19_arriveListening_31 (by decide) ?_
      replace h := zc_some h
      obtain ⟨r11, z12, hc13, h⟩ := h
      refine zr_calli (zrun_V (As := [.int x2, .int (1 : Int32)]) (rest := []) zq_2663 zq_2665 zs_X19_has zq_2666 zq_4 hdX19_has (by decide) (T := TX19) (N := 32) rfl (okX19_has l D cy B ids hst N x0 hx0 x2  (1 : Int32)  hr.2.2 hc13) F hr hx0 hl.1 rfl (by decide) dX19_arriveListening_32 rfl rfl hroX19_arriveListening_X19_has ⟨Nat.zero_le _, Nat.zero_le _⟩) F hA hr (fun H locs hw14 hr => ?_)
      clear hc13
      refine lv_if_eq (tgt := 64) F.1 F.2.1 dX19_arriveListening_35 (by decide) (fun c15 => ?_) (fun c15 => ?_)
      · replace h := zi_t c15 h
        obtain ⟨rfl, rfl⟩ := zret h
        exact E _ _ _ _ dX19_arriveListening_64 trivial hr
      · replace h := zi_f c15 h
        refine lv_aload_n F.1 F.2.1 dX19_arriveListening_38 rfl (lv_at hl 0 rfl) ?_
        refine lv_aload_n F.1 F.2.1 dX19_arriveListening_39 rfl (lv_at hl 1 rfl) ?_
        refine lv_iload_n F.1 F.2.1 dX19_arriveListening_40 rfl (lv_at hl 2 rfl) ?_
        replace h := zc_some h
        obtain ⟨r16, z17, hc18, h⟩ := h
        refine zr_callv (zrun_V (As := [.ref (B 14 x1), .int x2]) (rest := []) zq_2679 zq_2681 zs_X19_takeOpen zq_2682 zq_4 hdX19_takeOpen (by decide) (T := TX19) (N := 32) rfl (okX19_takeOpen l D cy B ids hst N x0 hx0 x1 hx1 x2  hr.2.2 hc18) F hr hx0 hl.1 rfl (by decide) dX19_arriveListening_41 rfl rfl hroX19_arriveListening_X19_takeOpen ⟨Nat.zero_le _, Nat.zero_le _⟩) F hA hr (fun H locs hw19 hr => ?_)
        clear hc18
        refine lv_aload_n F.1 F.2.1 dX19_arriveListening_44 rfl (lv_at hl 1 rfl) ?_
        refine lv_iconst (v := (3 : Int32)) F.1 F.2.1 dX19_arriveListening_45 (by decide) ?_
        refine pf19_353 F hx1 hr dX19_arriveListening_46 (3 : Int32) (fun H locs z20 ez20 hr => ?_)
        replace h := zl_sub ez20 h
        clear ez20
        refine lv_aload_n F.1 F.2.1 dX19_arriveListening_49 rfl (lv_at hl 1 rfl) ?_
        refine lv_aload_n F.1 F.2.1 dX19_arriveListening_50 rfl (lv_at hl 1 rfl) ?_
        refine gf19_588 F hx1 hr dX19_arriveListening_51 ?_
        refine lv_iconst (v := (1 : Int32)) F.1 F.2.1 dX19_arriveListening_54 (by decide) ?_
        refine lv_iadd F.1 F.2.1 dX19_arriveListening_55 ?_
        refine pf19_600 F hx1 hr dX19_arriveListening_56 ((zgI z20 14 5 x1) + (1 : Int32)) (fun H locs z21 ez21 hr => ?_)
        replace h := zl_sub ez21 h
        clear ez21
        refine lv_aload_n F.1 F.2.1 dX19_arriveListening_59 rfl (lv_at hl 1 rfl) ?_
        refine lv_iconst (v := (1 : Int32)) F.1 F.2.1 dX19_arriveListening_60 (by decide) ?_
        refine pf19_613 F hx1 hr dX19_arriveListening_61 (1 : Int32) (by decide) (fun H locs z22 ez22 hr => ?_)
        replace h := zl_sub ez22 h
        clear ez22
        obtain ⟨rfl, rfl⟩ := zret h
        exact E _ _ _ _ dX19_arriveListening_64 trivial hr
    · replace h := zi_f c10 h
      refine lv_aload_n F.1 F.2.1 dX19_arriveListening_20 rfl (lv_at hl 0 rfl) ?_
      refine lv_aload_n F.1 F.2.1 dX19_arriveListening_21 rfl (lv_at hl 1 rfl) ?_
      refine lv_iload_n F.1 F.2.1 dX19_arriveListening_22 rfl (lv_at hl 2 rfl) ?_
      replace h := zc_some h
      obtain ⟨r23, z24, hc25, h⟩ := h
      refine zr_callv (zrun_V (As := [.ref (B 14 x1), .int x2]) (rest := []) zq_2667 zq_2669 zs_X19_answer zq_2670 zq_4 hdX19_answer (by decide) (T := TX19) (N := 32) rfl (okX19_answer l D cy B ids hst N x0 hx0 x1 hx1 x2  hr.2.2 hc25) F hr hx0 hl.1 rfl (by decide) dX19_arriveListening_23 rfl rfl hroX19_arriveListening_X19_answer ⟨Nat.zero_le _, Nat.zero_le _⟩) F hA hr (fun H locs hw26 hr => ?_)
      clear hc25
      refine lv_goto (tgt := 64) F.1 F.2.1 dX19_arriveListening_26 (by decide) ?_
      obtain ⟨rfl, rfl⟩ := zret h
      exact E _ _ _ _ dX19_arriveListening_64 trivial hr
  · replace h := zi_f c5 h
    obtain ⟨rfl, rfl⟩ := zret h
    exact E _ _ _ _ dX19_arriveListening_9 trivial hr
end SX19_arriveListening
set_option maxRecDepth 100000 in
theorem okX19_arriveListening (l : Launch) (D : va_G) (cy : Nat → ClassId) (B : Nat → Nat → Nat) (ids : List (Nat × Nat)) (hst : zSt B ids) (N : Nat) (x0 : Nat) (hx0 : (19, x0) ∈ ids) (x1 : Nat) (hx1 : (14, x1) ∈ ids) (x2 : Int32) {z : St} {r : Int32} {z' : St} (hW : zWf ids z) (h : fX19_arriveListening N x0 x1 x2 z = some (r, z')) : zM l yX19_arriveListening (zws yX19_arriveListening cX19_arriveListening 3 none) rmX19_arriveListening D cy B ids [.ref (B 19 x0), .ref (B 14 x1), .int x2] none True z z' :=
  zM_of hst hW (by decide +kernel) (Nat.le_of_ble_eq_true rfl) (fun p e s m args below meth c A ls F hA hret hlocks hr hl => bX19_arriveListening_0 hst F hA (zEnd_v F hret hlocks) x0 x1 x2 hx0 hx1 hr hl h)
abbrev rmX19_arriveThanks : Room := { frames := 2, cells := 0, slots := 0, locals := 44 }
theorem hdX19_arriveThanks : yX19_arriveThanks.cls ≠ "java/lang/invoke/MethodHandle" ∧ yX19_arriveThanks.cls ≠ "java/lang/invoke/VarHandle" ∧ (parseMethodDescriptor yX19_arriveThanks.desc).map (fun d => d.parameters.length) = some 2 := by decide +kernel
theorem hroX19_arriveThanks_X14_become : rmX14_become.frames + 1 ≤ rmX19_arriveThanks.frames ∧ 8 + (3 + 11) + rmX14_become.locals ≤ rmX19_arriveThanks.locals := by decide
theorem hroX19_arriveThanks_X14_thankedFor : rmX14_thankedFor.frames + 1 ≤ rmX19_arriveThanks.frames ∧ 8 + (3 + 11) + rmX14_thankedFor.locals ≤ rmX19_arriveThanks.locals := by decide
theorem hroX19_arriveThanks_X19_isBefore : rmX19_isBefore.frames + 1 ≤ rmX19_arriveThanks.frames ∧ 8 + (2 + 11) + rmX19_isBefore.locals ≤ rmX19_arriveThanks.locals := by decide
theorem hroX19_arriveThanks_X19_seg : rmX19_seg.frames + 1 ≤ rmX19_arriveThanks.frames ∧ 8 + (3 + 11) + rmX19_seg.locals ≤ rmX19_arriveThanks.locals := by decide
section SX19_arriveThanks
variable {p : Program} {l : Launch} {e : Env} {s : State} {m : MethodId} {args : Array Value} {below : List Frame} {meth : Method} {c : Code} {Q : State → Prop} {D : va_G} {cy : Nat → ClassId} {B : Nat → Nat → Nat} {ids : List (Nat × Nat)} {A : Nat → Prop}
def fX19_arriveThanks_195 (N : Nat)  (x0 : Nat) (x1 : Nat) (z : St) : Option (Int32 × St) := if (zgI z 14 9 x1) = 0 then (some (0, z)) else (zc (fX19_isBefore N (zgI z 14 8 x1) (zgI z 14 6 x1) z) fun r2 z3 => if r2 = 0 then (some (0, z3)) else (if ¬ (zgI z3 14 0 x1) = (5 : Int32) then (if ¬ (zgI z3 14 0 x1) = (8 : Int32) then (if ¬ (zgI z3 14 0 x1) = (9 : Int32) then (some (0, z3)) else (zc (fX14_become N x1 (0 : Int32) (zgI z3 19 24 x0) z3) fun _ z11 => some (0, z11))) else (zc (fX14_become N x1 (10 : Int32) (zgI z3 19 24 x0) z3) fun _ z15 => some (0, z15))) else (zc (fX14_become N x1 (6 : Int32) (zgI z3 19 24 x0) z3) fun _ z19 => some (0, z19))))
set_option maxHeartbeats 4000000 in
set_option maxRecDepth 100000 in
theorem bX19_arriveThanks_195 (hst : zSt B ids) (F : zFx p m c cX19_arriveThanks 6 s args RX19 D cy B ids A) (hA : ∀ q : Nat, s.heap.size ≤ q → A q) {r : Int32} {z' : St} (E : zEnd p l e rmX19_arriveThanks s m args below meth c cX19_arriveThanks D cy B ids A Q none z' .return_ True) {N : Nat}  (x0 : Nat) (x1 : Nat) (hx0 : (19, x0) ∈ ids) (hx1 : (14, x1) ∈ ids) {z : St} {H : Heap} {locs : List Loc} {ls : Array Slot} (hr : zRep D cy B ids A s.heap z H locs) (hl : lv_has ls 6 [(0, .ref (B 19 x0)), (1, .ref (B 14 x1))]) (h : fX19_arriveThanks_195 N x0 x1 z = some (r, z')) : W p l e rmX19_arriveThanks s m args below meth c H locs 0 0 Q (F0 m 195 ls []) := by
  unfold fX19_arriveThanks_195 at h
  refine lv_aload_n F.1 F.2.1 dX19_arriveThanks_195 rfl (lv_at hl 1 rfl) ?_
  refine gf19_634 F hx1 hr dX19_arriveThanks_196 ?_
  refine lv_if_eq (tgt := 277) F.1 F.2.1 dX19_arriveThanks_199 (by decide) (fun c1 => ?_) (fun c1 => ?_)
  · replace h := zi_t c1 h
    obtain ⟨rfl, rfl⟩ := zret h
    exact E _ _ _ _ dX19_arriveThanks_277 trivial hr
  · replace h := zi_f c1 h
    refine lv_aload_n F.1 F.2.1 dX19_arriveThanks_202 rfl (lv_at hl 1 rfl) ?_
    refine gf19_658 F hx1 hr dX19_arriveThanks_203 ?_
    refine lv_aload_n F.1 F.2.1 dX19_arriveThanks_206 rfl (lv_at hl 1 rfl) ?_
    refine gf19_646 F hx1 hr dX19_arriveThanks_207 ?_
    replace h := zc_some h
    obtain ⟨r2, z3, hc4, h⟩ := h
    refine zr_calli (zrun_S (As := [.int (zgI z 14 8 x1), .int (zgI z 14 6 x1)]) (rest := []) zq_2714 zq_2692 zq_2693 zq_4 hdX19_isBefore (okX19_isBefore l D cy B ids hst N (zgI z 14 8 x1)  (zgI z 14 6 x1)  hr.2.2 hc4) F hr hl.1 rfl (by decide) dX19_arriveThanks_210 rfl rfl hroX19_arriveThanks_X19_isBefore ⟨Nat.zero_le _, Nat.zero_le _⟩) F hA hr (fun H locs hw5 hr => ?_)
    clear hc4
    refine lv_if_eq (tgt := 277) F.1 F.2.1 dX19_arriveThanks_213 (by decide) (fun c6 => ?_) (fun c6 => ?_)
    · replace h := zi_t c6 h
      obtain ⟨rfl, rfl⟩ := zret h
      exact E _ _ _ _ dX19_arriveThanks_277 trivial hr
    · replace h := zi_f c6 h
      refine lv_aload_n F.1 F.2.1 dX19_arriveThanks_216 rfl (lv_at hl 1 rfl) ?_
      refine gf19_353 F hx1 hr dX19_arriveThanks_217 ?_
      refine lv_iconst (v := (5 : Int32)) F.1 F.2.1 dX19_arriveThanks_220 (by decide) ?_
      refine lv_icmp_ne (tgt := 237) F.1 F.2.1 dX19_arriveThanks_221 (by decide) (fun c7 => ?_) (fun c7 => ?_)
      · replace h := zi_t c7 h
        refine lv_aload_n F.1 F.2.1 dX19_arriveThanks_237 rfl (lv_at hl 1 rfl) ?_
        refine gf19_353 F hx1 hr dX19_arriveThanks_238 ?_
        refine lv_bipush (v := (8 : Int32)) F.1 F.2.1 dX19_arriveThanks_241 (by decide) ?_
        refine lv_icmp_ne (tgt := 259) F.1 F.2.1 dX19_arriveThanks_243 (by decide) (fun c8 => ?_) (fun c8 => ?_)
        · replace h := zi_t c8 h
          refine lv_aload_n F.1 F.2.1 dX19_arriveThanks_259 rfl (lv_at hl 1 rfl) ?_
          refine gf19_353 F hx1 hr dX19_arriveThanks_260 ?_
          refine lv_bipush (v := (9 : Int32)) F.1 F.2.1 dX19_arriveThanks_263 (by decide) ?_
          refine lv_icmp_ne (tgt := 277) F.1 F.2.1 dX19_arriveThanks_265 (by decide) (fun c9 => ?_) (fun c9 => ?_)
          · replace h := zi_t c9 h
            obtain ⟨rfl, rfl⟩ := zret h
            exact E _ _ _ _ dX19_arriveThanks_277 trivial hr
          · replace h := zi_f (fun q => q c9) h
            refine lv_aload_n F.1 F.2.1 dX19_arriveThanks_268 rfl (lv_at hl 1 rfl) ?_
            refine lv_iconst (v := (0 : Int32)) F.1 F.2.1 dX19_arriveThanks_269 (by decide) ?_
            refine lv_aload_n F.1 F.2.1 dX19_arriveThanks_270 rfl (lv_at hl 0 rfl) ?_
            refine gf19_143 F hx0 hr dX19_arriveThanks_271 ?_
            replace h := zc_some h
            obtain ⟨r10, z11, hc12, h⟩ := h
            refine zr_callv (zrun_VN (As := [.int (0 : Int32), .int (zgI z3 19 24 x0)]) (rest := []) zn_2643 zq_2645 zs_X14_become zq_2646 zq_21 hdX14_become (by decide) (T := TX14) (N := 47) rfl (okX14_become l D cy B ids hst N x1 hx1 (0 : Int32)  (zgI z3 19 24 x0)  hr.2.2 hc12) F hr hx1 hl.1 rfl (by decide) dX19_arriveThanks_274 rfl rfl hroX19_arriveThanks_X14_become ⟨Nat.zero_le _, Nat.zero_le _⟩) F hA hr (fun H locs hw13 hr => ?_)
            clear hc12
            obtain ⟨rfl, rfl⟩ := zret h
            exact E _ _ _ _ dX19_arriveThanks_277 trivial hr
        · replace h := zi_f (fun q => q c8) h
          refine lv_aload_n F.1 F.2.1 dX19_arriveThanks_246 rfl (lv_at hl 1 rfl) ?_
          refine lv_bipush (v := (10 : Int32)) F.1 F.2.1 dX19_arriveThanks_247 (by decide) ?_
          refine lv_aload_n F.1 F.2.1 dX19_arriveThanks_249 rfl (lv_at hl 0 rfl) ?_
          refine gf19_143 F hx0 hr dX19_arriveThanks_250 ?_
          replace h := zc_some h
          obtain ⟨r14, z15, hc16, h⟩ := h
          refine zr_callv (zrun_VN (As := [.int (10 : Int32), .int (zgI z3 19 24 x0)]) (rest := []) zn_2643 zq_2645 zs_X14_become zq_2646 zq_21 hdX14_become (by decide) (T := TX14) (N := 47) rfl (okX14_become l D cy B ids hst N x1 hx1 (10 : Int32)  (zgI z3 19 24 x0)  hr.2.2 hc16) F hr hx1 hl.1 rfl (by decide) dX19_arriveThanks_253 rfl rfl hroX19_arriveThanks_X14_become ⟨Nat.zero_le _, Nat.zero_le _⟩) F hA hr (fun H locs hw17 hr => ?_)
          clear hc16
          refine lv_goto (tgt := 277) F.1 F.2.1 dX19_arriveThanks_256 (by decide) ?_
          obtain ⟨rfl, rfl⟩ := zret h
          exact E _ _ _ _ dX19_arriveThanks_277 trivial hr
      · replace h := zi_f (fun q => q c7) h
        refine lv_aload_n F.1 F.2.1 dX19_arriveThanks_224 rfl (lv_at hl 1 rfl) ?_
        refine lv_bipush (v := (6 : Int32)) F.1 F.2.1 dX19_arriveThanks_225 (by decide) ?_
        refine lv_aload_n F.1 F.2.1 dX19_arriveThanks_227 rfl (lv_at hl 0 rfl) ?_
        refine gf19_143 F hx0 hr dX19_arriveThanks_228 ?_
        replace h := zc_some h
        obtain ⟨r18, z19, hc20, h⟩ := h
        refine zr_callv (zrun_VN (As := [.int (6 : Int32), .int (zgI z3 19 24 x0)]) (rest := []) zn_2643 zq_2645 zs_X14_become zq_2646 zq_21 hdX14_become (by decide) (T := TX14) (N := 47) rfl (okX14_become l D cy B ids hst N x1 hx1 (6 : Int32)  (zgI z3 19 24 x0)  hr.2.2 hc20) F hr hx1 hl.1 rfl (by decide) dX19_arriveThanks_231 rfl rfl hroX19_arriveThanks_X14_become ⟨Nat.zero_le _, Nat.zero_le _⟩) F hA hr (fun H locs hw21 hr => ?_)
        clear hc20
        refine lv_goto (tgt := 277) F.1 F.2.1 dX19_arriveThanks_234 (by decide) ?_
        obtain ⟨rfl, rfl⟩ := zret h
        exact E _ _ _ _ dX19_arriveThanks_277 trivial hr
def fX19_arriveThanks_177 (N : Nat)  (x0 : Nat) (x1 : Nat) (s0 : Nat) (s1 : Int32) (z : St) : Option (Int32 × St) := zq (s1 = 0 ∨ s1 = 1) <| zl (zsI z 14 33 s0 s1) fun z1 => fX19_arriveThanks_195 N x0 x1 z1
set_option maxHeartbeats 4000000 in
set_option maxRecDepth 100000 in
theorem bX19_arriveThanks_177 (hst : zSt B ids) (F : zFx p m c cX19_arriveThanks 6 s args RX19 D cy B ids A) (hA : ∀ q : Nat, s.heap.size ≤ q → A q) {r : Int32} {z' : St} (E : zEnd p l e rmX19_arriveThanks s m args below meth c cX19_arriveThanks D cy B ids A Q none z' .return_ True) {N : Nat}  (x0 : Nat) (x1 : Nat) (s0 : Nat) (s1 : Int32) (hx0 : (19, x0) ∈ ids) (hx1 : (14, x1) ∈ ids) (hs0 : (14, s0) ∈ ids) {z : St} {H : Heap} {locs : List Loc} {ls : Array Slot} (hr : zRep D cy B ids A s.heap z H locs) (hl : lv_has ls 6 [(0, .ref (B 19 x0)), (1, .ref (B 14 x1))]) (h : fX19_arriveThanks_177 N x0 x1 s0 s1 z = some (r, z')) : W p l e rmX19_arriveThanks s m args below meth c H locs 0 0 Q (F0 m 177 ls [.int s1, .ref (B 14 s0)]) := by
  unfold fX19_arriveThanks_177 at h
  replace h := zq_some h
  obtain ⟨c2, h⟩ := h
  refine pf19_655 F hs0 hr dX19_arriveThanks_177 s1 c2 (fun H locs z1 ez1 hr => ?_)
  replace h := zl_sub ez1 h
  clear ez1
  refine lv_goto (tgt := 195) F.1 F.2.1 dX19_arriveThanks_180 (by decide) ?_
  exact bX19_arriveThanks_195 hst F hA E  x0 x1 hx0 hx1 hr (lv_sub hl [0, 1] rfl) h
def fX19_arriveThanks_176 (N : Nat)  (x0 : Nat) (x1 : Nat) (s0 : Nat) (z : St) : Option (Int32 × St) := fX19_arriveThanks_177 N x0 x1 s0 (0 : Int32) z
set_option maxHeartbeats 4000000 in
set_option maxRecDepth 100000 in
theorem bX19_arriveThanks_176 (hst : zSt B ids) (F : zFx p m c cX19_arriveThanks 6 s args RX19 D cy B ids A) (hA : ∀ q : Nat, s.heap.size ≤ q → A q) {r : Int32} {z' : St} (E : zEnd p l e rmX19_arriveThanks s m args below meth c cX19_arriveThanks D cy B ids A Q none z' .return_ True) {N : Nat}  (x0 : Nat) (x1 : Nat) (s0 : Nat) (hx0 : (19, x0) ∈ ids) (hx1 : (14, x1) ∈ ids) (hs0 : (14, s0) ∈ ids) {z : St} {H : Heap} {locs : List Loc} {ls : Array Slot} (hr : zRep D cy B ids A s.heap z H locs) (hl : lv_has ls 6 [(0, .ref (B 19 x0)), (1, .ref (B 14 x1))]) (h : fX19_arriveThanks_176 N x0 x1 s0 z = some (r, z')) : W p l e rmX19_arriveThanks s m args below meth c H locs 0 0 Q (F0 m 176 ls [.ref (B 14 s0)]) := by
  unfold fX19_arriveThanks_176 at h
  refine lv_iconst (v := (0 : Int32)) F.1 F.2.1 dX19_arriveThanks_176 (by decide) ?_
  exact bX19_arriveThanks_177 hst F hA E  x0 x1 s0 (0 : Int32) hx0 hx1 hs0 hr (lv_sub hl [0, 1] rfl) h
def fX19_arriveThanks_111 (N : Nat)  (x0 : Nat) (x1 : Nat) (x2 : Int32) (x3 : Int32) (s0 : Int32) (z : St) : Option (Int32 × St) := zc (fX19_seg N x0 x2 (5 : Int32) z) fun r1 z2 => zl (zsI z2 14 11 x1 r1) fun z5 => zc (fX19_seg N x0 x2 (3 : Int32) z5) fun r6 z7 => zl (zsI z7 14 12 x1 r6) fun z10 => zl (zsI z10 14 13 x1 x3) fun z11 => if s0 = 0 then (if ¬ (zgI z11 14 11 x1) = 0 then (fX19_arriveThanks_195 N x0 x1 z11) else (zl (zsI z11 14 36 x1 (0 : Int32)) fun z14 => fX19_arriveThanks_195 N x0 x1 z14)) else (zl (zsI z11 14 36 x1 (0 : Int32)) fun z15 => zl (zsI z15 14 31 x1 (0 : Int32)) fun z16 => if (zgI z16 14 33 x1) = 0 then (fX19_arriveThanks_176 N x0 x1 x1 z16) else (if (zgI z16 14 6 x1) = (zgI z16 14 7 x1) then (fX19_arriveThanks_176 N x0 x1 x1 z16) else (fX19_arriveThanks_177 N x0 x1 x1 (1 : Int32) z16)))
set_option maxHeartbeats 4000000 in
set_option maxRecDepth 100000 in
theorem bX19_arriveThanks_111 (hst : zSt B ids) (F : zFx p m c cX19_arriveThanks 6 s args RX19 D cy B ids A) (hA : ∀ q : Nat, s.heap.size ≤ q → A q) {r : Int32} {z' : St} (E : zEnd p l e rmX19_arriveThanks s m args below meth c cX19_arriveThanks D cy B ids A Q none z' .return_ True) {N : Nat}  (x0 : Nat) (x1 : Nat) (x2 : Int32) (x3 : Int32) (s0 : Int32) (hx0 : (19, x0) ∈ ids) (hx1 : (14, x1) ∈ ids) {z : St} {H : Heap} {locs : List Loc} {ls : Array Slot} (hr : zRep D cy B ids A s.heap z H locs) (hl : lv_has ls 6 [(0, .ref (B 19 x0)), (1, .ref (B 14 x1)), (2, .int x2), (3, .int x3)]) (h : fX19_arriveThanks_111 N x0 x1 x2 x3 s0 z = some (r, z')) : W p l e rmX19_arriveThanks s m args below meth c H locs 0 0 Q (F0 m 111 ls [.int s0]) := by
  unfold fX19_arriveThanks_111 at h
  refine lv_istore (lv' := [(5, .int s0), (0, .ref (B 19 x0)), (1, .ref (B 14 x1)), (2, .int x2), (3, .int x3)]) F.1 F.2.1 dX19_arriveThanks_111 hl (by decide) rfl (fun ls hl => ?_)
  refine lv_aload_n F.1 F.2.1 dX19_arriveThanks_113 rfl (lv_at hl 2 rfl) ?_
  refine lv_aload_n F.1 F.2.1 dX19_arriveThanks_114 rfl (lv_at hl 1 rfl) ?_
  refine lv_iload_n F.1 F.2.1 dX19_arriveThanks_115 rfl (lv_at hl 3 rfl) ?_
  refine lv_iconst (v := (5 : Int32)) F.1 F.2.1 dX19_arriveThanks_116 (by decide) ?_
  replace h := zc_some h
  obtain ⟨r1, z2, hc3, h⟩ := h
  refine zr_calli (zrun_V (As := [.int x2, .int (5 : Int32)]) (rest := [.ref (B 14 x1)]) zq_2557 zq_2559 zs_X19_seg zq_2560 zq_4 hdX19_seg (by decide) (T := TX19) (N := 32) rfl (okX19_seg l D cy B ids hst N x0 hx0 x2  (5 : Int32)  hr.2.2 hc3) F hr hx0 hl.1 rfl (Nat.le_of_ble_eq_true rfl) dX19_arriveThanks_117 rfl rfl hroX19_arriveThanks_X19_seg ⟨Nat.zero_le _, Nat.zero_le _⟩) F hA hr (fun H locs hw4 hr => ?_)
  clear hc3
  refine pf19_582 F hx1 hr dX19_arriveThanks_120 r1 (fun H locs z5 ez5 hr => ?_)
  replace h := zl_sub ez5 h
  clear ez5
  refine lv_aload_n F.1 F.2.1 dX19_arriveThanks_123 rfl (lv_at hl 2 rfl) ?_
  refine lv_aload_n F.1 F.2.1 dX19_arriveThanks_124 rfl (lv_at hl 1 rfl) ?_
  refine lv_iload_n F.1 F.2.1 dX19_arriveThanks_125 rfl (lv_at hl 3 rfl) ?_
  refine lv_iconst (v := (3 : Int32)) F.1 F.2.1 dX19_arriveThanks_126 (by decide) ?_
  replace h := zc_some h
  obtain ⟨r6, z7, hc8, h⟩ := h
  refine zr_calli (zrun_V (As := [.int x2, .int (3 : Int32)]) (rest := [.ref (B 14 x1)]) zq_2557 zq_2559 zs_X19_seg zq_2560 zq_4 hdX19_seg (by decide) (T := TX19) (N := 32) rfl (okX19_seg l D cy B ids hst N x0 hx0 x2  (3 : Int32)  hr.2.2 hc8) F hr hx0 hl.1 rfl (Nat.le_of_ble_eq_true rfl) dX19_arriveThanks_127 rfl rfl hroX19_arriveThanks_X19_seg ⟨Nat.zero_le _, Nat.zero_le _⟩) F hA hr (fun H locs hw9 hr => ?_)
  clear hc8
  refine pf19_585 F hx1 hr dX19_arriveThanks_130 r6 (fun H locs z10 ez10 hr => ?_)
  replace h := zl_sub ez10 h
  clear ez10
  refine lv_aload_n F.1 F.2.1 dX19_arriveThanks_133 rfl (lv_at hl 2 rfl) ?_
  refine lv_iload_n F.1 F.2.1 dX19_arriveThanks_134 rfl (lv_at hl 4 rfl) ?_
  refine pf19_591 F hx1 hr dX19_arriveThanks_135 x3 (fun H locs z11 ez11 hr => ?_)
  replace h := zl_sub ez11 h
  clear ez11
  refine lv_iload F.1 F.2.1 dX19_arriveThanks_138 (lv_at hl 0 rfl) ?_
  refine lv_if_eq (tgt := 183) F.1 F.2.1 dX19_arriveThanks_140 (by decide) (fun c12 => ?_) (fun c12 => ?_)
  · replace h := zi_t c12 h
    refine lv_aload_n F.1 F.2.1 dX19_arriveThanks_183 rfl (lv_at hl 2 rfl) ?_
    refine gf19_582 F hx1 hr dX19_arriveThanks_184 ?_
    refine lv_if_ne (tgt := 195) F.1 F.2.1 dX19_arriveThanks_187 (by decide) (fun c13 => ?_) (fun c13 => ?_)
    · replace h := zi_t c13 h
      exact bX19_arriveThanks_195 hst F hA E  x0 x1 hx0 hx1 hr (lv_sub hl [1, 2] rfl) h
    · replace h := zi_f (fun q => q c13) h
      refine lv_aload_n F.1 F.2.1 dX19_arriveThanks_190 rfl (lv_at hl 2 rfl) ?_
      refine lv_iconst (v := (0 : Int32)) F.1 F.2.1 dX19_arriveThanks_191 (by decide) ?_
      refine pf19_649 F hx1 hr dX19_arriveThanks_192 (0 : Int32) (fun H locs z14 ez14 hr => ?_)
      replace h := zl_sub ez14 h
      clear ez14
      exact bX19_arriveThanks_195 hst F hA E  x0 x1 hx0 hx1 hr (lv_sub hl [1, 2] rfl) h
  · replace h := zi_f c12 h
    refine lv_aload_n F.1 F.2.1 dX19_arriveThanks_143 rfl (lv_at hl 2 rfl) ?_
    refine lv_iconst (v := (0 : Int32)) F.1 F.2.1 dX19_arriveThanks_144 (by decide) ?_
    refine pf19_649 F hx1 hr dX19_arriveThanks_145 (0 : Int32) (fun H locs z15 ez15 hr => ?_)
    replace h := zl_sub ez15 h
    clear ez15
    refine lv_aload_n F.1 F.2.1 dX19_arriveThanks_148 rfl (lv_at hl 2 rfl) ?_
    refine lv_iconst (v := (0 : Int32)) F.1 F.2.1 dX19_arriveThanks_149 (by decide) ?_
    refine pf19_652 F hx1 hr dX19_arriveThanks_150 (0 : Int32) (by decide) (fun H locs z16 ez16 hr => ?_)
    replace h := zl_sub ez16 h
    clear ez16
    refine lv_aload_n F.1 F.2.1 dX19_arriveThanks_153 rfl (lv_at hl 2 rfl) ?_
    refine lv_aload_n F.1 F.2.1 dX19_arriveThanks_154 rfl (lv_at hl 2 rfl) ?_
    refine gf19_655 F hx1 hr dX19_arriveThanks_155 ?_
    refine lv_if_eq (tgt := 176) F.1 F.2.1 dX19_arriveThanks_158 (by decide) (fun c17 => ?_) (fun c17 => ?_)
    · replace h := zi_t c17 h
      exact bX19_arriveThanks_176 hst F hA E  x0 x1 x1 hx0 hx1 hx1 hr (lv_sub hl [1, 2] rfl) h
    · replace h := zi_f c17 h
      refine lv_aload_n F.1 F.2.1 dX19_arriveThanks_161 rfl (lv_at hl 2 rfl) ?_
      refine gf19_646 F hx1 hr dX19_arriveThanks_162 ?_
      refine lv_aload_n F.1 F.2.1 dX19_arriveThanks_165 rfl (lv_at hl 2 rfl) ?_
      refine gf19_600 F hx1 hr dX19_arriveThanks_166 ?_
      refine lv_icmp_eq (tgt := 176) F.1 F.2.1 dX19_arriveThanks_169 (by decide) (fun c18 => ?_) (fun c18 => ?_)
      · replace h := zi_t c18 h
        exact bX19_arriveThanks_176 hst F hA E  x0 x1 x1 hx0 hx1 hx1 hr (lv_sub hl [1, 2] rfl) h
      · replace h := zi_f c18 h
        refine lv_iconst (v := (1 : Int32)) F.1 F.2.1 dX19_arriveThanks_172 (by decide) ?_
        refine lv_goto (tgt := 177) F.1 F.2.1 dX19_arriveThanks_173 (by decide) ?_
        exact bX19_arriveThanks_177 hst F hA E  x0 x1 x1 (1 : Int32) hx0 hx1 hx1 hr (lv_sub hl [1, 2] rfl) h
def fX19_arriveThanks_110 (N : Nat)  (x0 : Nat) (x1 : Nat) (x2 : Int32) (x3 : Int32) (z : St) : Option (Int32 × St) := fX19_arriveThanks_111 N x0 x1 x2 x3 (0 : Int32) z
set_option maxHeartbeats 4000000 in
set_option maxRecDepth 100000 in
theorem bX19_arriveThanks_110 (hst : zSt B ids) (F : zFx p m c cX19_arriveThanks 6 s args RX19 D cy B ids A) (hA : ∀ q : Nat, s.heap.size ≤ q → A q) {r : Int32} {z' : St} (E : zEnd p l e rmX19_arriveThanks s m args below meth c cX19_arriveThanks D cy B ids A Q none z' .return_ True) {N : Nat}  (x0 : Nat) (x1 : Nat) (x2 : Int32) (x3 : Int32) (hx0 : (19, x0) ∈ ids) (hx1 : (14, x1) ∈ ids) {z : St} {H : Heap} {locs : List Loc} {ls : Array Slot} (hr : zRep D cy B ids A s.heap z H locs) (hl : lv_has ls 6 [(0, .ref (B 19 x0)), (1, .ref (B 14 x1)), (2, .int x2), (3, .int x3)]) (h : fX19_arriveThanks_110 N x0 x1 x2 x3 z = some (r, z')) : W p l e rmX19_arriveThanks s m args below meth c H locs 0 0 Q (F0 m 110 ls []) := by
  unfold fX19_arriveThanks_110 at h
  refine lv_iconst (v := (0 : Int32)) F.1 F.2.1 dX19_arriveThanks_110 (by decide) ?_
  exact bX19_arriveThanks_111 hst F hA E  x0 x1 x2 x3 (0 : Int32) hx0 hx1 hr (lv_sub hl [0, 1, 2, 3] rfl) h
def fX19_arriveThanks_72 (N : Nat)  (x0 : Nat) (x1 : Nat) (x2 : Int32) (x3 : Int32) (s0 : Int32) (z : St) : Option (Int32 × St) := zc (fX19_isBefore N x3 (zgI z 14 6 x1) z) fun r1 z2 => if ¬ r1 = 0 then (fX19_arriveThanks_195 N x0 x1 z2) else (if s0 = 0 then (fX19_arriveThanks_195 N x0 x1 z2) else (if ¬ (zgI z2 14 11 x1) = 0 then (fX19_arriveThanks_110 N x0 x1 x2 x3 z2) else (zc (fX19_seg N x0 x2 (5 : Int32) z2) fun r8 z9 => if r8 = 0 then (fX19_arriveThanks_110 N x0 x1 x2 x3 z9) else (fX19_arriveThanks_111 N x0 x1 x2 x3 (1 : Int32) z9))))
set_option maxHeartbeats 4000000 in
set_option maxRecDepth 100000 in
theorem bX19_arriveThanks_72 (hst : zSt B ids) (F : zFx p m c cX19_arriveThanks 6 s args RX19 D cy B ids A) (hA : ∀ q : Nat, s.heap.size ≤ q → A q) {r : Int32} {z' : St} (E : zEnd p l e rmX19_arriveThanks s m args below meth c cX19_arriveThanks D cy B ids A Q none z' .return_ True) {N : Nat}  (x0 : Nat) (x1 : Nat) (x2 : Int32) (x3 : Int32) (s0 : Int32) (hx0 : (19, x0) ∈ ids) (hx1 : (14, x1) ∈ ids) {z : St} {H : Heap} {locs : List Loc} {ls : Array Slot} (hr : zRep D cy B ids A s.heap z H locs) (hl : lv_has ls 6 [(0, .ref (B 19 x0)), (1, .ref (B 14 x1)), (2, .int x2), (3, .int x3)]) (h : fX19_arriveThanks_72 N x0 x1 x2 x3 s0 z = some (r, z')) : W p l e rmX19_arriveThanks s m args below meth c H locs 0 0 Q (F0 m 72 ls [.int s0]) := by
  unfold fX19_arriveThanks_72 at h
  refine lv_istore (lv' := [(4, .int s0), (0, .ref (B 19 x0)), (1, .ref (B 14 x1)), (2, .int x2), (3, .int x3)]) F.1 F.2.1 dX19_arriveThanks_72 hl (by decide) rfl (fun ls hl => ?_)
  refine lv_iload_n F.1 F.2.1 dX19_arriveThanks_74 rfl (lv_at hl 4 rfl) ?_
  refine lv_aload_n F.1 F.2.1 dX19_arriveThanks_75 rfl (lv_at hl 2 rfl) ?_
  refine gf19_646 F hx1 hr dX19_arriveThanks_76 ?_
  replace h := zc_some h
  obtain ⟨r1, z2, hc3, h⟩ := h
  refine zr_calli (zrun_S (As := [.int x3, .int (zgI z 14 6 x1)]) (rest := []) zq_2714 zq_2692 zq_2693 zq_4 hdX19_isBefore (okX19_isBefore l D cy B ids hst N x3  (zgI z 14 6 x1)  hr.2.2 hc3) F hr hl.1 rfl (by decide) dX19_arriveThanks_79 rfl rfl hroX19_arriveThanks_X19_isBefore ⟨Nat.zero_le _, Nat.zero_le _⟩) F hA hr (fun H locs hw4 hr => ?_)
  clear hc3
  refine lv_if_ne (tgt := 195) F.1 F.2.1 dX19_arriveThanks_82 (by decide) (fun c5 => ?_) (fun c5 => ?_)
  · replace h := zi_t c5 h
    exact bX19_arriveThanks_195 hst F hA E  x0 x1 hx0 hx1 hr (lv_sub hl [1, 2] rfl) h
  · replace h := zi_f (fun q => q c5) h
    refine lv_iload F.1 F.2.1 dX19_arriveThanks_85 (lv_at hl 0 rfl) ?_
    refine lv_if_eq (tgt := 195) F.1 F.2.1 dX19_arriveThanks_87 (by decide) (fun c6 => ?_) (fun c6 => ?_)
    · replace h := zi_t c6 h
      exact bX19_arriveThanks_195 hst F hA E  x0 x1 hx0 hx1 hr (lv_sub hl [1, 2] rfl) h
    · replace h := zi_f c6 h
      refine lv_aload_n F.1 F.2.1 dX19_arriveThanks_90 rfl (lv_at hl 2 rfl) ?_
      refine gf19_582 F hx1 hr dX19_arriveThanks_91 ?_
      refine lv_if_ne (tgt := 110) F.1 F.2.1 dX19_arriveThanks_94 (by decide) (fun c7 => ?_) (fun c7 => ?_)
      · replace h := zi_t c7 h
        exact bX19_arriveThanks_110 hst F hA E  x0 x1 x2 x3 hx0 hx1 hr (lv_sub hl [1, 2, 3, 4] rfl) h
      · replace h := zi_f (fun q => q c7) h
        refine lv_aload_n F.1 F.2.1 dX19_arriveThanks_97 rfl (lv_at hl 1 rfl) ?_
        refine lv_iload_n F.1 F.2.1 dX19_arriveThanks_98 rfl (lv_at hl 3 rfl) ?_
        refine lv_iconst (v := (5 : Int32)) F.1 F.2.1 dX19_arriveThanks_99 (by decide) ?_
        replace h := zc_some h
        obtain ⟨r8, z9, hc10, h⟩ := h
        refine zr_calli (zrun_V (As := [.int x2, .int (5 : Int32)]) (rest := []) zq_2557 zq_2559 zs_X19_seg zq_2560 zq_4 hdX19_seg (by decide) (T := TX19) (N := 32) rfl (okX19_seg l D cy B ids hst N x0 hx0 x2  (5 : Int32)  hr.2.2 hc10) F hr hx0 hl.1 rfl (by decide) dX19_arriveThanks_100 rfl rfl hroX19_arriveThanks_X19_seg ⟨Nat.zero_le _, Nat.zero_le _⟩) F hA hr (fun H locs hw11 hr => ?_)
        clear hc10
        refine lv_if_eq (tgt := 110) F.1 F.2.1 dX19_arriveThanks_103 (by decide) (fun c12 => ?_) (fun c12 => ?_)
        · replace h := zi_t c12 h
          exact bX19_arriveThanks_110 hst F hA E  x0 x1 x2 x3 hx0 hx1 hr (lv_sub hl [1, 2, 3, 4] rfl) h
        · replace h := zi_f c12 h
          refine lv_iconst (v := (1 : Int32)) F.1 F.2.1 dX19_arriveThanks_106 (by decide) ?_
          refine lv_goto (tgt := 111) F.1 F.2.1 dX19_arriveThanks_107 (by decide) ?_
          exact bX19_arriveThanks_111 hst F hA E  x0 x1 x2 x3 (1 : Int32) hx0 hx1 hr (lv_sub hl [1, 2, 3, 4] rfl) h
def fX19_arriveThanks_67 (N : Nat)  (x0 : Nat) (x1 : Nat) (x2 : Int32) (x3 : Int32) (z : St) : Option (Int32 × St) := fX19_arriveThanks_72 N x0 x1 x2 x3 (1 : Int32) z
set_option maxHeartbeats 4000000 in
set_option maxRecDepth 100000 in
theorem bX19_arriveThanks_67 (hst : zSt B ids) (F : zFx p m c cX19_arriveThanks 6 s args RX19 D cy B ids A) (hA : ∀ q : Nat, s.heap.size ≤ q → A q) {r : Int32} {z' : St} (E : zEnd p l e rmX19_arriveThanks s m args below meth c cX19_arriveThanks D cy B ids A Q none z' .return_ True) {N : Nat}  (x0 : Nat) (x1 : Nat) (x2 : Int32) (x3 : Int32) (hx0 : (19, x0) ∈ ids) (hx1 : (14, x1) ∈ ids) {z : St} {H : Heap} {locs : List Loc} {ls : Array Slot} (hr : zRep D cy B ids A s.heap z H locs) (hl : lv_has ls 6 [(0, .ref (B 19 x0)), (1, .ref (B 14 x1)), (2, .int x2), (3, .int x3)]) (h : fX19_arriveThanks_67 N x0 x1 x2 x3 z = some (r, z')) : W p l e rmX19_arriveThanks s m args below meth c H locs 0 0 Q (F0 m 67 ls []) := by
  unfold fX19_arriveThanks_67 at h
  refine lv_iconst (v := (1 : Int32)) F.1 F.2.1 dX19_arriveThanks_67 (by decide) ?_
  refine lv_goto (tgt := 72) F.1 F.2.1 dX19_arriveThanks_68 (by decide) ?_
  exact bX19_arriveThanks_72 hst F hA E  x0 x1 x2 x3 (1 : Int32) hx0 hx1 hr (lv_sub hl [0, 1, 2, 3] rfl) h
def fX19_arriveThanks_71 (N : Nat)  (x0 : Nat) (x1 : Nat) (x2 : Int32) (x3 : Int32) (z : St) : Option (Int32 × St) := fX19_arriveThanks_72 N x0 x1 x2 x3 (0 : Int32) z
set_option maxHeartbeats 4000000 in
set_option maxRecDepth 100000 in
theorem bX19_arriveThanks_71 (hst : zSt B ids) (F : zFx p m c cX19_arriveThanks 6 s args RX19 D cy B ids A) (hA : ∀ q : Nat, s.heap.size ≤ q → A q) {r : Int32} {z' : St} (E : zEnd p l e rmX19_arriveThanks s m args below meth c cX19_arriveThanks D cy B ids A Q none z' .return_ True) {N : Nat}  (x0 : Nat) (x1 : Nat) (x2 : Int32) (x3 : Int32) (hx0 : (19, x0) ∈ ids) (hx1 : (14, x1) ∈ ids) {z : St} {H : Heap} {locs : List Loc} {ls : Array Slot} (hr : zRep D cy B ids A s.heap z H locs) (hl : lv_has ls 6 [(0, .ref (B 19 x0)), (1, .ref (B 14 x1)), (2, .int x2), (3, .int x3)]) (h : fX19_arriveThanks_71 N x0 x1 x2 x3 z = some (r, z')) : W p l e rmX19_arriveThanks s m args below meth c H locs 0 0 Q (F0 m 71 ls []) := by
  unfold fX19_arriveThanks_71 at h
  refine lv_iconst (v := (0 : Int32)) F.1 F.2.1 dX19_arriveThanks_71 (by decide) ?_
  exact bX19_arriveThanks_72 hst F hA E  x0 x1 x2 x3 (0 : Int32) hx0 hx1 hr (lv_sub hl [0, 1, 2, 3] rfl) h
def fX19_arriveThanks_27 (N : Nat)  (x0 : Nat) (x1 : Nat) (x2 : Int32) (x3 : Int32) (z : St) : Option (Int32 × St) := zc (fX19_seg N x0 x2 (3 : Int32) z) fun r1 z2 => zc (fX19_isBefore N (zgI z 14 12 x1) r1 z2) fun r5 z6 => if ¬ r5 = 0 then (fX19_arriveThanks_67 N x0 x1 x2 x3 z6) else (zc (fX19_seg N x0 x2 (3 : Int32) z6) fun r10 z11 => if ¬ (zgI z6 14 12 x1) = r10 then (fX19_arriveThanks_71 N x0 x1 x2 x3 z11) else (zc (fX19_isBefore N x3 (zgI z11 14 13 x1) z11) fun r15 z16 => if ¬ r15 = 0 then (fX19_arriveThanks_71 N x0 x1 x2 x3 z16) else (fX19_arriveThanks_67 N x0 x1 x2 x3 z16)))
set_option maxHeartbeats 4000000 in
set_option maxRecDepth 100000 in
theorem bX19_arriveThanks_27 (hst : zSt B ids) (F : zFx p m c cX19_arriveThanks 6 s args RX19 D cy B ids A) (hA : ∀ q : Nat, s.heap.size ≤ q → A q) {r : Int32} {z' : St} (E : zEnd p l e rmX19_arriveThanks s m args below meth c cX19_arriveThanks D cy B ids A Q none z' .return_ True) {N : Nat}  (x0 : Nat) (x1 : Nat) (x2 : Int32) (x3 : Int32) (hx0 : (19, x0) ∈ ids) (hx1 : (14, x1) ∈ ids) {z : St} {H : Heap} {locs : List Loc} {ls : Array Slot} (hr : zRep D cy B ids A s.heap z H locs) (hl : lv_has ls 6 [(0, .ref (B 19 x0)), (1, .ref (B 14 x1)), (2, .int x2), (3, .int x3)]) (h : fX19_arriveThanks_27 N x0 x1 x2 x3 z = some (r, z')) : W p l e rmX19_arriveThanks s m args below meth c H locs 0 0 Q (F0 m 27 ls []) := by
  unfold fX19_arriveThanks_27 at h
  refine lv_aload_n F.1 F.2.1 dX19_arriveThanks_27 rfl (lv_at hl 1 rfl) ?_
  refine gf19_585 F hx1 hr dX19_arriveThanks_28 ?_
  refine lv_aload_n F.1 F.2.1 dX19_arriveThanks_31 rfl (lv_at hl 0 rfl) ?_
  refine lv_iload_n F.1 F.2.1 dX19_arriveThanks_32 rfl (lv_at hl 2 rfl) ?_
  refine lv_iconst (v := (3 : Int32)) F.1 F.2.1 dX19_arriveThanks_33 (by decide) ?_
  replace h := zc_some h
  obtain ⟨r1, z2, hc3, h⟩ := h
  refine zr_calli (zrun_V (As := [.int x2, .int (3 : Int32)]) (rest := [.int (zgI z 14 12 x1)]) zq_2557 zq_2559 zs_X19_seg zq_2560 zq_4 hdX19_seg (by decide) (T := TX19) (N := 32) rfl (okX19_seg l D cy B ids hst N x0 hx0 x2  (3 : Int32)  hr.2.2 hc3) F hr hx0 hl.1 rfl (Nat.le_of_ble_eq_true rfl) dX19_arriveThanks_34 rfl rfl hroX19_arriveThanks_X19_seg ⟨Nat.zero_le _, Nat.zero_le _⟩) F hA hr (fun H locs hw4 hr => ?_)
  clear hc3
  replace h := zc_some h
  obtain ⟨r5, z6, hc7, h⟩ := h
  refine zr_calli (zrun_S (As := [.int (zgI z 14 12 x1), .int r1]) (rest := []) zq_2714 zq_2692 zq_2693 zq_4 hdX19_isBefore (okX19_isBefore l D cy B ids hst N (zgI z 14 12 x1)  r1  hr.2.2 hc7) F hr hl.1 rfl (by decide) dX19_arriveThanks_37 rfl rfl hroX19_arriveThanks_X19_isBefore ⟨Nat.zero_le _, Nat.zero_le _⟩) F hA hr (fun H locs hw8 hr => ?_)
  clear hc7
  refine lv_if_ne (tgt := 67) F.1 F.2.1 dX19_arriveThanks_40 (by decide) (fun c9 => ?_) (fun c9 => ?_)
  · replace h := zi_t c9 h
    exact bX19_arriveThanks_67 hst F hA E  x0 x1 x2 x3 hx0 hx1 hr (lv_sub hl [0, 1, 2, 3] rfl) h
  · replace h := zi_f (fun q => q c9) h
    refine lv_aload_n F.1 F.2.1 dX19_arriveThanks_43 rfl (lv_at hl 1 rfl) ?_
    refine gf19_585 F hx1 hr dX19_arriveThanks_44 ?_
    refine lv_aload_n F.1 F.2.1 dX19_arriveThanks_47 rfl (lv_at hl 0 rfl) ?_
    refine lv_iload_n F.1 F.2.1 dX19_arriveThanks_48 rfl (lv_at hl 2 rfl) ?_
    refine lv_iconst (v := (3 : Int32)) F.1 F.2.1 dX19_arriveThanks_49 (by decide) ?_
    replace h := zc_some h
    obtain ⟨r10, z11, hc12, h⟩ := h
    refine zr_calli (zrun_V (As := [.int x2, .int (3 : Int32)]) (rest := [.int (zgI z6 14 12 x1)]) zq_2557 zq_2559 zs_X19_seg zq_2560 zq_4 hdX19_seg (by decide) (T := TX19) (N := 32) rfl (okX19_seg l D cy B ids hst N x0 hx0 x2  (3 : Int32)  hr.2.2 hc12) F hr hx0 hl.1 rfl (Nat.le_of_ble_eq_true rfl) dX19_arriveThanks_50 rfl rfl hroX19_arriveThanks_X19_seg ⟨Nat.zero_le _, Nat.zero_le _⟩) F hA hr (fun H locs hw13 hr => ?_)
    clear hc12
    refine lv_icmp_ne (tgt := 71) F.1 F.2.1 dX19_arriveThanks_53 (by decide) (fun c14 => ?_) (fun c14 => ?_)
    · replace h := zi_t c14 h
      exact bX19_arriveThanks_71 hst F hA E  x0 x1 x2 x3 hx0 hx1 hr (lv_sub hl [0, 1, 2, 3] rfl) h
    · replace h := zi_f (fun q => q c14) h
      refine lv_iload_n F.1 F.2.1 dX19_arriveThanks_56 rfl (lv_at hl 3 rfl) ?_
      refine lv_aload_n F.1 F.2.1 dX19_arriveThanks_57 rfl (lv_at hl 1 rfl) ?_
      refine gf19_591 F hx1 hr dX19_arriveThanks_58 ?_
      replace h := zc_some h
      obtain ⟨r15, z16, hc17, h⟩ := h
      refine zr_calli (zrun_S (As := [.int x3, .int (zgI z11 14 13 x1)]) (rest := []) zq_2714 zq_2692 zq_2693 zq_4 hdX19_isBefore (okX19_isBefore l D cy B ids hst N x3  (zgI z11 14 13 x1)  hr.2.2 hc17) F hr hl.1 rfl (by decide) dX19_arriveThanks_61 rfl rfl hroX19_arriveThanks_X19_isBefore ⟨Nat.zero_le _, Nat.zero_le _⟩) F hA hr (fun H locs hw18 hr => ?_)
      clear hc17
      refine lv_if_ne (tgt := 71) F.1 F.2.1 dX19_arriveThanks_64 (by decide) (fun c19 => ?_) (fun c19 => ?_)
      · replace h := zi_t c19 h
        exact bX19_arriveThanks_71 hst F hA E  x0 x1 x2 x3 hx0 hx1 hr (lv_sub hl [0, 1, 2, 3] rfl) h
      · replace h := zi_f (fun q => q c19) h
        exact bX19_arriveThanks_67 hst F hA E  x0 x1 x2 x3 hx0 hx1 hr (lv_sub hl [0, 1, 2, 3] rfl) h
def fX19_arriveThanks (N : Nat)  (x0 : Nat) (x1 : Nat) (x2 : Int32) (z : St) : Option (Int32 × St) := zc (fX19_seg N x0 x2 (4 : Int32) z) fun r1 z2 => zc (fX19_isBefore N (zgI z2 14 6 x1) r1 z2) fun r5 z6 => if r5 = 0 then (fX19_arriveThanks_27 N x0 x1 x2 r1 z6) else (zc (fX14_thankedFor N x1 r1 (zgI z6 19 24 x0) z6) fun _ z11 => fX19_arriveThanks_27 N x0 x1 x2 r1 z11)
set_option maxHeartbeats 4000000 in
set_option maxRecDepth 100000 in
theorem bX19_arriveThanks_0 (hst : zSt B ids) (F : zFx p m c cX19_arriveThanks 6 s args RX19 D cy B ids A) (hA : ∀ q : Nat, s.heap.size ≤ q → A q) {r : Int32} {z' : St} (E : zEnd p l e rmX19_arriveThanks s m args below meth c cX19_arriveThanks D cy B ids A Q none z' .return_ True) {N : Nat}  (x0 : Nat) (x1 : Nat) (x2 : Int32) (hx0 : (19, x0) ∈ ids) (hx1 : (14, x1) ∈ ids) {z : St} {H : Heap} {locs : List Loc} {ls : Array Slot} (hr : zRep D cy B ids A s.heap z H locs) (hl : lv_has ls 6 [(0, .ref (B 19 x0)), (1, .ref (B 14 x1)), (2, .int x2)]) (h : fX19_arriveThanks N x0 x1 x2 z = some (r, z')) : W p l e rmX19_arriveThanks s m args below meth c H locs 0 0 Q (F0 m 0 ls []) := by
  unfold fX19_arriveThanks at h
  refine lv_aload_n F.1 F.2.1 dX19_arriveThanks_0 rfl (lv_at hl 0 rfl) ?_
  refine lv_iload_n F.1 F.2.1 dX19_arriveThanks_1 rfl (lv_at hl 2 rfl) ?_
  refine lv_iconst (v := (4 : Int32)) F.1 F.2.1 dX19_arriveThanks_2 (by decide) ?_
  replace h := zc_some h
  obtain ⟨r1, z2, hc3, h⟩ := h
  refine zr_calli (zrun_V (As := [.int x2, .int (4 : Int32)]) (rest := []) zq_2557 zq_2559 zs_X19_seg zq_2560 zq_4 hdX19_seg (by decide) (T := TX19) (N := 32) rfl (okX19_seg l D cy B ids hst N x0 hx0 x2  (4 : Int32)  hr.2.2 hc3) F hr hx0 hl.1 rfl (by decide) dX19_arriveThanks_3 rfl rfl hroX19_arriveThanks_X19_seg ⟨Nat.zero_le _, Nat.zero_le _⟩) F hA hr (fun H locs hw4 hr => ?_)
  clear hc3
  refine lv_istore_n (lv' := [(3, .int r1), (0, .ref (B 19 x0)), (1, .ref (B 14 x1)), (2, .int x2)]) F.1 F.2.1 dX19_arriveThanks_6 rfl hl (by decide) rfl (fun ls hl => ?_)
  refine lv_aload_n F.1 F.2.1 dX19_arriveThanks_7 rfl (lv_at hl 2 rfl) ?_
  refine gf19_646 F hx1 hr dX19_arriveThanks_8 ?_
  refine lv_iload_n F.1 F.2.1 dX19_arriveThanks_11 rfl (lv_at hl 0 rfl) ?_
  replace h := zc_some h
  obtain ⟨r5, z6, hc7, h⟩ := h
  refine zr_calli (zrun_S (As := [.int (zgI z2 14 6 x1), .int r1]) (rest := []) zq_2714 zq_2692 zq_2693 zq_4 hdX19_isBefore (okX19_isBefore l D cy B ids hst N (zgI z2 14 6 x1)  r1  hr.2.2 hc7) F hr hl.1 rfl (by decide) dX19_arriveThanks_12 rfl rfl hroX19_arriveThanks_X19_isBefore ⟨Nat.zero_le _, Nat.zero_le _⟩) F hA hr (fun H locs hw8 hr => ?_)
  clear hc7
  refine lv_if_eq (tgt := 27) F.1 F.2.1 dX19_arriveThanks_15 (by decide) (fun c9 => ?_) (fun c9 => ?_)
  · replace h := zi_t c9 h
    exact bX19_arriveThanks_27 hst F hA E  x0 x1 x2 r1 hx0 hx1 hr (lv_sub hl [1, 2, 3, 0] rfl) h
  · replace h := zi_f c9 h
    refine lv_aload_n F.1 F.2.1 dX19_arriveThanks_18 rfl (lv_at hl 2 rfl) ?_
    refine lv_iload_n F.1 F.2.1 dX19_arriveThanks_19 rfl (lv_at hl 0 rfl) ?_
    refine lv_aload_n F.1 F.2.1 dX19_arriveThanks_20 rfl (lv_at hl 1 rfl) ?_
    refine gf19_143 F hx0 hr dX19_arriveThanks_21 ?_
    replace h := zc_some h
    obtain ⟨r10, z11, hc12, h⟩ := h
    refine zr_callv (zrun_VN (As := [.int r1, .int (zgI z6 19 24 x0)]) (rest := []) zn_2687 zq_2689 zs_X14_thankedFor zq_2690 zq_21 hdX14_thankedFor (by decide) (T := TX14) (N := 47) rfl (okX14_thankedFor l D cy B ids hst N x1 hx1 r1  (zgI z6 19 24 x0)  hr.2.2 hc12) F hr hx1 hl.1 rfl (by decide) dX19_arriveThanks_24 rfl rfl hroX19_arriveThanks_X14_thankedFor ⟨Nat.zero_le _, Nat.zero_le _⟩) F hA hr (fun H locs hw13 hr => ?_)
    clear hc12
    exact bX19_arriveThanks_27 hst F hA E  x0 x1 x2 r1 hx0 hx1 hr (lv_sub hl [1, 2, 3, 0] rfl) h
end SX19_arriveThanks
set_option maxRecDepth 100000 in
theorem okX19_arriveThanks (l : Launch) (D : va_G) (cy : Nat → ClassId) (B : Nat → Nat → Nat) (ids : List (Nat × Nat)) (hst : zSt B ids) (N : Nat) (x0 : Nat) (hx0 : (19, x0) ∈ ids) (x1 : Nat) (hx1 : (14, x1) ∈ ids) (x2 : Int32) {z : St} {r : Int32} {z' : St} (hW : zWf ids z) (h : fX19_arriveThanks N x0 x1 x2 z = some (r, z')) : zM l yX19_arriveThanks (zws yX19_arriveThanks cX19_arriveThanks 6 none) rmX19_arriveThanks D cy B ids [.ref (B 19 x0), .ref (B 14 x1), .int x2] none True z z' :=
  zM_of hst hW (by decide +kernel) (Nat.le_of_ble_eq_true rfl) (fun p e s m args below meth c A ls F hA hret hlocks hr hl => bX19_arriveThanks_0 hst F hA (zEnd_v F hret hlocks) x0 x1 x2 hx0 hx1 hr hl h)
abbrev rmX19_arrives : Room := { frames := 5, cells := 0, slots := 0, locals := 109 }
theorem hdX19_arrives : yX19_arrives.cls ≠ "java/lang/invoke/MethodHandle" ∧ yX19_arrives.cls ≠ "java/lang/invoke/VarHandle" ∧ (parseMethodDescriptor yX19_arrives.desc).map (fun d => d.parameters.length) = some 2 := by decide +kernel
theorem hroX19_arrives_X14_become : rmX14_become.frames + 1 ≤ rmX19_arrives.frames ∧ 8 + (3 + 11) + rmX14_become.locals ≤ rmX19_arrives.locals := by decide
theorem hroX19_arrives_X14_fits : rmX14_fits.frames + 1 ≤ rmX19_arrives.frames ∧ 8 + (4 + 11) + rmX14_fits.locals ≤ rmX19_arrives.locals := by decide
theorem hroX19_arrives_X19_answer : rmX19_answer.frames + 1 ≤ rmX19_arrives.frames ∧ 8 + (3 + 11) + rmX19_answer.locals ≤ rmX19_arrives.locals := by decide
theorem hroX19_arrives_X19_arriveAsking : rmX19_arriveAsking.frames + 1 ≤ rmX19_arrives.frames ∧ 8 + (3 + 11) + rmX19_arriveAsking.locals ≤ rmX19_arrives.locals := by decide
theorem hroX19_arrives_X19_arriveBytes : rmX19_arriveBytes.frames + 1 ≤ rmX19_arrives.frames ∧ 8 + (9 + 11) + rmX19_arriveBytes.locals ≤ rmX19_arrives.locals := by decide
theorem hroX19_arrives_X19_arriveListening : rmX19_arriveListening.frames + 1 ≤ rmX19_arrives.frames ∧ 8 + (3 + 11) + rmX19_arriveListening.locals ≤ rmX19_arrives.locals := by decide
theorem hroX19_arrives_X19_arriveThanks : rmX19_arriveThanks.frames + 1 ≤ rmX19_arrives.frames ∧ 8 + (6 + 11) + rmX19_arriveThanks.locals ≤ rmX19_arrives.locals := by decide
theorem hroX19_arrives_X19_has : rmX19_has.frames + 1 ≤ rmX19_arrives.frames ∧ 8 + (3 + 11) + rmX19_has.locals ≤ rmX19_arrives.locals := by decide
theorem hroX19_arrives_X19_isBefore : rmX19_isBefore.frames + 1 ≤ rmX19_arrives.frames ∧ 8 + (2 + 11) + rmX19_isBefore.locals ≤ rmX19_arrives.locals := by decide
theorem hroX19_arrives_X19_seg : rmX19_seg.frames + 1 ≤ rmX19_arrives.frames ∧ 8 + (3 + 11) + rmX19_seg.locals ≤ rmX19_arrives.locals := by decide
theorem hroX19_arrives_X19_sizeOf : rmX19_sizeOf.frames + 1 ≤ rmX19_arrives.frames ∧ 8 + (2 + 11) + rmX19_sizeOf.locals ≤ rmX19_arrives.locals := by decide
section SX19_arrives
variable {p : Program} {l : Launch} {e : Env} {s : State} {m : MethodId} {args : Array Value} {below : List Frame} {meth : Method} {c : Code} {Q : State → Prop} {D : va_G} {cy : Nat → ClassId} {B : Nat → Nat → Nat} {ids : List (Nat × Nat)} {A : Nat → Prop}
def fX19_arrives_72 (N : Nat)  (x0 : Nat) (x1 : Nat) (x2 : Int32) (s0 : Nat) (s1 : Int32) (z : St) : Option (Int32 × St) := zq (s1 = 0 ∨ s1 = 1) <| zl (zsI z 14 32 s0 s1) fun z1 => if ¬ (zgI z1 14 0 x1) = (10 : Int32) then (some ((0 : Int32), z1)) else (zc (fX19_has N x0 x2 (2 : Int32) z1) fun r4 z5 => if r4 = 0 then (some ((0 : Int32), z5)) else (zl (zsI z5 14 43 x1 ((zgI z5 19 24 x0) + (2000 : Int32))) fun z9 => some ((0 : Int32), z9)))
set_option maxHeartbeats 4000000 in
set_option maxRecDepth 100000 in
theorem bX19_arrives_72 (hst : zSt B ids) (F : zFx p m c cX19_arrives 3 s args RX19 D cy B ids A) (hA : ∀ q : Nat, s.heap.size ≤ q → A q) {r : Int32} {z' : St} (E : zEnd p l e rmX19_arrives s m args below meth c cX19_arrives D cy B ids A Q (some (.int r)) z' .ireturn (r = 0 ∨ r = 1)) {N : Nat}  (x0 : Nat) (x1 : Nat) (x2 : Int32) (s0 : Nat) (s1 : Int32) (hx0 : (19, x0) ∈ ids) (hx1 : (14, x1) ∈ ids) (hs0 : (14, s0) ∈ ids) {z : St} {H : Heap} {locs : List Loc} {ls : Array Slot} (hr : zRep D cy B ids A s.heap z H locs) (hl : lv_has ls 3 [(0, .ref (B 19 x0)), (1, .ref (B 14 x1)), (2, .int x2)]) (h : fX19_arrives_72 N x0 x1 x2 s0 s1 z = some (r, z')) : W p l e rmX19_arrives s m args below meth c H locs 0 0 Q (F0 m 72 ls [.int s1, .ref (B 14 s0)]) := by
  unfold fX19_arrives_72 at h
  replace h := zq_some h
  obtain ⟨c2, h⟩ := h
  refine pf19_616 F hs0 hr dX19_arrives_72 s1 c2 (fun H locs z1 ez1 hr => ?_)
  replace h := zl_sub ez1 h
  clear ez1
  refine lv_aload_n F.1 F.2.1 dX19_arrives_75 rfl (lv_at hl 1 rfl) ?_
  refine gf19_353 F hx1 hr dX19_arrives_76 ?_
  refine lv_bipush (v := (10 : Int32)) F.1 F.2.1 dX19_arrives_79 (by decide) ?_
  refine lv_icmp_ne (tgt := 105) F.1 F.2.1 dX19_arrives_81 (by decide) (fun c3 => ?_) (fun c3 => ?_)
  · replace h := zi_t c3 h
    refine lv_iconst (v := (0 : Int32)) F.1 F.2.1 dX19_arrives_105 (by decide) ?_
    obtain ⟨rfl, rfl⟩ := zret h
    exact E _ _ _ _ dX19_arrives_106 (by decide) hr
  · replace h := zi_f (fun q => q c3) h
    refine lv_aload_n F.1 F.2.1 dX19_arrives_84 rfl (lv_at hl 0 rfl) ?_
    refine lv_iload_n F.1 F.2.1 dX19_arrives_85 rfl (lv_at hl 2 rfl) ?_
    refine lv_iconst (v := (2 : Int32)) F.1 F.2.1 dX19_arrives_86 (by decide) ?_
    replace h := zc_some h
    obtain ⟨r4, z5, hc6, h⟩ := h
    refine zr_calli (zrun_V (As := [.int x2, .int (2 : Int32)]) (rest := []) zq_2663 zq_2665 zs_X19_has zq_2666 zq_4 hdX19_has (by decide) (T := TX19) (N := 32) rfl (okX19_has l D cy B ids hst N x0 hx0 x2  (2 : Int32)  hr.2.2 hc6) F hr hx0 hl.1 rfl (by decide) dX19_arrives_87 rfl rfl hroX19_arrives_X19_has ⟨Nat.zero_le _, Nat.zero_le _⟩) F hA hr (fun H locs hw7 hr => ?_)
    clear hc6
    refine lv_if_eq (tgt := 105) F.1 F.2.1 dX19_arrives_90 (by decide) (fun c8 => ?_) (fun c8 => ?_)
    · replace h := zi_t c8 h
      refine lv_iconst (v := (0 : Int32)) F.1 F.2.1 dX19_arrives_105 (by decide) ?_
      obtain ⟨rfl, rfl⟩ := zret h
      exact E _ _ _ _ dX19_arrives_106 (by decide) hr
    · replace h := zi_f c8 h
      refine lv_aload_n F.1 F.2.1 dX19_arrives_93 rfl (lv_at hl 1 rfl) ?_
      refine lv_aload_n F.1 F.2.1 dX19_arrives_94 rfl (lv_at hl 0 rfl) ?_
      refine gf19_143 F hx0 hr dX19_arrives_95 ?_
      refine lv_sipush (v := (2000 : Int32)) F.1 F.2.1 dX19_arrives_98 (by decide) ?_
      refine lv_iadd F.1 F.2.1 dX19_arrives_101 ?_
      refine pf19_628 F hx1 hr dX19_arrives_102 ((zgI z5 19 24 x0) + (2000 : Int32)) (fun H locs z9 ez9 hr => ?_)
      replace h := zl_sub ez9 h
      clear ez9
      refine lv_iconst (v := (0 : Int32)) F.1 F.2.1 dX19_arrives_105 (by decide) ?_
      obtain ⟨rfl, rfl⟩ := zret h
      exact E _ _ _ _ dX19_arrives_106 (by decide) hr
def fX19_arrives_67 (N : Nat)  (x0 : Nat) (x1 : Nat) (x2 : Int32) (s0 : Nat) (z : St) : Option (Int32 × St) := fX19_arrives_72 N x0 x1 x2 s0 (1 : Int32) z
set_option maxHeartbeats 4000000 in
set_option maxRecDepth 100000 in
theorem bX19_arrives_67 (hst : zSt B ids) (F : zFx p m c cX19_arrives 3 s args RX19 D cy B ids A) (hA : ∀ q : Nat, s.heap.size ≤ q → A q) {r : Int32} {z' : St} (E : zEnd p l e rmX19_arrives s m args below meth c cX19_arrives D cy B ids A Q (some (.int r)) z' .ireturn (r = 0 ∨ r = 1)) {N : Nat}  (x0 : Nat) (x1 : Nat) (x2 : Int32) (s0 : Nat) (hx0 : (19, x0) ∈ ids) (hx1 : (14, x1) ∈ ids) (hs0 : (14, s0) ∈ ids) {z : St} {H : Heap} {locs : List Loc} {ls : Array Slot} (hr : zRep D cy B ids A s.heap z H locs) (hl : lv_has ls 3 [(0, .ref (B 19 x0)), (1, .ref (B 14 x1)), (2, .int x2)]) (h : fX19_arrives_67 N x0 x1 x2 s0 z = some (r, z')) : W p l e rmX19_arrives s m args below meth c H locs 0 0 Q (F0 m 67 ls [.ref (B 14 s0)]) := by
  unfold fX19_arrives_67 at h
  refine lv_iconst (v := (1 : Int32)) F.1 F.2.1 dX19_arrives_67 (by decide) ?_
  refine lv_goto (tgt := 72) F.1 F.2.1 dX19_arrives_68 (by decide) ?_
  exact bX19_arrives_72 hst F hA E  x0 x1 x2 s0 (1 : Int32) hx0 hx1 hs0 hr (lv_sub hl [0, 1, 2] rfl) h
def fX19_arrives_187 (N : Nat)  (x0 : Nat) (s0 : Nat) (s1 : Int32) (z : St) : Option (Int32 × St) := zc (fX14_become N s0 s1 (zgI z 19 24 x0) z) fun _ z2 => some ((0 : Int32), z2)
set_option maxHeartbeats 4000000 in
set_option maxRecDepth 100000 in
theorem bX19_arrives_187 (hst : zSt B ids) (F : zFx p m c cX19_arrives 3 s args RX19 D cy B ids A) (hA : ∀ q : Nat, s.heap.size ≤ q → A q) {r : Int32} {z' : St} (E : zEnd p l e rmX19_arrives s m args below meth c cX19_arrives D cy B ids A Q (some (.int r)) z' .ireturn (r = 0 ∨ r = 1)) {N : Nat}  (x0 : Nat) (s0 : Nat) (s1 : Int32) (hx0 : (19, x0) ∈ ids) (hs0 : (14, s0) ∈ ids) {z : St} {H : Heap} {locs : List Loc} {ls : Array Slot} (hr : zRep D cy B ids A s.heap z H locs) (hl : lv_has ls 3 [(0, .ref (B 19 x0))]) (h : fX19_arrives_187 N x0 s0 s1 z = some (r, z')) : W p l e rmX19_arrives s m args below meth c H locs 0 0 Q (F0 m 187 ls [.int s1, .ref (B 14 s0)]) := by
  unfold fX19_arrives_187 at h
  refine lv_aload_n F.1 F.2.1 dX19_arrives_187 rfl (lv_at hl 0 rfl) ?_
  refine gf19_143 F hx0 hr dX19_arrives_188 ?_
  replace h := zc_some h
  obtain ⟨r1, z2, hc3, h⟩ := h
  refine zr_callv (zrun_VN (As := [.int s1, .int (zgI z 19 24 x0)]) (rest := []) zn_2643 zq_2645 zs_X14_become zq_2646 zq_21 hdX14_become (by decide) (T := TX14) (N := 47) rfl (okX14_become l D cy B ids hst N s0 hs0 s1  (zgI z 19 24 x0)  hr.2.2 hc3) F hr hs0 hl.1 rfl (by decide) dX19_arrives_191 rfl rfl hroX19_arrives_X14_become ⟨Nat.zero_le _, Nat.zero_le _⟩) F hA hr (fun H locs hw4 hr => ?_)
  clear hc3
  refine lv_iconst (v := (0 : Int32)) F.1 F.2.1 dX19_arrives_194 (by decide) ?_
  obtain ⟨rfl, rfl⟩ := zret h
  exact E _ _ _ _ dX19_arrives_195 (by decide) hr
def fX19_arrives_181 (N : Nat)  (x0 : Nat) (s0 : Nat) (z : St) : Option (Int32 × St) := fX19_arrives_187 N x0 s0 (0 : Int32) z
set_option maxHeartbeats 4000000 in
set_option maxRecDepth 100000 in
theorem bX19_arrives_181 (hst : zSt B ids) (F : zFx p m c cX19_arrives 3 s args RX19 D cy B ids A) (hA : ∀ q : Nat, s.heap.size ≤ q → A q) {r : Int32} {z' : St} (E : zEnd p l e rmX19_arrives s m args below meth c cX19_arrives D cy B ids A Q (some (.int r)) z' .ireturn (r = 0 ∨ r = 1)) {N : Nat}  (x0 : Nat) (s0 : Nat) (hx0 : (19, x0) ∈ ids) (hs0 : (14, s0) ∈ ids) {z : St} {H : Heap} {locs : List Loc} {ls : Array Slot} (hr : zRep D cy B ids A s.heap z H locs) (hl : lv_has ls 3 [(0, .ref (B 19 x0))]) (h : fX19_arrives_181 N x0 s0 z = some (r, z')) : W p l e rmX19_arrives s m args below meth c H locs 0 0 Q (F0 m 181 ls [.ref (B 14 s0)]) := by
  unfold fX19_arrives_181 at h
  refine lv_iconst (v := (0 : Int32)) F.1 F.2.1 dX19_arrives_181 (by decide) ?_
  refine lv_goto (tgt := 187) F.1 F.2.1 dX19_arrives_182 (by decide) ?_
  exact bX19_arrives_187 hst F hA E  x0 s0 (0 : Int32) hx0 hs0 hr (lv_sub hl [0] rfl) h
def fX19_arrives_153 (N : Nat)  (x0 : Nat) (x1 : Nat) (z : St) : Option (Int32 × St) := if (zgI z 14 0 x1) = (8 : Int32) then (fX19_arrives_181 N x0 x1 z) else (if (zgI z 14 0 x1) = (9 : Int32) then (fX19_arrives_181 N x0 x1 z) else (if ¬ (zgI z 14 0 x1) = (10 : Int32) then (fX19_arrives_187 N x0 x1 (11 : Int32) z) else (fX19_arrives_181 N x0 x1 z)))
set_option maxHeartbeats 4000000 in
set_option maxRecDepth 100000 in
theorem bX19_arrives_153 (hst : zSt B ids) (F : zFx p m c cX19_arrives 3 s args RX19 D cy B ids A) (hA : ∀ q : Nat, s.heap.size ≤ q → A q) {r : Int32} {z' : St} (E : zEnd p l e rmX19_arrives s m args below meth c cX19_arrives D cy B ids A Q (some (.int r)) z' .ireturn (r = 0 ∨ r = 1)) {N : Nat}  (x0 : Nat) (x1 : Nat) (hx0 : (19, x0) ∈ ids) (hx1 : (14, x1) ∈ ids) {z : St} {H : Heap} {locs : List Loc} {ls : Array Slot} (hr : zRep D cy B ids A s.heap z H locs) (hl : lv_has ls 3 [(0, .ref (B 19 x0)), (1, .ref (B 14 x1))]) (h : fX19_arrives_153 N x0 x1 z = some (r, z')) : W p l e rmX19_arrives s m args below meth c H locs 0 0 Q (F0 m 153 ls []) := by
  unfold fX19_arrives_153 at h
  refine lv_aload_n F.1 F.2.1 dX19_arrives_153 rfl (lv_at hl 1 rfl) ?_
  refine lv_aload_n F.1 F.2.1 dX19_arrives_154 rfl (lv_at hl 1 rfl) ?_
  refine gf19_353 F hx1 hr dX19_arrives_155 ?_
  refine lv_bipush (v := (8 : Int32)) F.1 F.2.1 dX19_arrives_158 (by decide) ?_
  refine lv_icmp_eq (tgt := 181) F.1 F.2.1 dX19_arrives_160 (by decide) (fun c1 => ?_) (fun c1 => ?_)
  · replace h := zi_t c1 h
    exact bX19_arrives_181 hst F hA E  x0 x1 hx0 hx1 hr (lv_sub hl [0] rfl) h
  · replace h := zi_f c1 h
    refine lv_aload_n F.1 F.2.1 dX19_arrives_163 rfl (lv_at hl 1 rfl) ?_
    refine gf19_353 F hx1 hr dX19_arrives_164 ?_
    refine lv_bipush (v := (9 : Int32)) F.1 F.2.1 dX19_arrives_167 (by decide) ?_
    refine lv_icmp_eq (tgt := 181) F.1 F.2.1 dX19_arrives_169 (by decide) (fun c2 => ?_) (fun c2 => ?_)
    · replace h := zi_t c2 h
      exact bX19_arrives_181 hst F hA E  x0 x1 hx0 hx1 hr (lv_sub hl [0] rfl) h
    · replace h := zi_f c2 h
      refine lv_aload_n F.1 F.2.1 dX19_arrives_172 rfl (lv_at hl 1 rfl) ?_
      refine gf19_353 F hx1 hr dX19_arrives_173 ?_
      refine lv_bipush (v := (10 : Int32)) F.1 F.2.1 dX19_arrives_176 (by decide) ?_
      refine lv_icmp_ne (tgt := 185) F.1 F.2.1 dX19_arrives_178 (by decide) (fun c3 => ?_) (fun c3 => ?_)
      · replace h := zi_t c3 h
        refine lv_bipush (v := (11 : Int32)) F.1 F.2.1 dX19_arrives_185 (by decide) ?_
        exact bX19_arrives_187 hst F hA E  x0 x1 (11 : Int32) hx0 hx1 hr (lv_sub hl [0] rfl) h
      · replace h := zi_f (fun q => q c3) h
        exact bX19_arrives_181 hst F hA E  x0 x1 hx0 hx1 hr (lv_sub hl [0] rfl) h
def fX19_arrives_300 (N : Nat)  (x0 : Nat) (x1 : Nat) (x2 : Int32) (z : St) : Option (Int32 × St) := zc (fX19_arriveThanks N x0 x1 x2 z) fun _ z2 => if (zgI z2 14 0 x1) = 0 then (some ((0 : Int32), z2)) else (zc (fX19_arriveBytes N x0 x1 x2 z2) fun _ z7 => some ((0 : Int32), z7))
set_option maxHeartbeats 4000000 in
set_option maxRecDepth 100000 in
theorem bX19_arrives_300 (hst : zSt B ids) (F : zFx p m c cX19_arrives 3 s args RX19 D cy B ids A) (hA : ∀ q : Nat, s.heap.size ≤ q → A q) {r : Int32} {z' : St} (E : zEnd p l e rmX19_arrives s m args below meth c cX19_arrives D cy B ids A Q (some (.int r)) z' .ireturn (r = 0 ∨ r = 1)) {N : Nat}  (x0 : Nat) (x1 : Nat) (x2 : Int32) (hx0 : (19, x0) ∈ ids) (hx1 : (14, x1) ∈ ids) {z : St} {H : Heap} {locs : List Loc} {ls : Array Slot} (hr : zRep D cy B ids A s.heap z H locs) (hl : lv_has ls 3 [(0, .ref (B 19 x0)), (1, .ref (B 14 x1)), (2, .int x2)]) (h : fX19_arrives_300 N x0 x1 x2 z = some (r, z')) : W p l e rmX19_arrives s m args below meth c H locs 0 0 Q (F0 m 300 ls []) := by
  unfold fX19_arrives_300 at h
  refine lv_aload_n F.1 F.2.1 dX19_arrives_300 rfl (lv_at hl 0 rfl) ?_
  refine lv_aload_n F.1 F.2.1 dX19_arrives_301 rfl (lv_at hl 1 rfl) ?_
  refine lv_iload_n F.1 F.2.1 dX19_arrives_302 rfl (lv_at hl 2 rfl) ?_
  replace h := zc_some h
  obtain ⟨r1, z2, hc3, h⟩ := h
  refine zr_callv (zrun_V (As := [.ref (B 14 x1), .int x2]) (rest := []) zq_2715 zq_2717 zs_X19_arriveThanks zq_2718 zq_4 hdX19_arriveThanks (by decide) (T := TX19) (N := 32) rfl (okX19_arriveThanks l D cy B ids hst N x0 hx0 x1 hx1 x2  hr.2.2 hc3) F hr hx0 hl.1 rfl (by decide) dX19_arrives_303 rfl rfl hroX19_arrives_X19_arriveThanks ⟨Nat.zero_le _, Nat.zero_le _⟩) F hA hr (fun H locs hw4 hr => ?_)
  clear hc3
  refine lv_aload_n F.1 F.2.1 dX19_arrives_306 rfl (lv_at hl 1 rfl) ?_
  refine gf19_353 F hx1 hr dX19_arrives_307 ?_
  refine lv_if_eq (tgt := 319) F.1 F.2.1 dX19_arrives_310 (by decide) (fun c5 => ?_) (fun c5 => ?_)
  · replace h := zi_t c5 h
    refine lv_iconst (v := (0 : Int32)) F.1 F.2.1 dX19_arrives_319 (by decide) ?_
    obtain ⟨rfl, rfl⟩ := zret h
    exact E _ _ _ _ dX19_arrives_320 (by decide) hr
  · replace h := zi_f c5 h
    refine lv_aload_n F.1 F.2.1 dX19_arrives_313 rfl (lv_at hl 0 rfl) ?_
    refine lv_aload_n F.1 F.2.1 dX19_arrives_314 rfl (lv_at hl 1 rfl) ?_
    refine lv_iload_n F.1 F.2.1 dX19_arrives_315 rfl (lv_at hl 2 rfl) ?_
    replace h := zc_some h
    obtain ⟨r6, z7, hc8, h⟩ := h
    refine zr_callv (zrun_V (As := [.ref (B 14 x1), .int x2]) (rest := []) zq_2719 zq_2721 zs_X19_arriveBytes zq_2722 zq_4 hdX19_arriveBytes (by decide) (T := TX19) (N := 32) rfl (okX19_arriveBytes l D cy B ids hst N x0 hx0 x1 hx1 x2  hr.2.2 hc8) F hr hx0 hl.1 rfl (by decide) dX19_arrives_316 rfl rfl hroX19_arrives_X19_arriveBytes ⟨Nat.zero_le _, Nat.zero_le _⟩) F hA hr (fun H locs hw9 hr => ?_)
    clear hc8
    refine lv_iconst (v := (0 : Int32)) F.1 F.2.1 dX19_arrives_319 (by decide) ?_
    obtain ⟨rfl, rfl⟩ := zret h
    exact E _ _ _ _ dX19_arrives_320 (by decide) hr
def fX19_arrives_266 (N : Nat)  (x0 : Nat) (x1 : Nat) (x2 : Int32) (s0 : Nat) (s1 : Int32) (z : St) : Option (Int32 × St) := zl (zsI z 14 0 s0 s1) fun z1 => zl (zsI z1 14 28 x1 (0 : Int32)) fun z2 => fX19_arrives_300 N x0 x1 x2 z2
set_option maxHeartbeats 4000000 in
set_option maxRecDepth 100000 in
theorem bX19_arrives_266 (hst : zSt B ids) (F : zFx p m c cX19_arrives 3 s args RX19 D cy B ids A) (hA : ∀ q : Nat, s.heap.size ≤ q → A q) {r : Int32} {z' : St} (E : zEnd p l e rmX19_arrives s m args below meth c cX19_arrives D cy B ids A Q (some (.int r)) z' .ireturn (r = 0 ∨ r = 1)) {N : Nat}  (x0 : Nat) (x1 : Nat) (x2 : Int32) (s0 : Nat) (s1 : Int32) (hx0 : (19, x0) ∈ ids) (hx1 : (14, x1) ∈ ids) (hs0 : (14, s0) ∈ ids) {z : St} {H : Heap} {locs : List Loc} {ls : Array Slot} (hr : zRep D cy B ids A s.heap z H locs) (hl : lv_has ls 3 [(0, .ref (B 19 x0)), (1, .ref (B 14 x1)), (2, .int x2)]) (h : fX19_arrives_266 N x0 x1 x2 s0 s1 z = some (r, z')) : W p l e rmX19_arrives s m args below meth c H locs 0 0 Q (F0 m 266 ls [.int s1, .ref (B 14 s0)]) := by
  unfold fX19_arrives_266 at h
  refine pf19_353 F hs0 hr dX19_arrives_266 s1 (fun H locs z1 ez1 hr => ?_)
  replace h := zl_sub ez1 h
  clear ez1
  refine lv_aload_n F.1 F.2.1 dX19_arrives_269 rfl (lv_at hl 1 rfl) ?_
  refine lv_iconst (v := (0 : Int32)) F.1 F.2.1 dX19_arrives_270 (by decide) ?_
  refine pf19_613 F hx1 hr dX19_arrives_271 (0 : Int32) (by decide) (fun H locs z2 ez2 hr => ?_)
  replace h := zl_sub ez2 h
  clear ez2
  refine lv_goto (tgt := 300) F.1 F.2.1 dX19_arrives_274 (by decide) ?_
  exact bX19_arrives_300 hst F hA E  x0 x1 x2 hx0 hx1 hr (lv_sub hl [0, 1, 2] rfl) h
def fX19_arrives (N : Nat)  (x0 : Nat) (x1 : Nat) (x2 : Int32) (z : St) : Option (Int32 × St) := if ¬ (zgI z 14 0 x1) = (1 : Int32) then (if ¬ (zgI z 14 0 x1) = (2 : Int32) then (zc (fX19_seg N x0 x2 (3 : Int32) z) fun r3 z4 => zc (fX19_sizeOf N x0 x2 z4) fun r7 z8 => zc (fX14_fits N x1 r3 r7 z8) fun r11 z12 => if ¬ r11 = 0 then (zc (fX19_has N x0 x2 (4 : Int32) z12) fun r16 z17 => if r16 = 0 then (zc (fX19_has N x0 x2 (1 : Int32) z17) fun r21 z22 => if r21 = 0 then (zc (fX19_has N x0 x2 (8 : Int32) z22) fun r26 z27 => if ¬ r26 = 0 then (if ¬ (zgI z27 14 0 x1) = (3 : Int32) then (zc (fX19_seg N x0 x2 (4 : Int32) z27) fun r32 z33 => zc (fX19_isBefore N (zgI z27 14 7 x1) r32 z33) fun r36 z37 => if r36 = 0 then (fX19_arrives_300 N x0 x1 x2 z37) else (zl (zsI z37 14 32 x1 (1 : Int32)) fun z41 => some ((0 : Int32), z41))) else (zc (fX19_seg N x0 x2 (4 : Int32) z27) fun r42 z43 => if r42 = (zgI z43 14 7 x1) then (if (zgI z43 14 9 x1) = 0 then (fX19_arrives_266 N x0 x1 x2 x1 (4 : Int32) z43) else (fX19_arrives_266 N x0 x1 x2 x1 (5 : Int32) z43)) else (zc (fX19_answer N x0 x1 x2 z43) fun _ z49 => some ((0 : Int32), z49)))) else (some ((0 : Int32), z27))) else (zl (zsI z22 14 32 x1 (1 : Int32)) fun z52 => some ((0 : Int32), z52))) else (zc (fX19_seg N x0 x2 (3 : Int32) z17) fun r53 z54 => if r53 = (zgI z54 14 16 x1) then (if ¬ (zgI z54 14 0 x1) = (3 : Int32) then (fX19_arrives_153 N x0 x1 z54) else (if (zgI z54 14 1 x1) = 0 then (fX19_arrives_153 N x0 x1 z54) else (some ((1 : Int32), z54)))) else (zl (zsI z54 14 32 x1 (1 : Int32)) fun z60 => some ((0 : Int32), z60)))) else (if ¬ (zgI z12 14 32 x1) = 0 then (fX19_arrives_67 N x0 x1 x2 x1 z12) else (zc (fX19_has N x0 x2 (4 : Int32) z12) fun r62 z63 => if ¬ r62 = 0 then (fX19_arrives_72 N x0 x1 x2 x1 (0 : Int32) z63) else (fX19_arrives_67 N x0 x1 x2 x1 z63)))) else (zc (fX19_arriveAsking N x0 x1 x2 z) fun _ z68 => some ((0 : Int32), z68))) else (zc (fX19_arriveListening N x0 x1 x2 z) fun _ z72 => some ((0 : Int32), z72))
set_option maxHeartbeats 4000000 in
set_option maxRecDepth 100000 in
theorem bX19_arrives_0 (hst : zSt B ids) (F : zFx p m c cX19_arrives 3 s args RX19 D cy B ids A) (hA : ∀ q : Nat, s.heap.size ≤ q → A q) {r : Int32} {z' : St} (E : zEnd p l e rmX19_arrives s m args below meth c cX19_arrives D cy B ids A Q (some (.int r)) z' .ireturn (r = 0 ∨ r = 1)) {N : Nat}  (x0 : Nat) (x1 : Nat) (x2 : Int32) (hx0 : (19, x0) ∈ ids) (hx1 : (14, x1) ∈ ids) {z : St} {H : Heap} {locs : List Loc} {ls : Array Slot} (hr : zRep D cy B ids A s.heap z H locs) (hl : lv_has ls 3 [(0, .ref (B 19 x0)), (1, .ref (B 14 x1)), (2, .int x2)]) (h : fX19_arrives N x0 x1 x2 z = some (r, z')) : W p l e rmX19_arrives s m args below meth c H locs 0 0 Q (F0 m 0 ls []) := by
  unfold fX19_arrives at h
  refine lv_aload_n F.1 F.2.1 dX19_arrives_0 rfl (lv_at hl 1 rfl) ?_
  refine gf19_353 F hx1 hr dX19_arrives_1 ?_
  refine lv_iconst (v := (1 : Int32)) F.1 F.2.1 dX19_arrives_4 (by decide) ?_
  refine lv_icmp_ne (tgt := 16) F.1 F.2.1 dX19_arrives_5 (by decide) (fun c1 => ?_) (fun c1 => ?_)
  · replace h := zi_t c1 h
    refine lv_aload_n F.1 F.2.1 dX19_arrives_16 rfl (lv_at hl 1 rfl) ?_
    refine gf19_353 F hx1 hr dX19_arrives_17 ?_
    refine lv_iconst (v := (2 : Int32)) F.1 F.2.1 dX19_arrives_20 (by decide) ?_
    refine lv_icmp_ne (tgt := 32) F.1 F.2.1 dX19_arrives_21 (by decide) (fun c2 => ?_) (fun c2 => ?_)
    · replace h := zi_t c2 h
      refine lv_aload_n F.1 F.2.1 dX19_arrives_32 rfl (lv_at hl 1 rfl) ?_
      refine lv_aload_n F.1 F.2.1 dX19_arrives_33 rfl (lv_at hl 0 rfl) ?_
      refine lv_iload_n F.1 F.2.1 dX19_arrives_34 rfl (lv_at hl 2 rfl) ?_
      refine lv_iconst (v := (3 : Int32)) F.1 F.2.1 dX19_arrives_35 (by decide) ?_
      replace h := zc_some h
      obtain ⟨r3, z4, hc5, h⟩ := h
      refine zr_calli (zrun_V (As := [.int x2, .int (3 : Int32)]) (rest := [.ref (B 14 x1)]) zq_2557 zq_2559 zs_X19_seg zq_2560 zq_4 hdX19_seg (by decide) (T := TX19) (N := 32) rfl (okX19_seg l D cy B ids hst N x0 hx0 x2  (3 : Int32)  hr.2.2 hc5) F hr hx0 hl.1 rfl (Nat.le_of_ble_eq_true rfl) dX19_arrives_36 rfl rfl hroX19_arrives_X19_seg ⟨Nat.zero_le _, Nat.zero_le _⟩) F hA hr (fun H locs hw6 hr => ?_)
      clear hc5
      refine lv_aload_n F.1 F.2.1 dX19_arrives_39 rfl (lv_at hl 0 rfl) ?_
      refine lv_iload_n F.1 F.2.1 dX19_arrives_40 rfl (lv_at hl 2 rfl) ?_
      replace h := zc_some h
      obtain ⟨r7, z8, hc9, h⟩ := h
      refine zr_calli (zrun_V (As := [.int x2]) (rest := [.int r3, .ref (B 14 x1)]) zq_2675 zq_2677 zs_X19_sizeOf zq_2678 zq_4 hdX19_sizeOf (by decide) (T := TX19) (N := 32) rfl (okX19_sizeOf l D cy B ids hst N x0 hx0 x2  hr.2.2 hc9) F hr hx0 hl.1 rfl (Nat.le_of_ble_eq_true rfl) dX19_arrives_41 rfl rfl hroX19_arrives_X19_sizeOf ⟨Nat.zero_le _, Nat.zero_le _⟩) F hA hr (fun H locs hw10 hr => ?_)
      clear hc9
      replace h := zc_some h
      obtain ⟨r11, z12, hc13, h⟩ := h
      refine zr_calli (zrun_VN (As := [.int r3, .int r7]) (rest := []) zn_2702 zq_2704 zs_X14_fits zq_2705 zq_21 hdX14_fits (by decide) (T := TX14) (N := 47) rfl (okX14_fits l D cy B ids hst N x1 hx1 r3  r7  hr.2.2 hc13) F hr hx1 hl.1 rfl (by decide) dX19_arrives_44 rfl rfl hroX19_arrives_X14_fits ⟨Nat.zero_le _, Nat.zero_le _⟩) F hA hr (fun H locs hw14 hr => ?_)
      clear hc13
      refine lv_if_ne (tgt := 107) F.1 F.2.1 dX19_arrives_47 (by decide) (fun c15 => ?_) (fun c15 => ?_)
      · replace h := zi_t c15 h
        refine lv_aload_n F.1 F.2.1 dX19_arrives_107 rfl (lv_at hl 0 rfl) ?_
        refine lv_iload_n F.1 F.2.1 dX19_arrives_108 rfl (lv_at hl 2 rfl) ?_
        refine lv_iconst (v := (4 : Int32)) F.1 F.2.1 dX19_arrives_109 (by decide) ?_
        replace h := zc_some h
        obtain ⟨r16, z17, hc18, h⟩ := h
        refine zr_calli (zrun_V (As := [.int x2, .int (4 : Int32)]) (rest := []) zq_2663 zq_2665 zs_X19_has zq_2666 zq_4 hdX19_has (by decide) (T := TX19) (N := 32) rfl (okX19_has l D cy B ids hst N x0 hx0 x2  (4 : Int32)  hr.2.2 hc18) F hr hx0 hl.1 rfl (by decide) dX19_arrives_110 rfl rfl hroX19_arrives_X19_has ⟨Nat.zero_le _, Nat.zero_le _⟩) F hA hr (fun H locs hw19 hr => ?_)
        clear hc18
        refine lv_if_eq (tgt := 196) F.1 F.2.1 dX19_arrives_113 (by decide) (fun c20 => ?_) (fun c20 => ?_)
        · replace h := zi_t c20 h
          refine lv_aload_n F.1 F.2.1 dX19_arrives_196 rfl (lv_at hl 0 rfl) ?_
          refine lv_iload_n F.1 F.2.1 dX19_arrives_197 rfl (lv_at hl 2 rfl) ?_
          refine lv_iconst (v := (1 : Int32)) F.1 F.2.1 dX19_arrives_198 (by decide) ?_
          replace h := zc_some h
          obtain ⟨r21, z22, hc23, h⟩ := h
          refine zr_calli (zrun_V (As := [.int x2, .int (1 : Int32)]) (rest := []) zq_2663 zq_2665 zs_X19_has zq_2666 zq_4 hdX19_has (by decide) (T := TX19) (N := 32) rfl (okX19_has l D cy B ids hst N x0 hx0 x2  (1 : Int32)  hr.2.2 hc23) F hr hx0 hl.1 rfl (by decide) dX19_arrives_199 rfl rfl hroX19_arrives_X19_has ⟨Nat.zero_le _, Nat.zero_le _⟩) F hA hr (fun H locs hw24 hr => ?_)
          clear hc23
          refine lv_if_eq (tgt := 212) F.1 F.2.1 dX19_arrives_202 (by decide) (fun c25 => ?_) (fun c25 => ?_)
          · replace h := zi_t c25 h
            refine lv_aload_n F.1 F.2.1 dX19_arrives_212 rfl (lv_at hl 0 rfl) ?_
            refine lv_iload_n F.1 F.2.1 dX19_arrives_213 rfl (lv_at hl 2 rfl) ?_
            refine lv_bipush (v := (8 : Int32)) F.1 F.2.1 dX19_arrives_214 (by decide) ?_
            replace h := zc_some h
            obtain ⟨r26, z27, hc28, h⟩ := h
            refine zr_calli (zrun_V (As := [.int x2, .int (8 : Int32)]) (rest := []) zq_2663 zq_2665 zs_X19_has zq_2666 zq_4 hdX19_has (by decide) (T := TX19) (N := 32) rfl (okX19_has l D cy B ids hst N x0 hx0 x2  (8 : Int32)  hr.2.2 hc28) F hr hx0 hl.1 rfl (by decide) dX19_arrives_216 rfl rfl hroX19_arrives_X19_has ⟨Nat.zero_le _, Nat.zero_le _⟩) F hA hr (fun H locs hw29 hr => ?_)
            clear hc28
            refine lv_if_ne (tgt := 224) F.1 F.2.1 dX19_arrives_219 (by decide) (fun c30 => ?_) (fun c30 => ?_)
            · replace h := zi_t c30 h
              refine lv_aload_n F.1 F.2.1 dX19_arrives_224 rfl (lv_at hl 1 rfl) ?_
              refine gf19_353 F hx1 hr dX19_arrives_225 ?_
              refine lv_iconst (v := (3 : Int32)) F.1 F.2.1 dX19_arrives_228 (by decide) ?_
              refine lv_icmp_ne (tgt := 277) F.1 F.2.1 dX19_arrives_229 (by decide) (fun c31 => ?_) (fun c31 => ?_)
              · replace h := zi_t c31 h
                refine lv_aload_n F.1 F.2.1 dX19_arrives_277 rfl (lv_at hl 1 rfl) ?_
                refine gf19_600 F hx1 hr dX19_arrives_278 ?_
                refine lv_aload_n F.1 F.2.1 dX19_arrives_281 rfl (lv_at hl 0 rfl) ?_
                refine lv_iload_n F.1 F.2.1 dX19_arrives_282 rfl (lv_at hl 2 rfl) ?_
                refine lv_iconst (v := (4 : Int32)) F.1 F.2.1 dX19_arrives_283 (by decide) ?_
                replace h := zc_some h
                obtain ⟨r32, z33, hc34, h⟩ := h
                refine zr_calli (zrun_V (As := [.int x2, .int (4 : Int32)]) (rest := [.int (zgI z27 14 7 x1)]) zq_2557 zq_2559 zs_X19_seg zq_2560 zq_4 hdX19_seg (by decide) (T := TX19) (N := 32) rfl (okX19_seg l D cy B ids hst N x0 hx0 x2  (4 : Int32)  hr.2.2 hc34) F hr hx0 hl.1 rfl (Nat.le_of_ble_eq_true rfl) dX19_arrives_284 rfl rfl hroX19_arrives_X19_seg ⟨Nat.zero_le _, Nat.zero_le _⟩) F hA hr (fun H locs hw35 hr => ?_)
                clear hc34
                replace h := zc_some h
                obtain ⟨r36, z37, hc38, h⟩ := h
                refine zr_calli (zrun_S (As := [.int (zgI z27 14 7 x1), .int r32]) (rest := []) zq_2714 zq_2692 zq_2693 zq_4 hdX19_isBefore (okX19_isBefore l D cy B ids hst N (zgI z27 14 7 x1)  r32  hr.2.2 hc38) F hr hl.1 rfl (by decide) dX19_arrives_287 rfl rfl hroX19_arrives_X19_isBefore ⟨Nat.zero_le _, Nat.zero_le _⟩) F hA hr (fun H locs hw39 hr => ?_)
                clear hc38
                refine lv_if_eq (tgt := 300) F.1 F.2.1 dX19_arrives_290 (by decide) (fun c40 => ?_) (fun c40 => ?_)
                · replace h := zi_t c40 h
                  exact bX19_arrives_300 hst F hA E  x0 x1 x2 hx0 hx1 hr (lv_sub hl [0, 1, 2] rfl) h
                · replace h := zi_f c40 h
                  refine lv_aload_n F.1 F.2.1 dX19_arrives_293 rfl (lv_at hl 1 rfl) ?_
                  refine lv_iconst (v := (1 : Int32)) F.1 F.2.1 dX19_arrives_294 (by decide) ?_
                  refine pf19_616 F hx1 hr dX19_arrives_295 (1 : Int32) (by decide) (fun H locs z41 ez41 hr => ?_)
                  replace h := zl_sub ez41 h
                  clear ez41
                  refine lv_iconst (v := (0 : Int32)) F.1 F.2.1 dX19_arrives_298 (by decide) ?_
                  obtain ⟨rfl, rfl⟩ := zret h
                  exact E _ _ _ _ dX19_arrives_299 (by decide) hr
              · replace h := zi_f (fun q => q c31) h
                refine lv_aload_n F.1 F.2.1 dX19_arrives_232 rfl (lv_at hl 0 rfl) ?_
                refine lv_iload_n F.1 F.2.1 dX19_arrives_233 rfl (lv_at hl 2 rfl) ?_
                refine lv_iconst (v := (4 : Int32)) F.1 F.2.1 dX19_arrives_234 (by decide) ?_
                replace h := zc_some h
                obtain ⟨r42, z43, hc44, h⟩ := h
                refine zr_calli (zrun_V (As := [.int x2, .int (4 : Int32)]) (rest := []) zq_2557 zq_2559 zs_X19_seg zq_2560 zq_4 hdX19_seg (by decide) (T := TX19) (N := 32) rfl (okX19_seg l D cy B ids hst N x0 hx0 x2  (4 : Int32)  hr.2.2 hc44) F hr hx0 hl.1 rfl (by decide) dX19_arrives_235 rfl rfl hroX19_arrives_X19_seg ⟨Nat.zero_le _, Nat.zero_le _⟩) F hA hr (fun H locs hw45 hr => ?_)
                clear hc44
                refine lv_aload_n F.1 F.2.1 dX19_arrives_238 rfl (lv_at hl 1 rfl) ?_
                refine gf19_600 F hx1 hr dX19_arrives_239 ?_
                refine lv_icmp_eq (tgt := 253) F.1 F.2.1 dX19_arrives_242 (by decide) (fun c46 => ?_) (fun c46 => ?_)
                · replace h := zi_t c46 h
                  refine lv_aload_n F.1 F.2.1 dX19_arrives_253 rfl (lv_at hl 1 rfl) ?_
                  refine lv_aload_n F.1 F.2.1 dX19_arrives_254 rfl (lv_at hl 1 rfl) ?_
                  refine gf19_634 F hx1 hr dX19_arrives_255 ?_
                  refine lv_if_eq (tgt := 265) F.1 F.2.1 dX19_arrives_258 (by decide) (fun c47 => ?_) (fun c47 => ?_)
                  · replace h := zi_t c47 h
                    refine lv_iconst (v := (4 : Int32)) F.1 F.2.1 dX19_arrives_265 (by decide) ?_
                    exact bX19_arrives_266 hst F hA E  x0 x1 x2 x1 (4 : Int32) hx0 hx1 hx1 hr (lv_sub hl [0, 1, 2] rfl) h
                  · replace h := zi_f c47 h
                    refine lv_iconst (v := (5 : Int32)) F.1 F.2.1 dX19_arrives_261 (by decide) ?_
                    refine lv_goto (tgt := 266) F.1 F.2.1 dX19_arrives_262 (by decide) ?_
                    exact bX19_arrives_266 hst F hA E  x0 x1 x2 x1 (5 : Int32) hx0 hx1 hx1 hr (lv_sub hl [0, 1, 2] rfl) h
                · replace h := zi_f c46 h
                  refine lv_aload_n F.1 F.2.1 dX19_arrives_245 rfl (lv_at hl 0 rfl) ?_
                  refine lv_aload_n F.1 F.2.1 dX19_arrives_246 rfl (lv_at hl 1 rfl) ?_
                  refine lv_iload_n F.1 F.2.1 dX19_arrives_247 rfl (lv_at hl 2 rfl) ?_
                  replace h := zc_some h
                  obtain ⟨r48, z49, hc50, h⟩ := h
                  refine zr_callv (zrun_V (As := [.ref (B 14 x1), .int x2]) (rest := []) zq_2667 zq_2669 zs_X19_answer zq_2670 zq_4 hdX19_answer (by decide) (T := TX19) (N := 32) rfl (okX19_answer l D cy B ids hst N x0 hx0 x1 hx1 x2  hr.2.2 hc50) F hr hx0 hl.1 rfl (by decide) dX19_arrives_248 rfl rfl hroX19_arrives_X19_answer ⟨Nat.zero_le _, Nat.zero_le _⟩) F hA hr (fun H locs hw51 hr => ?_)
                  clear hc50
                  refine lv_iconst (v := (0 : Int32)) F.1 F.2.1 dX19_arrives_251 (by decide) ?_
                  obtain ⟨rfl, rfl⟩ := zret h
                  exact E _ _ _ _ dX19_arrives_252 (by decide) hr
            · replace h := zi_f (fun q => q c30) h
              refine lv_iconst (v := (0 : Int32)) F.1 F.2.1 dX19_arrives_222 (by decide) ?_
              obtain ⟨rfl, rfl⟩ := zret h
              exact E _ _ _ _ dX19_arrives_223 (by decide) hr
          · replace h := zi_f c25 h
            refine lv_aload_n F.1 F.2.1 dX19_arrives_205 rfl (lv_at hl 1 rfl) ?_
            refine lv_iconst (v := (1 : Int32)) F.1 F.2.1 dX19_arrives_206 (by decide) ?_
            refine pf19_616 F hx1 hr dX19_arrives_207 (1 : Int32) (by decide) (fun H locs z52 ez52 hr => ?_)
            replace h := zl_sub ez52 h
            clear ez52
            refine lv_iconst (v := (0 : Int32)) F.1 F.2.1 dX19_arrives_210 (by decide) ?_
            obtain ⟨rfl, rfl⟩ := zret h
            exact E _ _ _ _ dX19_arrives_211 (by decide) hr
        · replace h := zi_f c20 h
          refine lv_aload_n F.1 F.2.1 dX19_arrives_116 rfl (lv_at hl 0 rfl) ?_
          refine lv_iload_n F.1 F.2.1 dX19_arrives_117 rfl (lv_at hl 2 rfl) ?_
          refine lv_iconst (v := (3 : Int32)) F.1 F.2.1 dX19_arrives_118 (by decide) ?_
          replace h := zc_some h
          obtain ⟨r53, z54, hc55, h⟩ := h
          refine zr_calli (zrun_V (As := [.int x2, .int (3 : Int32)]) (rest := []) zq_2557 zq_2559 zs_X19_seg zq_2560 zq_4 hdX19_seg (by decide) (T := TX19) (N := 32) rfl (okX19_seg l D cy B ids hst N x0 hx0 x2  (3 : Int32)  hr.2.2 hc55) F hr hx0 hl.1 rfl (by decide) dX19_arrives_119 rfl rfl hroX19_arrives_X19_seg ⟨Nat.zero_le _, Nat.zero_le _⟩) F hA hr (fun H locs hw56 hr => ?_)
          clear hc55
          refine lv_aload_n F.1 F.2.1 dX19_arrives_122 rfl (lv_at hl 1 rfl) ?_
          refine gf19_570 F hx1 hr dX19_arrives_123 ?_
          refine lv_icmp_eq (tgt := 136) F.1 F.2.1 dX19_arrives_126 (by decide) (fun c57 => ?_) (fun c57 => ?_)
          · replace h := zi_t c57 h
            refine lv_aload_n F.1 F.2.1 dX19_arrives_136 rfl (lv_at hl 1 rfl) ?_
            refine gf19_353 F hx1 hr dX19_arrives_137 ?_
            refine lv_iconst (v := (3 : Int32)) F.1 F.2.1 dX19_arrives_140 (by decide) ?_
            refine lv_icmp_ne (tgt := 153) F.1 F.2.1 dX19_arrives_141 (by decide) (fun c58 => ?_) (fun c58 => ?_)
            · replace h := zi_t c58 h
              exact bX19_arrives_153 hst F hA E  x0 x1 hx0 hx1 hr (lv_sub hl [0, 1] rfl) h
            · replace h := zi_f (fun q => q c58) h
              refine lv_aload_n F.1 F.2.1 dX19_arrives_144 rfl (lv_at hl 1 rfl) ?_
              refine gf19_631 F hx1 hr dX19_arrives_145 ?_
              refine lv_if_eq (tgt := 153) F.1 F.2.1 dX19_arrives_148 (by decide) (fun c59 => ?_) (fun c59 => ?_)
              · replace h := zi_t c59 h
                exact bX19_arrives_153 hst F hA E  x0 x1 hx0 hx1 hr (lv_sub hl [0, 1] rfl) h
              · replace h := zi_f c59 h
                refine lv_iconst (v := (1 : Int32)) F.1 F.2.1 dX19_arrives_151 (by decide) ?_
                obtain ⟨rfl, rfl⟩ := zret h
                exact E _ _ _ _ dX19_arrives_152 (by decide) hr
          · replace h := zi_f c57 h
            refine lv_aload_n F.1 F.2.1 dX19_arrives_129 rfl (lv_at hl 1 rfl) ?_
            refine lv_iconst (v := (1 : Int32)) F.1 F.2.1 dX19_arrives_130 (by decide) ?_
            refine pf19_616 F hx1 hr dX19_arrives_131 (1 : Int32) (by decide) (fun H locs z60 ez60 hr => ?_)
            replace h := zl_sub ez60 h
            clear ez60
            refine lv_iconst (v := (0 : Int32)) F.1 F.2.1 dX19_arrives_134 (by decide) ?_
            obtain ⟨rfl, rfl⟩ := zret h
            exact E _ _ _ _ dX19_arrives_135 (by decide) hr
      · replace h := zi_f (fun q => q c15) h
        refine lv_aload_n F.1 F.2.1 dX19_arrives_50 rfl (lv_at hl 1 rfl) ?_
        refine lv_aload_n F.1 F.2.1 dX19_arrives_51 rfl (lv_at hl 1 rfl) ?_
        refine gf19_616 F hx1 hr dX19_arrives_52 ?_
        refine lv_if_ne (tgt := 67) F.1 F.2.1 dX19_arrives_55 (by decide) (fun c61 => ?_) (fun c61 => ?_)
        · replace h := zi_t c61 h
          exact bX19_arrives_67 hst F hA E  x0 x1 x2 x1 hx0 hx1 hx1 hr (lv_sub hl [0, 1, 2] rfl) h
        · replace h := zi_f (fun q => q c61) h
          refine lv_aload_n F.1 F.2.1 dX19_arrives_58 rfl (lv_at hl 0 rfl) ?_
          refine lv_iload_n F.1 F.2.1 dX19_arrives_59 rfl (lv_at hl 2 rfl) ?_
          refine lv_iconst (v := (4 : Int32)) F.1 F.2.1 dX19_arrives_60 (by decide) ?_
          replace h := zc_some h
          obtain ⟨r62, z63, hc64, h⟩ := h
          refine zr_calli (zrun_V (As := [.int x2, .int (4 : Int32)]) (rest := [.ref (B 14 x1)]) zq_2663 zq_2665 zs_X19_has zq_2666 zq_4 hdX19_has (by decide) (T := TX19) (N := 32) rfl (okX19_has l D cy B ids hst N x0 hx0 x2  (4 : Int32)  hr.2.2 hc64) F hr hx0 hl.1 rfl (Nat.le_of_ble_eq_true rfl) dX19_arrives_61 rfl rfl hroX19_arrives_X19_has ⟨Nat.zero_le _, Nat.zero_le _⟩) F hA hr (fun H locs hw65 hr => ?_)
          clear hc64
          refine lv_if_ne (tgt := 71) F.1 F.2.1 dX19_arrives_64 (by decide) (fun c66 => ?_) (fun c66 => ?_)
          · replace h := zi_t c66 h
            refine lv_iconst (v := (0 : Int32)) F.1 F.2.1 dX19_arrives_71 (by decide) ?_
            exact bX19_arrives_72 hst F hA E  x0 x1 x2 x1 (0 : Int32) hx0 hx1 hx1 hr (lv_sub hl [0, 1, 2] rfl) h
          · replace h := zi_f (fun q => q c66) h
            exact bX19_arrives_67 hst F hA E  x0 x1 x2 x1 hx0 hx1 hx1 hr (lv_sub hl [0, 1, 2] rfl) h
    · replace h := zi_f (fun q => q c2) h
      refine lv_aload_n F.1 F.2.1 dX19_arrives_24 rfl (lv_at hl 0 rfl) ?_
      refine lv_aload_n F.1 F.2.1 dX19_arrives_25 rfl (lv_at hl 1 rfl) ?_
      refine lv_iload_n F.1 F.2.1 dX19_arrives_26 rfl (lv_at hl 2 rfl) ?_
      replace h := zc_some h
      obtain ⟨r67, z68, hc69, h⟩ := h
      refine zr_callv (zrun_V (As := [.ref (B 14 x1), .int x2]) (rest := []) zq_2683 zq_2685 zs_X19_arriveAsking zq_2686 zq_4 hdX19_arriveAsking (by decide) (T := TX19) (N := 32) rfl (okX19_arriveAsking l D cy B ids hst N x0 hx0 x1 hx1 x2  hr.2.2 hc69) F hr hx0 hl.1 rfl (by decide) dX19_arrives_27 rfl rfl hroX19_arrives_X19_arriveAsking ⟨Nat.zero_le _, Nat.zero_le _⟩) F hA hr (fun H locs hw70 hr => ?_)
      clear hc69
      refine lv_iconst (v := (0 : Int32)) F.1 F.2.1 dX19_arrives_30 (by decide) ?_
      obtain ⟨rfl, rfl⟩ := zret h
      exact E _ _ _ _ dX19_arrives_31 (by decide) hr
  · replace h := zi_f (fun q => q c1) h
    refine lv_aload_n F.1 F.2.1 dX19_arrives_8 rfl (lv_at hl 0 rfl) ?_
    refine lv_aload_n F.1 F.2.1 dX19_arrives_9 rfl (lv_at hl 1 rfl) ?_
    refine lv_iload_n F.1 F.2.1 dX19_arrives_10 rfl (lv_at hl 2 rfl) ?_
    replace h := zc_some h
    obtain ⟨r71, z72, hc73, h⟩ := h
    refine zr_callv (zrun_V (As := [.ref (B 14 x1), .int x2]) (rest := []) zq_2659 zq_2661 zs_X19_arriveListening zq_2662 zq_4 hdX19_arriveListening (by decide) (T := TX19) (N := 32) rfl (okX19_arriveListening l D cy B ids hst N x0 hx0 x1 hx1 x2  hr.2.2 hc73) F hr hx0 hl.1 rfl (by decide) dX19_arrives_11 rfl rfl hroX19_arrives_X19_arriveListening ⟨Nat.zero_le _, Nat.zero_le _⟩) F hA hr (fun H locs hw74 hr => ?_)
    clear hc73
    refine lv_iconst (v := (0 : Int32)) F.1 F.2.1 dX19_arrives_14 (by decide) ?_
    obtain ⟨rfl, rfl⟩ := zret h
    exact E _ _ _ _ dX19_arrives_15 (by decide) hr
end SX19_arrives
set_option maxRecDepth 100000 in
theorem okX19_arrives (l : Launch) (D : va_G) (cy : Nat → ClassId) (B : Nat → Nat → Nat) (ids : List (Nat × Nat)) (hst : zSt B ids) (N : Nat) (x0 : Nat) (hx0 : (19, x0) ∈ ids) (x1 : Nat) (hx1 : (14, x1) ∈ ids) (x2 : Int32) {z : St} {r : Int32} {z' : St} (hW : zWf ids z) (h : fX19_arrives N x0 x1 x2 z = some (r, z')) : zM l yX19_arrives (zws yX19_arrives cX19_arrives 3 (some .boolean)) rmX19_arrives D cy B ids [.ref (B 19 x0), .ref (B 14 x1), .int x2] (some (.int r)) (r = 0 ∨ r = 1) z z' :=
  zM_of hst hW (by decide +kernel) (Nat.le_of_ble_eq_true rfl) (fun p e s m args below meth c A ls F hA hret hlocks hr hl => bX19_arrives_0 hst F hA (zEnd_z F hret hlocks) x0 x1 x2 hx0 hx1 hr hl h)
