abbrev rmX19_arrive : Room := { frames := 13, cells := 0, slots := 0, locals := 337 }
theorem hdX19_arrive : yX19_arrive.cls ≠ "java/lang/invoke/MethodHandle" ∧ yX19_arrive.cls ≠ "java/lang/invoke/VarHandle" ∧ (parseMethodDescriptor yX19_arrive.desc).map (fun d => d.parameters.length) = some 6 := by decide +kernel
theorem hroX19_arrive_X18_address : rmX18_address.frames + 1 ≤ rmX19_arrive.frames ∧ 8 + (1 + 11) + rmX18_address.locals ≤ rmX19_arrive.locals := by decide
theorem hroX19_arrive_X18_askingOf : rmX18_askingOf.frames + 1 ≤ rmX19_arrive.frames ∧ 8 + (3 + 11) + rmX18_askingOf.locals ≤ rmX19_arrive.locals := by decide
theorem hroX19_arrive_X18_endAsking : rmX18_endAsking.frames + 1 ≤ rmX19_arrive.frames ∧ 8 + (3 + 11) + rmX18_endAsking.locals ≤ rmX19_arrive.locals := by decide
theorem hroX19_arrive_X19_carry : rmX19_carry.frames + 1 ≤ rmX19_arrive.frames ∧ 8 + (9 + 11) + rmX19_carry.locals ≤ rmX19_arrive.locals := by decide
theorem hroX19_arrive_X19_copyOf : rmX19_copyOf.frames + 1 ≤ rmX19_arrive.frames ∧ 8 + (4 + 11) + rmX19_copyOf.locals ≤ rmX19_arrive.locals := by decide
theorem hroX19_arrive_X19_drop : rmX19_drop.frames + 1 ≤ rmX19_arrive.frames ∧ 8 + (2 + 11) + rmX19_drop.locals ≤ rmX19_arrive.locals := by decide
theorem hroX19_arrive_X19_firstWaiting : rmX19_firstWaiting.frames + 1 ≤ rmX19_arrive.frames ∧ 8 + (4 + 11) + rmX19_firstWaiting.locals ≤ rmX19_arrive.locals := by decide
theorem hroX19_arrive_X19_forward : rmX19_forward.frames + 1 ≤ rmX19_arrive.frames ∧ 8 + (3 + 11) + rmX19_forward.locals ≤ rmX19_arrive.locals := by decide
theorem hroX19_arrive_X19_get : rmX19_get.frames + 1 ≤ rmX19_arrive.frames ∧ 8 + (7 + 11) + rmX19_get.locals ≤ rmX19_arrive.locals := by decide
theorem hroX19_arrive_X19_isOwn : rmX19_isOwn.frames + 1 ≤ rmX19_arrive.frames ∧ 8 + (4 + 11) + rmX19_isOwn.locals ≤ rmX19_arrive.locals := by decide
theorem hroX19_arrive_X19_of : rmX19_of.frames + 1 ≤ rmX19_arrive.frames ∧ 8 + (3 + 11) + rmX19_of.locals ≤ rmX19_arrive.locals := by decide
theorem hroX19_arrive_X19_put : rmX19_put.frames + 1 ≤ rmX19_arrive.frames ∧ 8 + (9 + 11) + rmX19_put.locals ≤ rmX19_arrive.locals := by decide
theorem hroX19_arrive_X19_set : rmX19_set.frames + 1 ≤ rmX19_arrive.frames ∧ 8 + (4 + 11) + rmX19_set.locals ≤ rmX19_arrive.locals := by decide
section SX19_arrive
variable {p : Program} {l : Launch} {e : Env} {s : State} {m : MethodId} {args : Array Value} {below : List Frame} {meth : Method} {c : Code} {Q : State → Prop} {D : va_G} {cy : Nat → ClassId} {B : Nat → Nat → Nat} {ids : List (Nat × Nat)} {A : Nat → Prop}
def fX19_arrive_206 (N : Nat)  (x0 : Nat) (x8 : Int32) (z : St) : Option (Int32 × St) := zc (fX19_drop N x0 x8 z) fun _ z2 => some (0, z2)
set_option maxHeartbeats 4000000 in
set_option maxRecDepth 100000 in
theorem bX19_arrive_206 (hst : zSt B ids) (F : zFx p m c cX19_arrive 10 s args RX19 D cy B ids A) (hA : ∀ q : Nat, s.heap.size ≤ q → A q) {r : Int32} {z' : St} (E : zEnd p l e rmX19_arrive s m args below meth c cX19_arrive D cy B ids A Q none z' .return_ True) {N : Nat}  (x0 : Nat) (x8 : Int32) (hx0 : (19, x0) ∈ ids) {z : St} {H : Heap} {locs : List Loc} {ls : Array Slot} (hr : zRep D cy B ids A s.heap z H locs) (hl : lv_has ls 10 [(0, .ref (B 19 x0)), (8, .int x8)]) (h : fX19_arrive_206 N x0 x8 z = some (r, z')) : W p l e rmX19_arrive s m args below meth c H locs 0 0 Q (F0 m 206 ls []) := by
  unfold fX19_arrive_206 at h
  refine lv_aload_n F.1 F.2.1 dX19_arrive_206 rfl (lv_at hl 0 rfl) ?_
  refine lv_iload F.1 F.2.1 dX19_arrive_207 (lv_at hl 1 rfl) ?_
  replace h := zc_some h
  obtain ⟨r1, z2, hc3, h⟩ := h
  refine zr_callv (zrun_V (As := [.int x8]) (rest := []) zq_2545 zq_2547 zs_X19_drop zq_2548 zq_4 hdX19_drop (by decide) (T := TX19) (N := 32) rfl (okX19_drop l D cy B ids hst N x0 hx0 x8  hr.2.2 hc3) F hr hx0 hl.1 rfl (by decide) dX19_arrive_209 rfl rfl hroX19_arrive_X19_drop ⟨Nat.zero_le _, Nat.zero_le _⟩) F hA hr (fun H locs hw4 hr => ?_)
  clear hc3
  obtain ⟨rfl, rfl⟩ := zret h
  exact E _ _ _ _ dX19_arrive_212 trivial hr
def fX19_arrive_147 (N : Nat)  (x0 : Nat) (x1 : Nat) (x8 : Int32) (z : St) : Option (Int32 × St) := zl (zgR z 18 0 x1) fun y1 => zd y1 fun a2 => zc (fX19_get N x0 a2 x8 z) fun _ z4 => fX19_arrive_206 N x0 x8 z4
set_option maxHeartbeats 4000000 in
set_option maxRecDepth 100000 in
theorem bX19_arrive_147 (hst : zSt B ids) (F : zFx p m c cX19_arrive 10 s args RX19 D cy B ids A) (hA : ∀ q : Nat, s.heap.size ≤ q → A q) {r : Int32} {z' : St} (E : zEnd p l e rmX19_arrive s m args below meth c cX19_arrive D cy B ids A Q none z' .return_ True) {N : Nat}  (x0 : Nat) (x1 : Nat) (x8 : Int32) (hx0 : (19, x0) ∈ ids) (hx1 : (18, x1) ∈ ids) {z : St} {H : Heap} {locs : List Loc} {ls : Array Slot} (hr : zRep D cy B ids A s.heap z H locs) (hl : lv_has ls 10 [(0, .ref (B 19 x0)), (1, .ref (B 18 x1)), (8, .int x8)]) (h : fX19_arrive_147 N x0 x1 x8 z = some (r, z')) : W p l e rmX19_arrive s m args below meth c H locs 0 0 Q (F0 m 147 ls []) := by
  unfold fX19_arrive_147 at h
  refine lv_aload_n F.1 F.2.1 dX19_arrive_147 rfl (lv_at hl 0 rfl) ?_
  refine lv_aload_n F.1 F.2.1 dX19_arrive_148 rfl (lv_at hl 1 rfl) ?_
  refine gf19_197 F hx1 hr dX19_arrive_149 (fun y1 ey1 => ?_)
  replace h := zl_sub ey1 h
  have hy1 := zal_g hr hx1 (j := 0) rfl ey1
  clear ey1
  refine lv_iload F.1 F.2.1 dX19_arrive_152 (lv_at hl 2 rfl) ?_
  replace h := zd_some h
  obtain ⟨a2, rfl, h⟩ := h
  replace h := zc_some h
  obtain ⟨r3, z4, hc5, h⟩ := h
  refine zr_callv (zrun_V (As := [.ref (B 12 a2), .int x8]) (rest := []) zq_2631 zq_2633 zs_X19_get zq_2634 zq_4 hdX19_get (by decide) (T := TX19) (N := 32) rfl (okX19_get l D cy B ids hst N x0 hx0 a2 (hy1 _ rfl) x8  hr.2.2 hc5) F hr hx0 hl.1 rfl (by decide) dX19_arrive_154 rfl rfl hroX19_arrive_X19_get ⟨Nat.zero_le _, Nat.zero_le _⟩) F hA hr (fun H locs hw6 hr => ?_)
  clear hc5
  refine lv_goto (tgt := 206) F.1 F.2.1 dX19_arrive_157 (by decide) ?_
  exact bX19_arrive_206 hst F hA E  x0 x8 hx0 hr (lv_sub hl [0, 2] rfl) h
def fX19_arrive_196 (N : Nat)  (x0 : Nat) (x1 : Nat) (x8 : Int32) (z : St) : Option (Int32 × St) := zl (zgR z 18 0 x1) fun y1 => zd y1 fun a2 => zc (fX19_forward N x0 a2 x8 z) fun _ z4 => fX19_arrive_206 N x0 x8 z4
set_option maxHeartbeats 4000000 in
set_option maxRecDepth 100000 in
theorem bX19_arrive_196 (hst : zSt B ids) (F : zFx p m c cX19_arrive 10 s args RX19 D cy B ids A) (hA : ∀ q : Nat, s.heap.size ≤ q → A q) {r : Int32} {z' : St} (E : zEnd p l e rmX19_arrive s m args below meth c cX19_arrive D cy B ids A Q none z' .return_ True) {N : Nat}  (x0 : Nat) (x1 : Nat) (x8 : Int32) (hx0 : (19, x0) ∈ ids) (hx1 : (18, x1) ∈ ids) {z : St} {H : Heap} {locs : List Loc} {ls : Array Slot} (hr : zRep D cy B ids A s.heap z H locs) (hl : lv_has ls 10 [(0, .ref (B 19 x0)), (1, .ref (B 18 x1)), (8, .int x8)]) (h : fX19_arrive_196 N x0 x1 x8 z = some (r, z')) : W p l e rmX19_arrive s m args below meth c H locs 0 0 Q (F0 m 196 ls []) := by
  unfold fX19_arrive_196 at h
  refine lv_aload_n F.1 F.2.1 dX19_arrive_196 rfl (lv_at hl 0 rfl) ?_
  refine lv_aload_n F.1 F.2.1 dX19_arrive_197 rfl (lv_at hl 1 rfl) ?_
  refine gf19_197 F hx1 hr dX19_arrive_198 (fun y1 ey1 => ?_)
  replace h := zl_sub ey1 h
  have hy1 := zal_g hr hx1 (j := 0) rfl ey1
  clear ey1
  refine lv_iload F.1 F.2.1 dX19_arrive_201 (lv_at hl 2 rfl) ?_
  replace h := zd_some h
  obtain ⟨a2, rfl, h⟩ := h
  replace h := zc_some h
  obtain ⟨r3, z4, hc5, h⟩ := h
  refine zr_callv (zrun_V (As := [.ref (B 12 a2), .int x8]) (rest := []) zq_2848 zq_2850 zs_X19_forward zq_2851 zq_4 hdX19_forward (by decide) (T := TX19) (N := 32) rfl (okX19_forward l D cy B ids hst N x0 hx0 a2 (hy1 _ rfl) x8  hr.2.2 hc5) F hr hx0 hl.1 rfl (by decide) dX19_arrive_203 rfl rfl hroX19_arrive_X19_forward ⟨Nat.zero_le _, Nat.zero_le _⟩) F hA hr (fun H locs hw6 hr => ?_)
  clear hc5
  exact bX19_arrive_206 hst F hA E  x0 x8 hx0 hr (lv_sub hl [0, 2] rfl) h
def fX19_arrive_68 (N : Nat)  (x0 : Nat) (x1 : Nat) (x2 : Int32) (x3 : Int32) (x4 : Int32) (x5 : Int32) (x6 : Int32) (z : St) : Option (Int32 × St) := if ¬ x4 = 0 then (if ¬ x4 = (2 : Int32) then (some (0, z)) else (zc (fX19_copyOf N x0 x6 z) fun r3 z4 => zc (fX19_set N x0 r3 (9 : Int32) (zgI z4 18 1 x1) z4) fun _ z8 => zc (fX19_of N x0 r3 (1 : Int32) z8) fun r11 z12 => if r11 = 0 then (fX19_arrive_147 N x0 x1 r3 z12) else (zl (zgR z12 18 0 x1) fun y16 => zd y16 fun a17 => zc (fX19_isOwn N x0 a17 r11 z12) fun r18 z19 => if r18 = 0 then (zl (zgR z19 18 0 x1) fun y23 => zd y23 fun a24 => if (zgI z19 12 1 a24) = 0 then (fX19_arrive_206 N x0 r3 z19) else (if x3 = (-1 : Int32) then (fX19_arrive_206 N x0 r3 z19) else (zc (fX19_of N x0 r3 (2 : Int32) z19) fun r27 z28 => if r27 = (1 : Int32) then (fX19_arrive_196 N x0 x1 r3 z28) else (zc (fX19_of N x0 r3 (2 : Int32) z28) fun r32 z33 => if ¬ r32 = 0 then (fX19_arrive_206 N x0 r3 z33) else (fX19_arrive_196 N x0 x1 r3 z33))))) else (fX19_arrive_147 N x0 x1 r3 z19)))) else (zc (fX18_address N x1 z) fun r37 z38 => if ¬ x5 = r37 then (some (0, z38)) else (zc (fX19_put N x0 x1 x2 (1 : Int32) (0 : Int32) (-1 : Int32) z38) fun _ z43 => some (0, z43)))
set_option maxHeartbeats 4000000 in
set_option maxRecDepth 100000 in
theorem bX19_arrive_68 (hst : zSt B ids) (F : zFx p m c cX19_arrive 10 s args RX19 D cy B ids A) (hA : ∀ q : Nat, s.heap.size ≤ q → A q) {r : Int32} {z' : St} (E : zEnd p l e rmX19_arrive s m args below meth c cX19_arrive D cy B ids A Q none z' .return_ True) {N : Nat}  (x0 : Nat) (x1 : Nat) (x2 : Int32) (x3 : Int32) (x4 : Int32) (x5 : Int32) (x6 : Int32) (hx0 : (19, x0) ∈ ids) (hx1 : (18, x1) ∈ ids) {z : St} {H : Heap} {locs : List Loc} {ls : Array Slot} (hr : zRep D cy B ids A s.heap z H locs) (hl : lv_has ls 10 [(0, .ref (B 19 x0)), (1, .ref (B 18 x1)), (2, .int x2), (3, .int x3), (4, .int x4), (5, .int x5), (6, .int x6)]) (h : fX19_arrive_68 N x0 x1 x2 x3 x4 x5 x6 z = some (r, z')) : W p l e rmX19_arrive s m args below meth c H locs 0 0 Q (F0 m 68 ls []) := by
  unfold fX19_arrive_68 at h
  refine lv_iload F.1 F.2.1 dX19_arrive_68 (lv_at hl 4 rfl) ?_
  refine lv_if_ne (tgt := 94) F.1 F.2.1 dX19_arrive_70 (by decide) (fun c1 => ?_) (fun c1 => ?_)
  · replace h := zi_t c1 h
    refine lv_iload F.1 F.2.1 dX19_arrive_94 (lv_at hl 4 rfl) ?_
    refine lv_iconst (v := (2 : Int32)) F.1 F.2.1 dX19_arrive_96 (by decide) ?_
    refine lv_icmp_ne (tgt := 212) F.1 F.2.1 dX19_arrive_97 (by decide) (fun c2 => ?_) (fun c2 => ?_)
    · replace h := zi_t c2 h
      obtain ⟨rfl, rfl⟩ := zret h
      exact E _ _ _ _ dX19_arrive_212 trivial hr
    · replace h := zi_f (fun q => q c2) h
      refine lv_aload_n F.1 F.2.1 dX19_arrive_100 rfl (lv_at hl 0 rfl) ?_
      refine lv_iload F.1 F.2.1 dX19_arrive_101 (lv_at hl 6 rfl) ?_
      replace h := zc_some h
      obtain ⟨r3, z4, hc5, h⟩ := h
      refine zr_calli (zrun_V (As := [.int x6]) (rest := []) zq_2619 zq_2621 zs_X19_copyOf zq_2622 zq_4 hdX19_copyOf (by decide) (T := TX19) (N := 32) rfl (okX19_copyOf l D cy B ids hst N x0 hx0 x6  hr.2.2 hc5) F hr hx0 hl.1 rfl (by decide) dX19_arrive_103 rfl rfl hroX19_arrive_X19_copyOf ⟨Nat.zero_le _, Nat.zero_le _⟩) F hA hr (fun H locs hw6 hr => ?_)
      clear hc5
      refine lv_istore (lv' := [(8, .int r3), (0, .ref (B 19 x0)), (1, .ref (B 18 x1)), (2, .int x2), (3, .int x3), (4, .int x4), (5, .int x5), (6, .int x6)]) F.1 F.2.1 dX19_arrive_106 hl (by decide) rfl (fun ls hl => ?_)
      refine lv_aload_n F.1 F.2.1 dX19_arrive_108 rfl (lv_at hl 1 rfl) ?_
      refine lv_iload F.1 F.2.1 dX19_arrive_109 (lv_at hl 0 rfl) ?_
      refine lv_bipush (v := (9 : Int32)) F.1 F.2.1 dX19_arrive_111 (by decide) ?_
      refine lv_aload_n F.1 F.2.1 dX19_arrive_113 rfl (lv_at hl 2 rfl) ?_
      refine gf19_380 F hx1 hr dX19_arrive_114 ?_
      replace h := zc_some h
      obtain ⟨r7, z8, hc9, h⟩ := h
      refine zr_callv (zrun_V (As := [.int r3, .int (9 : Int32), .int (zgI z4 18 1 x1)]) (rest := []) zq_2623 zq_2625 zs_X19_set zq_2626 zq_4 hdX19_set (by decide) (T := TX19) (N := 32) rfl (okX19_set l D cy B ids hst N x0 hx0 r3  (9 : Int32)  (zgI z4 18 1 x1)  hr.2.2 hc9) F hr hx0 hl.1 rfl (by decide) dX19_arrive_117 rfl rfl hroX19_arrive_X19_set ⟨Nat.zero_le _, Nat.zero_le _⟩) F hA hr (fun H locs hw10 hr => ?_)
      clear hc9
      refine lv_aload_n F.1 F.2.1 dX19_arrive_120 rfl (lv_at hl 1 rfl) ?_
      refine lv_iload F.1 F.2.1 dX19_arrive_121 (lv_at hl 0 rfl) ?_
      refine lv_iconst (v := (1 : Int32)) F.1 F.2.1 dX19_arrive_123 (by decide) ?_
      replace h := zc_some h
      obtain ⟨r11, z12, hc13, h⟩ := h
      refine zr_calli (zrun_V (As := [.int r3, .int (1 : Int32)]) (rest := []) zq_2549 zq_2551 zs_X19_of zq_2552 zq_4 hdX19_of (by decide) (T := TX19) (N := 32) rfl (okX19_of l D cy B ids hst N x0 hx0 r3  (1 : Int32)  hr.2.2 hc13) F hr hx0 hl.1 rfl (by decide) dX19_arrive_124 rfl rfl hroX19_arrive_X19_of ⟨Nat.zero_le _, Nat.zero_le _⟩) F hA hr (fun H locs hw14 hr => ?_)
      clear hc13
      refine lv_istore (lv' := [(9, .int r11), (8, .int r3), (0, .ref (B 19 x0)), (1, .ref (B 18 x1)), (2, .int x2), (3, .int x3), (4, .int x4), (5, .int x5), (6, .int x6)]) F.1 F.2.1 dX19_arrive_127 hl (by decide) rfl (fun ls hl => ?_)
      refine lv_iload F.1 F.2.1 dX19_arrive_129 (lv_at hl 0 rfl) ?_
      refine lv_if_eq (tgt := 147) F.1 F.2.1 dX19_arrive_131 (by decide) (fun c15 => ?_) (fun c15 => ?_)
      · replace h := zi_t c15 h
        exact bX19_arrive_147 hst F hA E  x0 x1 r3 hx0 hx1 hr (lv_sub hl [2, 3, 1] rfl) h
      · replace h := zi_f c15 h
        refine lv_aload_n F.1 F.2.1 dX19_arrive_134 rfl (lv_at hl 2 rfl) ?_
        refine lv_aload_n F.1 F.2.1 dX19_arrive_135 rfl (lv_at hl 3 rfl) ?_
        refine gf19_197 F hx1 hr dX19_arrive_136 (fun y16 ey16 => ?_)
        replace h := zl_sub ey16 h
        have hy16 := zal_g hr hx1 (j := 0) rfl ey16
        clear ey16
        refine lv_iload F.1 F.2.1 dX19_arrive_139 (lv_at hl 0 rfl) ?_
        replace h := zd_some h
        obtain ⟨a17, rfl, h⟩ := h
        replace h := zc_some h
        obtain ⟨r18, z19, hc20, h⟩ := h
        refine zr_calli (zrun_V (As := [.ref (B 12 a17), .int r11]) (rest := []) zq_2627 zq_2629 zs_X19_isOwn zq_2630 zq_4 hdX19_isOwn (by decide) (T := TX19) (N := 32) rfl (okX19_isOwn l D cy B ids hst N x0 hx0 a17 (hy16 _ rfl) r11  hr.2.2 hc20) F hr hx0 hl.1 rfl (by decide) dX19_arrive_141 rfl rfl hroX19_arrive_X19_isOwn ⟨Nat.zero_le _, Nat.zero_le _⟩) F hA hr (fun H locs hw21 hr => ?_)
        clear hc20
        refine lv_if_eq (tgt := 160) F.1 F.2.1 dX19_arrive_144 (by decide) (fun c22 => ?_) (fun c22 => ?_)
        · replace h := zi_t c22 h
          refine lv_aload_n F.1 F.2.1 dX19_arrive_160 rfl (lv_at hl 3 rfl) ?_
          refine gf19_197 F hx1 hr dX19_arrive_161 (fun y23 ey23 => ?_)
          replace h := zl_sub ey23 h
          have hy23 := zal_g hr hx1 (j := 0) rfl ey23
          clear ey23
          replace h := zd_some h
          obtain ⟨a24, rfl, h⟩ := h
          refine gf19_298 F (hy23 _ rfl) hr dX19_arrive_164 ?_
          refine lv_if_eq (tgt := 206) F.1 F.2.1 dX19_arrive_167 (by decide) (fun c25 => ?_) (fun c25 => ?_)
          · replace h := zi_t c25 h
            exact bX19_arrive_206 hst F hA E  x0 r3 hx0 hr (lv_sub hl [2, 1] rfl) h
          · replace h := zi_f c25 h
            refine lv_iload_n F.1 F.2.1 dX19_arrive_170 rfl (lv_at hl 5 rfl) ?_
            refine lv_iconst (v := (-1 : Int32)) F.1 F.2.1 dX19_arrive_171 (by decide) ?_
            refine lv_icmp_eq (tgt := 206) F.1 F.2.1 dX19_arrive_172 (by decide) (fun c26 => ?_) (fun c26 => ?_)
            · replace h := zi_t c26 h
              exact bX19_arrive_206 hst F hA E  x0 r3 hx0 hr (lv_sub hl [2, 1] rfl) h
            · replace h := zi_f c26 h
              refine lv_aload_n F.1 F.2.1 dX19_arrive_175 rfl (lv_at hl 2 rfl) ?_
              refine lv_iload F.1 F.2.1 dX19_arrive_176 (lv_at hl 1 rfl) ?_
              refine lv_iconst (v := (2 : Int32)) F.1 F.2.1 dX19_arrive_178 (by decide) ?_
              replace h := zc_some h
              obtain ⟨r27, z28, hc29, h⟩ := h
              refine zr_calli (zrun_V (As := [.int r3, .int (2 : Int32)]) (rest := []) zq_2549 zq_2551 zs_X19_of zq_2552 zq_4 hdX19_of (by decide) (T := TX19) (N := 32) rfl (okX19_of l D cy B ids hst N x0 hx0 r3  (2 : Int32)  hr.2.2 hc29) F hr hx0 hl.1 rfl (by decide) dX19_arrive_179 rfl rfl hroX19_arrive_X19_of ⟨Nat.zero_le _, Nat.zero_le _⟩) F hA hr (fun H locs hw30 hr => ?_)
              clear hc29
              refine lv_iconst (v := (1 : Int32)) F.1 F.2.1 dX19_arrive_182 (by decide) ?_
              refine lv_icmp_eq (tgt := 196) F.1 F.2.1 dX19_arrive_183 (by decide) (fun c31 => ?_) (fun c31 => ?_)
              · replace h := zi_t c31 h
                exact bX19_arrive_196 hst F hA E  x0 x1 r3 hx0 hx1 hr (lv_sub hl [2, 3, 1] rfl) h
              · replace h := zi_f c31 h
                refine lv_aload_n F.1 F.2.1 dX19_arrive_186 rfl (lv_at hl 2 rfl) ?_
                refine lv_iload F.1 F.2.1 dX19_arrive_187 (lv_at hl 1 rfl) ?_
                refine lv_iconst (v := (2 : Int32)) F.1 F.2.1 dX19_arrive_189 (by decide) ?_
                replace h := zc_some h
                obtain ⟨r32, z33, hc34, h⟩ := h
                refine zr_calli (zrun_V (As := [.int r3, .int (2 : Int32)]) (rest := []) zq_2549 zq_2551 zs_X19_of zq_2552 zq_4 hdX19_of (by decide) (T := TX19) (N := 32) rfl (okX19_of l D cy B ids hst N x0 hx0 r3  (2 : Int32)  hr.2.2 hc34) F hr hx0 hl.1 rfl (by decide) dX19_arrive_190 rfl rfl hroX19_arrive_X19_of ⟨Nat.zero_le _, Nat.zero_le _⟩) F hA hr (fun H locs hw35 hr => ?_)
                clear hc34
                refine lv_if_ne (tgt := 206) F.1 F.2.1 dX19_arrive_193 (by decide) (fun c36 => ?_) (fun c36 => ?_)
                · replace h := zi_t c36 h
                  exact bX19_arrive_206 hst F hA E  x0 r3 hx0 hr (lv_sub hl [2, 1] rfl) h
                · replace h := zi_f (fun q => q c36) h
                  exact bX19_arrive_196 hst F hA E  x0 x1 r3 hx0 hx1 hr (lv_sub hl [2, 3, 1] rfl) h
        · replace h := zi_f c22 h
          exact bX19_arrive_147 hst F hA E  x0 x1 r3 hx0 hx1 hr (lv_sub hl [2, 3, 1] rfl) h
  · replace h := zi_f (fun q => q c1) h
    refine lv_iload F.1 F.2.1 dX19_arrive_73 (lv_at hl 5 rfl) ?_
    refine lv_aload_n F.1 F.2.1 dX19_arrive_75 rfl (lv_at hl 1 rfl) ?_
    replace h := zc_some h
    obtain ⟨r37, z38, hc39, h⟩ := h
    refine zr_calli (zrun_VN (As := []) (rest := [.int x5]) zn_2520 zq_2522 zs_X18_address zq_2523 zq_25 hdX18_address (by decide) (T := TX18) (N := 13) rfl (okX18_address l D cy B ids hst N x1 hx1 hr.2.2 hc39) F hr hx1 hl.1 rfl (Nat.le_of_ble_eq_true rfl) dX19_arrive_76 rfl rfl hroX19_arrive_X18_address ⟨Nat.zero_le _, Nat.zero_le _⟩) F hA hr (fun H locs hw40 hr => ?_)
    clear hc39
    refine lv_icmp_ne (tgt := 212) F.1 F.2.1 dX19_arrive_79 (by decide) (fun c41 => ?_) (fun c41 => ?_)
    · replace h := zi_t c41 h
      obtain ⟨rfl, rfl⟩ := zret h
      exact E _ _ _ _ dX19_arrive_212 trivial hr
    · replace h := zi_f (fun q => q c41) h
      refine lv_aload_n F.1 F.2.1 dX19_arrive_82 rfl (lv_at hl 0 rfl) ?_
      refine lv_aload_n F.1 F.2.1 dX19_arrive_83 rfl (lv_at hl 1 rfl) ?_
      refine lv_iload_n F.1 F.2.1 dX19_arrive_84 rfl (lv_at hl 2 rfl) ?_
      refine lv_iconst (v := (1 : Int32)) F.1 F.2.1 dX19_arrive_85 (by decide) ?_
      refine lv_iconst (v := (0 : Int32)) F.1 F.2.1 dX19_arrive_86 (by decide) ?_
      refine lv_iconst (v := (-1 : Int32)) F.1 F.2.1 dX19_arrive_87 (by decide) ?_
      replace h := zc_some h
      obtain ⟨r42, z43, hc44, h⟩ := h
      refine zr_callv (zrun_V (As := [.ref (B 18 x1), .int x2, .int (1 : Int32), .int (0 : Int32), .int (-1 : Int32)]) (rest := []) zq_2611 zq_2613 zs_X19_put zq_2614 zq_4 hdX19_put (by decide) (T := TX19) (N := 32) rfl (okX19_put l D cy B ids hst N x0 hx0 x1 hx1 x2  (1 : Int32)  (0 : Int32)  (-1 : Int32)  hr.2.2 hc44) F hr hx0 hl.1 rfl (by decide) dX19_arrive_88 rfl rfl hroX19_arrive_X19_put ⟨Nat.zero_le _, Nat.zero_le _⟩) F hA hr (fun H locs hw45 hr => ?_)
      clear hc44
      refine lv_goto (tgt := 212) F.1 F.2.1 dX19_arrive_91 (by decide) ?_
      obtain ⟨rfl, rfl⟩ := zret h
      exact E _ _ _ _ dX19_arrive_212 trivial hr
def fX19_arrive_37b (N : Nat) (K37 : Nat → Nat → Int32 → Int32 → Int32 → Int32 → Int32 → Int32 → St → Option (Int32 × St)) (x0 : Nat) (x1 : Nat) (x2 : Int32) (x3 : Int32) (x4 : Int32) (x5 : Int32) (x6 : Int32) (x8 : Int32) (z : St) : Option (Int32 × St) := if x8 = (-1 : Int32) then (fX19_arrive_68 N x0 x1 x2 x3 x4 x5 x6 z) else (zc (fX19_carry N x0 x1 x2 x8 z) fun _ z3 => zc (fX19_drop N x0 x8 z3) fun _ z7 => zc (fX19_firstWaiting N x0 x1 x2 z7) fun r10 z11 => K37 x0 x1 x2 x3 x4 x5 x6 r10 z11)
def fX19_arrive_37 (N : Nat)  : Nat → Nat → Nat → Int32 → Int32 → Int32 → Int32 → Int32 → Int32 → St → Option (Int32 × St)
  | 0 => fun _ _ _ _ _ _ _ _ _ => none
  | n + 1 => fX19_arrive_37b N (fX19_arrive_37 N  n)
set_option maxHeartbeats 4000000 in
set_option maxRecDepth 100000 in
theorem bX19_arrive_37 (hst : zSt B ids) (F : zFx p m c cX19_arrive 10 s args RX19 D cy B ids A) (hA : ∀ q : Nat, s.heap.size ≤ q → A q) {r : Int32} {z' : St} (E : zEnd p l e rmX19_arrive s m args below meth c cX19_arrive D cy B ids A Q none z' .return_ True) {N : Nat} {K37 : Nat → Nat → Int32 → Int32 → Int32 → Int32 → Int32 → Int32 → St → Option (Int32 × St)} (hK37 : ∀ (x0 : Nat) (x1 : Nat) (x2 : Int32) (x3 : Int32) (x4 : Int32) (x5 : Int32) (x6 : Int32) (x8 : Int32) (hx0 : (19, x0) ∈ ids) (hx1 : (18, x1) ∈ ids) {z : St} {H : Heap} {locs : List Loc} {ls : Array Slot} (hr : zRep D cy B ids A s.heap z H locs) (hl : lv_has ls 10 [(0, .ref (B 19 x0)), (1, .ref (B 18 x1)), (2, .int x2), (3, .int x3), (4, .int x4), (5, .int x5), (6, .int x6), (8, .int x8)]), K37 x0 x1 x2 x3 x4 x5 x6 x8 z = some (r, z') → W p l e rmX19_arrive s m args below meth c H locs 0 0 Q (F0 m 37 ls [])) (x0 : Nat) (x1 : Nat) (x2 : Int32) (x3 : Int32) (x4 : Int32) (x5 : Int32) (x6 : Int32) (x8 : Int32) (hx0 : (19, x0) ∈ ids) (hx1 : (18, x1) ∈ ids) {z : St} {H : Heap} {locs : List Loc} {ls : Array Slot} (hr : zRep D cy B ids A s.heap z H locs) (hl : lv_has ls 10 [(0, .ref (B 19 x0)), (1, .ref (B 18 x1)), (2, .int x2), (3, .int x3), (4, .int x4), (5, .int x5), (6, .int x6), (8, .int x8)]) (h : fX19_arrive_37b N K37 x0 x1 x2 x3 x4 x5 x6 x8 z = some (r, z')) : W p l e rmX19_arrive s m args below meth c H locs 0 0 Q (F0 m 37 ls []) := by
  unfold fX19_arrive_37b at h
  refine lv_iload F.1 F.2.1 dX19_arrive_37 (lv_at hl 7 rfl) ?_
  refine lv_iconst (v := (-1 : Int32)) F.1 F.2.1 dX19_arrive_39 (by decide) ?_
  refine lv_icmp_eq (tgt := 68) F.1 F.2.1 dX19_arrive_40 (by decide) (fun c1 => ?_) (fun c1 => ?_)
  · replace h := zi_t c1 h
    exact bX19_arrive_68 hst F hA E  x0 x1 x2 x3 x4 x5 x6 hx0 hx1 hr (lv_sub hl [0, 1, 2, 3, 4, 5, 6] rfl) h
  · replace h := zi_f c1 h
    refine lv_aload_n F.1 F.2.1 dX19_arrive_43 rfl (lv_at hl 0 rfl) ?_
    refine lv_aload_n F.1 F.2.1 dX19_arrive_44 rfl (lv_at hl 1 rfl) ?_
    refine lv_iload_n F.1 F.2.1 dX19_arrive_45 rfl (lv_at hl 2 rfl) ?_
    refine lv_iload F.1 F.2.1 dX19_arrive_46 (lv_at hl 7 rfl) ?_
    replace h := zc_some h
    obtain ⟨r2, z3, hc4, h⟩ := h
    refine zr_callv (zrun_V (As := [.ref (B 18 x1), .int x2, .int x8]) (rest := []) zq_2607 zq_2609 zs_X19_carry zq_2610 zq_4 hdX19_carry (by decide) (T := TX19) (N := 32) rfl (okX19_carry l D cy B ids hst N x0 hx0 x1 hx1 x2  x8  hr.2.2 hc4) F hr hx0 hl.1 rfl (by decide) dX19_arrive_48 rfl rfl hroX19_arrive_X19_carry ⟨Nat.zero_le _, Nat.zero_le _⟩) F hA hr (fun H locs hw5 hr => ?_)
    clear hc4
    refine lv_aload_n F.1 F.2.1 dX19_arrive_51 rfl (lv_at hl 0 rfl) ?_
    refine lv_iload F.1 F.2.1 dX19_arrive_52 (lv_at hl 7 rfl) ?_
    replace h := zc_some h
    obtain ⟨r6, z7, hc8, h⟩ := h
    refine zr_callv (zrun_V (As := [.int x8]) (rest := []) zq_2545 zq_2547 zs_X19_drop zq_2548 zq_4 hdX19_drop (by decide) (T := TX19) (N := 32) rfl (okX19_drop l D cy B ids hst N x0 hx0 x8  hr.2.2 hc8) F hr hx0 hl.1 rfl (by decide) dX19_arrive_54 rfl rfl hroX19_arrive_X19_drop ⟨Nat.zero_le _, Nat.zero_le _⟩) F hA hr (fun H locs hw9 hr => ?_)
    clear hc8
    refine lv_aload_n F.1 F.2.1 dX19_arrive_57 rfl (lv_at hl 0 rfl) ?_
    refine lv_aload_n F.1 F.2.1 dX19_arrive_58 rfl (lv_at hl 1 rfl) ?_
    refine lv_iload_n F.1 F.2.1 dX19_arrive_59 rfl (lv_at hl 2 rfl) ?_
    replace h := zc_some h
    obtain ⟨r10, z11, hc12, h⟩ := h
    refine zr_calli (zrun_V (As := [.ref (B 18 x1), .int x2]) (rest := []) zq_2599 zq_2601 zs_X19_firstWaiting zq_2602 zq_4 hdX19_firstWaiting (by decide) (T := TX19) (N := 32) rfl (okX19_firstWaiting l D cy B ids hst N x0 hx0 x1 hx1 x2  hr.2.2 hc12) F hr hx0 hl.1 rfl (by decide) dX19_arrive_60 rfl rfl hroX19_arrive_X19_firstWaiting ⟨Nat.zero_le _, Nat.zero_le _⟩) F hA hr (fun H locs hw13 hr => ?_)
    clear hc12
    refine lv_istore (lv' := [(8, .int r10), (0, .ref (B 19 x0)), (1, .ref (B 18 x1)), (2, .int x2), (3, .int x3), (4, .int x4), (5, .int x5), (6, .int x6)]) F.1 F.2.1 dX19_arrive_63 hl (by decide) rfl (fun ls hl => ?_)
    refine lv_goto (tgt := 37) F.1 F.2.1 dX19_arrive_65 (by decide) ?_
    exact hK37 x0 x1 x2 x3 x4 x5 x6 r10 hx0 hx1 hr (lv_sub hl [1, 2, 3, 4, 5, 6, 7, 0] rfl) h
theorem lX19_arrive_37 (hst : zSt B ids) (F : zFx p m c cX19_arrive 10 s args RX19 D cy B ids A) (hA : ∀ q : Nat, s.heap.size ≤ q → A q) {r : Int32} {z' : St} (E : zEnd p l e rmX19_arrive s m args below meth c cX19_arrive D cy B ids A Q none z' .return_ True) {N : Nat}  : ∀ (n : Nat) (x0 : Nat) (x1 : Nat) (x2 : Int32) (x3 : Int32) (x4 : Int32) (x5 : Int32) (x6 : Int32) (x8 : Int32) (hx0 : (19, x0) ∈ ids) (hx1 : (18, x1) ∈ ids) {z : St} {H : Heap} {locs : List Loc} {ls : Array Slot} (hr : zRep D cy B ids A s.heap z H locs) (hl : lv_has ls 10 [(0, .ref (B 19 x0)), (1, .ref (B 18 x1)), (2, .int x2), (3, .int x3), (4, .int x4), (5, .int x5), (6, .int x6), (8, .int x8)]), fX19_arrive_37 N  n x0 x1 x2 x3 x4 x5 x6 x8 z = some (r, z') → W p l e rmX19_arrive s m args below meth c H locs 0 0 Q (F0 m 37 ls []) := by
  intro n
  induction n with
  | zero => intro x0 x1 x2 x3 x4 x5 x6 x8 hx0 hx1 z H locs ls hr hl h; cases h
  | succ n ih => intro x0 x1 x2 x3 x4 x5 x6 x8 hx0 hx1 z H locs ls hr hl h; exact bX19_arrive_37 hst F hA E ih x0 x1 x2 x3 x4 x5 x6 x8 hx0 hx1 hr hl h
def fX19_arrive (N : Nat)  (x0 : Nat) (x1 : Nat) (x2 : Int32) (x3 : Int32) (x4 : Int32) (x5 : Int32) (x6 : Int32) (z : St) : Option (Int32 × St) := zk x2 8 <| zl (zsA z 167 x1 (Int32.toNatClampNeg x2) (zgI z 19 24 x0)) fun z2 => zc (fX18_askingOf N x1 x2 z2) fun r3 z4 => if r3 = (-1 : Int32) then (fX19_arrive_68 N x0 x1 x2 x3 x4 x5 x6 z4) else (zc (fX18_endAsking N x1 r3 z4) fun _ z9 => zc (fX19_firstWaiting N x0 x1 x2 z9) fun r12 z13 => fX19_arrive_37 N N x0 x1 x2 x3 x4 x5 x6 r12 z13)
set_option maxHeartbeats 4000000 in
set_option maxRecDepth 100000 in
theorem bX19_arrive_0 (hst : zSt B ids) (F : zFx p m c cX19_arrive 10 s args RX19 D cy B ids A) (hA : ∀ q : Nat, s.heap.size ≤ q → A q) {r : Int32} {z' : St} (E : zEnd p l e rmX19_arrive s m args below meth c cX19_arrive D cy B ids A Q none z' .return_ True) {N : Nat}  (x0 : Nat) (x1 : Nat) (x2 : Int32) (x3 : Int32) (x4 : Int32) (x5 : Int32) (x6 : Int32) (hx0 : (19, x0) ∈ ids) (hx1 : (18, x1) ∈ ids) {z : St} {H : Heap} {locs : List Loc} {ls : Array Slot} (hr : zRep D cy B ids A s.heap z H locs) (hl : lv_has ls 10 [(0, .ref (B 19 x0)), (1, .ref (B 18 x1)), (2, .int x2), (3, .int x3), (4, .int x4), (5, .int x5), (6, .int x6)]) (h : fX19_arrive N x0 x1 x2 x3 x4 x5 x6 z = some (r, z')) : W p l e rmX19_arrive s m args below meth c H locs 0 0 Q (F0 m 0 ls []) := by
  unfold fX19_arrive at h
  refine lv_aload_n F.1 F.2.1 dX19_arrive_0 rfl (lv_at hl 1 rfl) ?_
  refine gf19_207 F hx1 hr dX19_arrive_1 ?_
  refine lv_iload_n F.1 F.2.1 dX19_arrive_4 rfl (lv_at hl 2 rfl) ?_
  refine lv_aload_n F.1 F.2.1 dX19_arrive_5 rfl (lv_at hl 0 rfl) ?_
  refine gf19_143 F hx0 hr dX19_arrive_6 ?_
  replace h := zk_some h
  obtain ⟨c1, h⟩ := h
  refine zr_iast (k := 167) (by decide) rfl (by decide) F (zal_a F hx1 (j := 6) rfl) hr dX19_arrive_9 c1 (fun H locs z2 ez2 hr => ?_)
  replace h := zl_sub ez2 h
  clear ez2
  refine lv_aload_n F.1 F.2.1 dX19_arrive_10 rfl (lv_at hl 1 rfl) ?_
  refine lv_iload_n F.1 F.2.1 dX19_arrive_11 rfl (lv_at hl 2 rfl) ?_
  replace h := zc_some h
  obtain ⟨r3, z4, hc5, h⟩ := h
  refine zr_calli (zrun_VN (As := [.int x2]) (rest := []) zn_2591 zq_2593 zs_X18_askingOf zq_2594 zq_25 hdX18_askingOf (by decide) (T := TX18) (N := 13) rfl (okX18_askingOf l D cy B ids hst N x1 hx1 x2  hr.2.2 hc5) F hr hx1 hl.1 rfl (by decide) dX19_arrive_12 rfl rfl hroX19_arrive_X18_askingOf ⟨Nat.zero_le _, Nat.zero_le _⟩) F hA hr (fun H locs hw6 hr => ?_)
  clear hc5
  refine lv_istore (lv' := [(7, .int r3), (0, .ref (B 19 x0)), (1, .ref (B 18 x1)), (2, .int x2), (3, .int x3), (4, .int x4), (5, .int x5), (6, .int x6)]) F.1 F.2.1 dX19_arrive_15 hl (by decide) rfl (fun ls hl => ?_)
  refine lv_iload F.1 F.2.1 dX19_arrive_17 (lv_at hl 0 rfl) ?_
  refine lv_iconst (v := (-1 : Int32)) F.1 F.2.1 dX19_arrive_19 (by decide) ?_
  refine lv_icmp_eq (tgt := 68) F.1 F.2.1 dX19_arrive_20 (by decide) (fun c7 => ?_) (fun c7 => ?_)
  · replace h := zi_t c7 h
    exact bX19_arrive_68 hst F hA E  x0 x1 x2 x3 x4 x5 x6 hx0 hx1 hr (lv_sub hl [1, 2, 3, 4, 5, 6, 7] rfl) h
  · replace h := zi_f c7 h
    refine lv_aload_n F.1 F.2.1 dX19_arrive_23 rfl (lv_at hl 2 rfl) ?_
    refine lv_iload F.1 F.2.1 dX19_arrive_24 (lv_at hl 0 rfl) ?_
    replace h := zc_some h
    obtain ⟨r8, z9, hc10, h⟩ := h
    refine zr_callv (zrun_VN (As := [.int r3]) (rest := []) zn_2595 zq_2597 zs_X18_endAsking zq_2598 zq_25 hdX18_endAsking (by decide) (T := TX18) (N := 13) rfl (okX18_endAsking l D cy B ids hst N x1 hx1 r3  hr.2.2 hc10) F hr hx1 hl.1 rfl (by decide) dX19_arrive_26 rfl rfl hroX19_arrive_X18_endAsking ⟨Nat.zero_le _, Nat.zero_le _⟩) F hA hr (fun H locs hw11 hr => ?_)
    clear hc10
    refine lv_aload_n F.1 F.2.1 dX19_arrive_29 rfl (lv_at hl 1 rfl) ?_
    refine lv_aload_n F.1 F.2.1 dX19_arrive_30 rfl (lv_at hl 2 rfl) ?_
    refine lv_iload_n F.1 F.2.1 dX19_arrive_31 rfl (lv_at hl 3 rfl) ?_
    replace h := zc_some h
    obtain ⟨r12, z13, hc14, h⟩ := h
    refine zr_calli (zrun_V (As := [.ref (B 18 x1), .int x2]) (rest := []) zq_2599 zq_2601 zs_X19_firstWaiting zq_2602 zq_4 hdX19_firstWaiting (by decide) (T := TX19) (N := 32) rfl (okX19_firstWaiting l D cy B ids hst N x0 hx0 x1 hx1 x2  hr.2.2 hc14) F hr hx0 hl.1 rfl (by decide) dX19_arrive_32 rfl rfl hroX19_arrive_X19_firstWaiting ⟨Nat.zero_le _, Nat.zero_le _⟩) F hA hr (fun H locs hw15 hr => ?_)
    clear hc14
    refine lv_istore (lv' := [(8, .int r12), (7, .int r3), (0, .ref (B 19 x0)), (1, .ref (B 18 x1)), (2, .int x2), (3, .int x3), (4, .int x4), (5, .int x5), (6, .int x6)]) F.1 F.2.1 dX19_arrive_35 hl (by decide) rfl (fun ls hl => ?_)
    exact lX19_arrive_37 hst F hA E  _ x0 x1 x2 x3 x4 x5 x6 r12 hx0 hx1 hr (lv_sub hl [2, 3, 4, 5, 6, 7, 8, 0] rfl) h
end SX19_arrive
set_option maxRecDepth 100000 in
theorem okX19_arrive (l : Launch) (D : va_G) (cy : Nat → ClassId) (B : Nat → Nat → Nat) (ids : List (Nat × Nat)) (hst : zSt B ids) (N : Nat) (x0 : Nat) (hx0 : (19, x0) ∈ ids) (x1 : Nat) (hx1 : (18, x1) ∈ ids) (x2 : Int32) (x3 : Int32) (x4 : Int32) (x5 : Int32) (x6 : Int32) {z : St} {r : Int32} {z' : St} (hW : zWf ids z) (h : fX19_arrive N x0 x1 x2 x3 x4 x5 x6 z = some (r, z')) : zM l yX19_arrive (zws yX19_arrive cX19_arrive 10 none) rmX19_arrive D cy B ids [.ref (B 19 x0), .ref (B 18 x1), .int x2, .int x3, .int x4, .int x5, .int x6] none True z z' :=
  zM_of hst hW (by decide +kernel) (Nat.le_of_ble_eq_true rfl) (fun p e s m args below meth c A ls F hA hret hlocks hr hl => bX19_arrive_0 hst F hA (zEnd_v F hret hlocks) x0 x1 x2 x3 x4 x5 x6 hx0 hx1 hr hl h)
abbrev rmX19_arriveAll : Room := { frames := 14, cells := 0, slots := 0, locals := 366 }
theorem hdX19_arriveAll : yX19_arriveAll.cls ≠ "java/lang/invoke/MethodHandle" ∧ yX19_arriveAll.cls ≠ "java/lang/invoke/VarHandle" ∧ (parseMethodDescriptor yX19_arriveAll.desc).map (fun d => d.parameters.length) = some 0 := by decide +kernel
theorem hroX19_arriveAll_X19_arrive : rmX19_arrive.frames + 1 ≤ rmX19_arriveAll.frames ∧ 8 + (10 + 11) + rmX19_arrive.locals ≤ rmX19_arriveAll.locals := by decide
theorem hroX19_arriveAll_X19_drop : rmX19_drop.frames + 1 ≤ rmX19_arriveAll.frames ∧ 8 + (2 + 11) + rmX19_drop.locals ≤ rmX19_arriveAll.locals := by decide
theorem hroX19_arriveAll_X19_takeFrame : rmX19_takeFrame.frames + 1 ≤ rmX19_arriveAll.frames ∧ 8 + (3 + 11) + rmX19_takeFrame.locals ≤ rmX19_arriveAll.locals := by decide
section SX19_arriveAll
variable {p : Program} {l : Launch} {e : Env} {s : State} {m : MethodId} {args : Array Value} {below : List Frame} {meth : Method} {c : Code} {Q : State → Prop} {D : va_G} {cy : Nat → ClassId} {B : Nat → Nat → Nat} {ids : List (Nat × Nat)} {A : Nat → Prop}
def fX19_arriveAll_186 (N : Nat) (K2 : Nat → Int32 → St → Option (Int32 × St)) (K125 : Nat → Int32 → Int32 → Int32 → Int32 → Int32 → Int32 → Option Nat → Int32 → St → Option (Int32 × St)) (x0 : Nat) (x1 : Int32) (x3 : Int32) (x4 : Int32) (x5 : Int32) (x6 : Int32) (x7 : Int32) (x8 : Nat) (x9 : Int32) (z : St) : Option (Int32 × St) := zl (x9 + 1) fun v1 => K125 x0 x1 x3 x4 x5 x6 x7 (some x8) v1 z
set_option maxHeartbeats 4000000 in
set_option maxRecDepth 100000 in
theorem bX19_arriveAll_186 (hst : zSt B ids) (F : zFx p m c cX19_arriveAll 10 s args RX19 D cy B ids A) (hA : ∀ q : Nat, s.heap.size ≤ q → A q) {r : Int32} {z' : St} (E : zEnd p l e rmX19_arriveAll s m args below meth c cX19_arriveAll D cy B ids A Q none z' .return_ True) {N : Nat} {K2 : Nat → Int32 → St → Option (Int32 × St)} {K125 : Nat → Int32 → Int32 → Int32 → Int32 → Int32 → Int32 → Option Nat → Int32 → St → Option (Int32 × St)} (hK2 : ∀ (x0 : Nat) (x1 : Int32) (hx0 : (19, x0) ∈ ids) {z : St} {H : Heap} {locs : List Loc} {ls : Array Slot} (hr : zRep D cy B ids A s.heap z H locs) (hl : lv_has ls 10 [(0, .ref (B 19 x0)), (1, .int x1)]), K2 x0 x1 z = some (r, z') → W p l e rmX19_arriveAll s m args below meth c H locs 0 0 Q (F0 m 2 ls [])) (hK125 : ∀ (x0 : Nat) (x1 : Int32) (x3 : Int32) (x4 : Int32) (x5 : Int32) (x6 : Int32) (x7 : Int32) (x8 : Option Nat) (x9 : Int32) (hx0 : (19, x0) ∈ ids) (hx8 : ∀ t, x8 = some t → (16, t) ∈ ids) {z : St} {H : Heap} {locs : List Loc} {ls : Array Slot} (hr : zRep D cy B ids A s.heap z H locs) (hl : lv_has ls 10 [(0, .ref (B 19 x0)), (1, .int x1), (3, .int x3), (4, .int x4), (5, .int x5), (6, .int x6), (7, .int x7), (8, va_rf (Option.map (B 16) x8)), (9, .int x9)]), K125 x0 x1 x3 x4 x5 x6 x7 x8 x9 z = some (r, z') → W p l e rmX19_arriveAll s m args below meth c H locs 0 0 Q (F0 m 125 ls [])) (x0 : Nat) (x1 : Int32) (x3 : Int32) (x4 : Int32) (x5 : Int32) (x6 : Int32) (x7 : Int32) (x8 : Nat) (x9 : Int32) (hx0 : (19, x0) ∈ ids) (hx8 : (16, x8) ∈ ids) {z : St} {H : Heap} {locs : List Loc} {ls : Array Slot} (hr : zRep D cy B ids A s.heap z H locs) (hl : lv_has ls 10 [(0, .ref (B 19 x0)), (1, .int x1), (3, .int x3), (4, .int x4), (5, .int x5), (6, .int x6), (7, .int x7), (8, .ref (B 16 x8)), (9, .int x9)]) (h : fX19_arriveAll_186 N K2 K125 x0 x1 x3 x4 x5 x6 x7 x8 x9 z = some (r, z')) : W p l e rmX19_arriveAll s m args below meth c H locs 0 0 Q (F0 m 186 ls []) := by
  unfold fX19_arriveAll_186 at h
  obtain ⟨v1, ev1⟩ : ∃ y : Int32, y = (x9 + 1) := ⟨_, rfl⟩
  replace h := zl_sub ev1 h
  refine lv_iinc (v := v1) (lv' := [(9, .int v1), (0, .ref (B 19 x0)), (1, .int x1), (3, .int x3), (4, .int x4), (5, .int x5), (6, .int x6), (7, .int x7), (8, .ref (B 16 x8))]) F.1 F.2.1 dX19_arriveAll_186 hl (k := 8) rfl (by rw [ev1]; rfl) (by decide) rfl (fun ls hl => ?_)
  refine lv_goto (tgt := 125) F.1 F.2.1 dX19_arriveAll_189 (by decide) ?_
  exact hK125 x0 x1 x3 x4 x5 x6 x7 (some x8) v1 hx0 (zal_s hx8) hr (lv_sub hl [1, 2, 3, 4, 5, 6, 7, 8, 0] rfl) h
def fX19_arriveAll_154 (N : Nat) (K2 : Nat → Int32 → St → Option (Int32 × St)) (K125 : Nat → Int32 → Int32 → Int32 → Int32 → Int32 → Int32 → Option Nat → Int32 → St → Option (Int32 × St)) (x0 : Nat) (x1 : Int32) (x3 : Int32) (x4 : Int32) (x5 : Int32) (x6 : Int32) (x7 : Int32) (x8 : Nat) (x9 : Int32) (z : St) : Option (Int32 × St) := zl (zsI z 16 9 x8 ((zgI z 16 9 x8) + (1 : Int32))) fun z1 => zk x9 8 <| zl (zgQ z1 164 x8 (Int32.toNatClampNeg x9)) fun y3 => zd y3 fun a4 => zc (fX19_arrive N x0 a4 x3 x4 x5 x6 x7 z1) fun _ z6 => fX19_arriveAll_186 N K2 K125 x0 x1 x3 x4 x5 x6 x7 x8 x9 z6
set_option maxHeartbeats 4000000 in
set_option maxRecDepth 100000 in
theorem bX19_arriveAll_154 (hst : zSt B ids) (F : zFx p m c cX19_arriveAll 10 s args RX19 D cy B ids A) (hA : ∀ q : Nat, s.heap.size ≤ q → A q) {r : Int32} {z' : St} (E : zEnd p l e rmX19_arriveAll s m args below meth c cX19_arriveAll D cy B ids A Q none z' .return_ True) {N : Nat} {K2 : Nat → Int32 → St → Option (Int32 × St)} {K125 : Nat → Int32 → Int32 → Int32 → Int32 → Int32 → Int32 → Option Nat → Int32 → St → Option (Int32 × St)} (hK2 : ∀ (x0 : Nat) (x1 : Int32) (hx0 : (19, x0) ∈ ids) {z : St} {H : Heap} {locs : List Loc} {ls : Array Slot} (hr : zRep D cy B ids A s.heap z H locs) (hl : lv_has ls 10 [(0, .ref (B 19 x0)), (1, .int x1)]), K2 x0 x1 z = some (r, z') → W p l e rmX19_arriveAll s m args below meth c H locs 0 0 Q (F0 m 2 ls [])) (hK125 : ∀ (x0 : Nat) (x1 : Int32) (x3 : Int32) (x4 : Int32) (x5 : Int32) (x6 : Int32) (x7 : Int32) (x8 : Option Nat) (x9 : Int32) (hx0 : (19, x0) ∈ ids) (hx8 : ∀ t, x8 = some t → (16, t) ∈ ids) {z : St} {H : Heap} {locs : List Loc} {ls : Array Slot} (hr : zRep D cy B ids A s.heap z H locs) (hl : lv_has ls 10 [(0, .ref (B 19 x0)), (1, .int x1), (3, .int x3), (4, .int x4), (5, .int x5), (6, .int x6), (7, .int x7), (8, va_rf (Option.map (B 16) x8)), (9, .int x9)]), K125 x0 x1 x3 x4 x5 x6 x7 x8 x9 z = some (r, z') → W p l e rmX19_arriveAll s m args below meth c H locs 0 0 Q (F0 m 125 ls [])) (x0 : Nat) (x1 : Int32) (x3 : Int32) (x4 : Int32) (x5 : Int32) (x6 : Int32) (x7 : Int32) (x8 : Nat) (x9 : Int32) (hx0 : (19, x0) ∈ ids) (hx8 : (16, x8) ∈ ids) {z : St} {H : Heap} {locs : List Loc} {ls : Array Slot} (hr : zRep D cy B ids A s.heap z H locs) (hl : lv_has ls 10 [(0, .ref (B 19 x0)), (1, .int x1), (3, .int x3), (4, .int x4), (5, .int x5), (6, .int x6), (7, .int x7), (8, .ref (B 16 x8)), (9, .int x9)]) (h : fX19_arriveAll_154 N K2 K125 x0 x1 x3 x4 x5 x6 x7 x8 x9 z = some (r, z')) : W p l e rmX19_arriveAll s m args below meth c H locs 0 0 Q (F0 m 154 ls []) := by
  unfold fX19_arriveAll_154 at h
  refine lv_aload F.1 F.2.1 dX19_arriveAll_154 (lv_at hl 7 rfl) ?_
  refine lv_dup F.1 F.2.1 dX19_arriveAll_156 rfl ?_
  refine gf19_374 F hx8 hr dX19_arriveAll_157 ?_
  refine lv_iconst (v := (1 : Int32)) F.1 F.2.1 dX19_arriveAll_160 (by decide) ?_
  refine lv_iadd F.1 F.2.1 dX19_arriveAll_161 ?_
  refine pf19_374 F hx8 hr dX19_arriveAll_162 ((zgI z 16 9 x8) + (1 : Int32)) (fun H locs z1 ez1 hr => ?_)
  replace h := zl_sub ez1 h
  clear ez1
  refine lv_aload_n F.1 F.2.1 dX19_arriveAll_165 rfl (lv_at hl 0 rfl) ?_
  refine lv_aload F.1 F.2.1 dX19_arriveAll_166 (lv_at hl 7 rfl) ?_
  refine gf19_295 F hx8 hr dX19_arriveAll_168 ?_
  refine lv_iload F.1 F.2.1 dX19_arriveAll_171 (lv_at hl 8 rfl) ?_
  replace h := zk_some h
  obtain ⟨c2, h⟩ := h
  refine zr_aaldv (k := 164) (by decide) rfl rfl (zlen_d (by decide)) F (zal_a F hx8 (j := 4) rfl) hr dX19_arriveAll_173 c2 (fun y3 ey3 => ?_)
  replace h := zl_sub ey3 h
  have hy3 := zal_q hr (zal_a F hx8 (j := 4) rfl) rfl ey3
  clear ey3
  refine lv_iload_n F.1 F.2.1 dX19_arriveAll_174 rfl (lv_at hl 2 rfl) ?_
  refine lv_iload F.1 F.2.1 dX19_arriveAll_175 (lv_at hl 3 rfl) ?_
  refine lv_iload F.1 F.2.1 dX19_arriveAll_177 (lv_at hl 4 rfl) ?_
  refine lv_iload F.1 F.2.1 dX19_arriveAll_179 (lv_at hl 5 rfl) ?_
  refine lv_iload F.1 F.2.1 dX19_arriveAll_181 (lv_at hl 6 rfl) ?_
  replace h := zd_some h
  obtain ⟨a4, rfl, h⟩ := h
  replace h := zc_some h
  obtain ⟨r5, z6, hc7, h⟩ := h
  refine zr_callv (zrun_V (As := [.ref (B 18 a4), .int x3, .int x4, .int x5, .int x6, .int x7]) (rest := []) zq_2587 zq_2589 zs_X19_arrive zq_2590 zq_4 hdX19_arrive (by decide) (T := TX19) (N := 32) rfl (okX19_arrive l D cy B ids hst N x0 hx0 a4 (hy3 _ rfl) x3  x4  x5  x6  x7  hr.2.2 hc7) F hr hx0 hl.1 rfl (by decide) dX19_arriveAll_183 rfl rfl hroX19_arriveAll_X19_arrive ⟨Nat.zero_le _, Nat.zero_le _⟩) F hA hr (fun H locs hw8 hr => ?_)
  clear hc7
  exact bX19_arriveAll_186 hst F hA E hK2 hK125 x0 x1 x3 x4 x5 x6 x7 x8 x9 hx0 hx8 hr (lv_sub hl [0, 1, 2, 3, 4, 5, 6, 7, 8] rfl) h
def fX19_arriveAll_204 (N : Nat) (K2 : Nat → Int32 → St → Option (Int32 × St)) (x0 : Nat) (x1 : Int32) (z : St) : Option (Int32 × St) := K2 x0 x1 z
set_option maxHeartbeats 4000000 in
set_option maxRecDepth 100000 in
theorem bX19_arriveAll_204 (hst : zSt B ids) (F : zFx p m c cX19_arriveAll 10 s args RX19 D cy B ids A) (hA : ∀ q : Nat, s.heap.size ≤ q → A q) {r : Int32} {z' : St} (E : zEnd p l e rmX19_arriveAll s m args below meth c cX19_arriveAll D cy B ids A Q none z' .return_ True) {N : Nat} {K2 : Nat → Int32 → St → Option (Int32 × St)} (hK2 : ∀ (x0 : Nat) (x1 : Int32) (hx0 : (19, x0) ∈ ids) {z : St} {H : Heap} {locs : List Loc} {ls : Array Slot} (hr : zRep D cy B ids A s.heap z H locs) (hl : lv_has ls 10 [(0, .ref (B 19 x0)), (1, .int x1)]), K2 x0 x1 z = some (r, z') → W p l e rmX19_arriveAll s m args below meth c H locs 0 0 Q (F0 m 2 ls [])) (x0 : Nat) (x1 : Int32) (hx0 : (19, x0) ∈ ids) {z : St} {H : Heap} {locs : List Loc} {ls : Array Slot} (hr : zRep D cy B ids A s.heap z H locs) (hl : lv_has ls 10 [(0, .ref (B 19 x0)), (1, .int x1)]) (h : fX19_arriveAll_204 N K2 x0 x1 z = some (r, z')) : W p l e rmX19_arriveAll s m args below meth c H locs 0 0 Q (F0 m 204 ls []) := by
  unfold fX19_arriveAll_204 at h
  refine lv_goto (tgt := 2) F.1 F.2.1 dX19_arriveAll_204 (by decide) ?_
  exact hK2 x0 x1 hx0 hr (lv_sub hl [0, 1] rfl) h
def fX19_arriveAll_125b (N : Nat) (K2 : Nat → Int32 → St → Option (Int32 × St)) (K125 : Nat → Int32 → Int32 → Int32 → Int32 → Int32 → Int32 → Option Nat → Int32 → St → Option (Int32 × St)) (x0 : Nat) (x1 : Int32) (x3 : Int32) (x4 : Int32) (x5 : Int32) (x6 : Int32) (x7 : Int32) (x8 : Option Nat) (x9 : Int32) (z : St) : Option (Int32 × St) := zd x8 fun a1 => if (zgI z 16 5 a1) ≤ x9 then (if x7 = (-1 : Int32) then (fX19_arriveAll_204 N K2 x0 x1 z) else (zc (fX19_drop N x0 x7 z) fun _ z5 => fX19_arriveAll_204 N K2 x0 x1 z5)) else (if x4 = x9 then (fX19_arriveAll_154 N K2 K125 x0 x1 x3 x4 x5 x6 x7 a1 x9 z) else (if ¬ x4 = (-1 : Int32) then (fX19_arriveAll_186 N K2 K125 x0 x1 x3 x4 x5 x6 x7 a1 x9 z) else (if x9 = x3 then (fX19_arriveAll_186 N K2 K125 x0 x1 x3 x4 x5 x6 x7 a1 x9 z) else (fX19_arriveAll_154 N K2 K125 x0 x1 x3 x4 x5 x6 x7 a1 x9 z))))
def fX19_arriveAll_125 (N : Nat) (K2 : Nat → Int32 → St → Option (Int32 × St)) : Nat → Nat → Int32 → Int32 → Int32 → Int32 → Int32 → Int32 → Option Nat → Int32 → St → Option (Int32 × St)
  | 0 => fun _ _ _ _ _ _ _ _ _ _ => none
  | n + 1 => fX19_arriveAll_125b N K2 (fX19_arriveAll_125 N K2 n)
set_option maxHeartbeats 4000000 in
set_option maxRecDepth 100000 in
theorem bX19_arriveAll_125 (hst : zSt B ids) (F : zFx p m c cX19_arriveAll 10 s args RX19 D cy B ids A) (hA : ∀ q : Nat, s.heap.size ≤ q → A q) {r : Int32} {z' : St} (E : zEnd p l e rmX19_arriveAll s m args below meth c cX19_arriveAll D cy B ids A Q none z' .return_ True) {N : Nat} {K2 : Nat → Int32 → St → Option (Int32 × St)} {K125 : Nat → Int32 → Int32 → Int32 → Int32 → Int32 → Int32 → Option Nat → Int32 → St → Option (Int32 × St)} (hK2 : ∀ (x0 : Nat) (x1 : Int32) (hx0 : (19, x0) ∈ ids) {z : St} {H : Heap} {locs : List Loc} {ls : Array Slot} (hr : zRep D cy B ids A s.heap z H locs) (hl : lv_has ls 10 [(0, .ref (B 19 x0)), (1, .int x1)]), K2 x0 x1 z = some (r, z') → W p l e rmX19_arriveAll s m args below meth c H locs 0 0 Q (F0 m 2 ls [])) (hK125 : ∀ (x0 : Nat) (x1 : Int32) (x3 : Int32) (x4 : Int32) (x5 : Int32) (x6 : Int32) (x7 : Int32) (x8 : Option Nat) (x9 : Int32) (hx0 : (19, x0) ∈ ids) (hx8 : ∀ t, x8 = some t → (16, t) ∈ ids) {z : St} {H : Heap} {locs : List Loc} {ls : Array Slot} (hr : zRep D cy B ids A s.heap z H locs) (hl : lv_has ls 10 [(0, .ref (B 19 x0)), (1, .int x1), (3, .int x3), (4, .int x4), (5, .int x5), (6, .int x6), (7, .int x7), (8, va_rf (Option.map (B 16) x8)), (9, .int x9)]), K125 x0 x1 x3 x4 x5 x6 x7 x8 x9 z = some (r, z') → W p l e rmX19_arriveAll s m args below meth c H locs 0 0 Q (F0 m 125 ls [])) (x0 : Nat) (x1 : Int32) (x3 : Int32) (x4 : Int32) (x5 : Int32) (x6 : Int32) (x7 : Int32) (x8 : Option Nat) (x9 : Int32) (hx0 : (19, x0) ∈ ids) (hx8 : ∀ t, x8 = some t → (16, t) ∈ ids) {z : St} {H : Heap} {locs : List Loc} {ls : Array Slot} (hr : zRep D cy B ids A s.heap z H locs) (hl : lv_has ls 10 [(0, .ref (B 19 x0)), (1, .int x1), (3, .int x3), (4, .int x4), (5, .int x5), (6, .int x6), (7, .int x7), (8, va_rf (Option.map (B 16) x8)), (9, .int x9)]) (h : fX19_arriveAll_125b N K2 K125 x0 x1 x3 x4 x5 x6 x7 x8 x9 z = some (r, z')) : W p l e rmX19_arriveAll s m args below meth c H locs 0 0 Q (F0 m 125 ls []) := by
  unfold fX19_arriveAll_125b at h
  refine lv_iload F.1 F.2.1 dX19_arriveAll_125 (lv_at hl 8 rfl) ?_
  refine zr_aload F.1 F.2.1 dX19_arriveAll_127 (lv_at hl 7 rfl) ?_
  replace h := zd_some h
  obtain ⟨a1, rfl, h⟩ := h
  refine gf19_292 F (hx8 _ rfl) hr dX19_arriveAll_129 ?_
  refine lv_icmp_ge (tgt := 192) F.1 F.2.1 dX19_arriveAll_132 (by decide) (fun c2 => ?_) (fun c2 => ?_)
  · replace h := zi_t c2 h
    refine lv_iload F.1 F.2.1 dX19_arriveAll_192 (lv_at hl 6 rfl) ?_
    refine lv_iconst (v := (-1 : Int32)) F.1 F.2.1 dX19_arriveAll_194 (by decide) ?_
    refine lv_icmp_eq (tgt := 204) F.1 F.2.1 dX19_arriveAll_195 (by decide) (fun c3 => ?_) (fun c3 => ?_)
    · replace h := zi_t c3 h
      exact bX19_arriveAll_204 hst F hA E hK2 x0 x1 hx0 hr (lv_sub hl [0, 1] rfl) h
    · replace h := zi_f c3 h
      refine lv_aload_n F.1 F.2.1 dX19_arriveAll_198 rfl (lv_at hl 0 rfl) ?_
      refine lv_iload F.1 F.2.1 dX19_arriveAll_199 (lv_at hl 6 rfl) ?_
      replace h := zc_some h
      obtain ⟨r4, z5, hc6, h⟩ := h
      refine zr_callv (zrun_V (As := [.int x7]) (rest := []) zq_2545 zq_2547 zs_X19_drop zq_2548 zq_4 hdX19_drop (by decide) (T := TX19) (N := 32) rfl (okX19_drop l D cy B ids hst N x0 hx0 x7  hr.2.2 hc6) F hr hx0 hl.1 rfl (by decide) dX19_arriveAll_201 rfl rfl hroX19_arriveAll_X19_drop ⟨Nat.zero_le _, Nat.zero_le _⟩) F hA hr (fun H locs hw7 hr => ?_)
      clear hc6
      exact bX19_arriveAll_204 hst F hA E hK2 x0 x1 hx0 hr (lv_sub hl [0, 1] rfl) h
  · replace h := zi_f c2 h
    refine lv_iload F.1 F.2.1 dX19_arriveAll_135 (lv_at hl 3 rfl) ?_
    refine lv_iload F.1 F.2.1 dX19_arriveAll_137 (lv_at hl 8 rfl) ?_
    refine lv_icmp_eq (tgt := 154) F.1 F.2.1 dX19_arriveAll_139 (by decide) (fun c8 => ?_) (fun c8 => ?_)
    · replace h := zi_t c8 h
      exact bX19_arriveAll_154 hst F hA E hK2 hK125 x0 x1 x3 x4 x5 x6 x7 a1 x9 hx0 (hx8 _ rfl) hr (lv_sub hl [0, 1, 2, 3, 4, 5, 6, 7, 8] rfl) h
    · replace h := zi_f c8 h
      refine lv_iload F.1 F.2.1 dX19_arriveAll_142 (lv_at hl 3 rfl) ?_
      refine lv_iconst (v := (-1 : Int32)) F.1 F.2.1 dX19_arriveAll_144 (by decide) ?_
      refine lv_icmp_ne (tgt := 186) F.1 F.2.1 dX19_arriveAll_145 (by decide) (fun c9 => ?_) (fun c9 => ?_)
      · replace h := zi_t c9 h
        exact bX19_arriveAll_186 hst F hA E hK2 hK125 x0 x1 x3 x4 x5 x6 x7 a1 x9 hx0 (hx8 _ rfl) hr (lv_sub hl [0, 1, 2, 3, 4, 5, 6, 7, 8] rfl) h
      · replace h := zi_f (fun q => q c9) h
        refine lv_iload F.1 F.2.1 dX19_arriveAll_148 (lv_at hl 8 rfl) ?_
        refine lv_iload_n F.1 F.2.1 dX19_arriveAll_150 rfl (lv_at hl 2 rfl) ?_
        refine lv_icmp_eq (tgt := 186) F.1 F.2.1 dX19_arriveAll_151 (by decide) (fun c10 => ?_) (fun c10 => ?_)
        · replace h := zi_t c10 h
          exact bX19_arriveAll_186 hst F hA E hK2 hK125 x0 x1 x3 x4 x5 x6 x7 a1 x9 hx0 (hx8 _ rfl) hr (lv_sub hl [0, 1, 2, 3, 4, 5, 6, 7, 8] rfl) h
        · replace h := zi_f c10 h
          exact bX19_arriveAll_154 hst F hA E hK2 hK125 x0 x1 x3 x4 x5 x6 x7 a1 x9 hx0 (hx8 _ rfl) hr (lv_sub hl [0, 1, 2, 3, 4, 5, 6, 7, 8] rfl) h
theorem lX19_arriveAll_125 (hst : zSt B ids) (F : zFx p m c cX19_arriveAll 10 s args RX19 D cy B ids A) (hA : ∀ q : Nat, s.heap.size ≤ q → A q) {r : Int32} {z' : St} (E : zEnd p l e rmX19_arriveAll s m args below meth c cX19_arriveAll D cy B ids A Q none z' .return_ True) {N : Nat} {K2 : Nat → Int32 → St → Option (Int32 × St)} (hK2 : ∀ (x0 : Nat) (x1 : Int32) (hx0 : (19, x0) ∈ ids) {z : St} {H : Heap} {locs : List Loc} {ls : Array Slot} (hr : zRep D cy B ids A s.heap z H locs) (hl : lv_has ls 10 [(0, .ref (B 19 x0)), (1, .int x1)]), K2 x0 x1 z = some (r, z') → W p l e rmX19_arriveAll s m args below meth c H locs 0 0 Q (F0 m 2 ls [])) : ∀ (n : Nat) (x0 : Nat) (x1 : Int32) (x3 : Int32) (x4 : Int32) (x5 : Int32) (x6 : Int32) (x7 : Int32) (x8 : Option Nat) (x9 : Int32) (hx0 : (19, x0) ∈ ids) (hx8 : ∀ t, x8 = some t → (16, t) ∈ ids) {z : St} {H : Heap} {locs : List Loc} {ls : Array Slot} (hr : zRep D cy B ids A s.heap z H locs) (hl : lv_has ls 10 [(0, .ref (B 19 x0)), (1, .int x1), (3, .int x3), (4, .int x4), (5, .int x5), (6, .int x6), (7, .int x7), (8, va_rf (Option.map (B 16) x8)), (9, .int x9)]), fX19_arriveAll_125 N K2 n x0 x1 x3 x4 x5 x6 x7 x8 x9 z = some (r, z') → W p l e rmX19_arriveAll s m args below meth c H locs 0 0 Q (F0 m 125 ls []) := by
  intro n
  induction n with
  | zero => intro x0 x1 x3 x4 x5 x6 x7 x8 x9 hx0 hx8 z H locs ls hr hl h; cases h
  | succ n ih => intro x0 x1 x3 x4 x5 x6 x7 x8 x9 hx0 hx8 z H locs ls hr hl h; exact bX19_arriveAll_125 hst F hA E hK2 ih x0 x1 x3 x4 x5 x6 x7 x8 x9 hx0 hx8 hr hl h
def fX19_arriveAll_2b (N : Nat) (K2 : Nat → Int32 → St → Option (Int32 × St)) (x0 : Nat) (x1 : Int32) (z : St) : Option (Int32 × St) := if (zgI z 19 23 x0) ≤ x1 then (some (0, z)) else (zk (((7 : Int32) * x1) + (6 : Int32)) 3584 <| if (zgA z 188 x0 (Int32.toNatClampNeg (((7 : Int32) * x1) + (6 : Int32)))) = (zgI z 19 24 x0) then (zk ((7 : Int32) * x1) 3584 <| zl (zgA z 188 x0 (Int32.toNatClampNeg ((7 : Int32) * x1))) fun v5 => zk (((7 : Int32) * x1) + (1 : Int32)) 3584 <| zl (zgA z 188 x0 (Int32.toNatClampNeg (((7 : Int32) * x1) + (1 : Int32)))) fun v7 => zk (((7 : Int32) * x1) + (2 : Int32)) 3584 <| zl (zgA z 188 x0 (Int32.toNatClampNeg (((7 : Int32) * x1) + (2 : Int32)))) fun v9 => zk (((7 : Int32) * x1) + (3 : Int32)) 3584 <| zl (zgA z 188 x0 (Int32.toNatClampNeg (((7 : Int32) * x1) + (3 : Int32)))) fun v11 => zk (((7 : Int32) * x1) + (4 : Int32)) 3584 <| zl (zgA z 188 x0 (Int32.toNatClampNeg (((7 : Int32) * x1) + (4 : Int32)))) fun v13 => zk (((7 : Int32) * x1) + (5 : Int32)) 3584 <| zl (zgA z 188 x0 (Int32.toNatClampNeg (((7 : Int32) * x1) + (5 : Int32)))) fun v15 => zc (fX19_takeFrame N x0 x1 z) fun _ z17 => zk v5 24 <| zl (zgQ z17 187 x0 (Int32.toNatClampNeg v5)) fun y21 => fX19_arriveAll_125 N K2 N x0 x1 v7 v9 v11 v13 v15 y21 (0 : Int32) z17) else (zl (x1 + 1) fun v22 => K2 x0 v22 z))
def fX19_arriveAll_2 (N : Nat)  : Nat → Nat → Int32 → St → Option (Int32 × St)
  | 0 => fun _ _ _ => none
  | n + 1 => fX19_arriveAll_2b N (fX19_arriveAll_2 N  n)
set_option maxHeartbeats 4000000 in
set_option maxRecDepth 100000 in
theorem bX19_arriveAll_2 (hst : zSt B ids) (F : zFx p m c cX19_arriveAll 10 s args RX19 D cy B ids A) (hA : ∀ q : Nat, s.heap.size ≤ q → A q) {r : Int32} {z' : St} (E : zEnd p l e rmX19_arriveAll s m args below meth c cX19_arriveAll D cy B ids A Q none z' .return_ True) {N : Nat} {K2 : Nat → Int32 → St → Option (Int32 × St)} (hK2 : ∀ (x0 : Nat) (x1 : Int32) (hx0 : (19, x0) ∈ ids) {z : St} {H : Heap} {locs : List Loc} {ls : Array Slot} (hr : zRep D cy B ids A s.heap z H locs) (hl : lv_has ls 10 [(0, .ref (B 19 x0)), (1, .int x1)]), K2 x0 x1 z = some (r, z') → W p l e rmX19_arriveAll s m args below meth c H locs 0 0 Q (F0 m 2 ls [])) (x0 : Nat) (x1 : Int32) (hx0 : (19, x0) ∈ ids) {z : St} {H : Heap} {locs : List Loc} {ls : Array Slot} (hr : zRep D cy B ids A s.heap z H locs) (hl : lv_has ls 10 [(0, .ref (B 19 x0)), (1, .int x1)]) (h : fX19_arriveAll_2b N K2 x0 x1 z = some (r, z')) : W p l e rmX19_arriveAll s m args below meth c H locs 0 0 Q (F0 m 2 ls []) := by
  unfold fX19_arriveAll_2b at h
  refine lv_iload_n F.1 F.2.1 dX19_arriveAll_2 rfl (lv_at hl 1 rfl) ?_
  refine lv_aload_n F.1 F.2.1 dX19_arriveAll_3 rfl (lv_at hl 0 rfl) ?_
  refine gf19_171 F hx0 hr dX19_arriveAll_4 ?_
  refine lv_icmp_ge (tgt := 207) F.1 F.2.1 dX19_arriveAll_7 (by decide) (fun c1 => ?_) (fun c1 => ?_)
  · replace h := zi_t c1 h
    obtain ⟨rfl, rfl⟩ := zret h
    exact E _ _ _ _ dX19_arriveAll_207 trivial hr
  · replace h := zi_f c1 h
    refine lv_aload_n F.1 F.2.1 dX19_arriveAll_10 rfl (lv_at hl 0 rfl) ?_
    refine gf19_124 F hx0 hr dX19_arriveAll_11 ?_
    refine lv_bipush (v := (7 : Int32)) F.1 F.2.1 dX19_arriveAll_14 (by decide) ?_
    refine lv_iload_n F.1 F.2.1 dX19_arriveAll_16 rfl (lv_at hl 1 rfl) ?_
    refine lv_imul F.1 F.2.1 dX19_arriveAll_17 ?_
    refine lv_bipush (v := (6 : Int32)) F.1 F.2.1 dX19_arriveAll_18 (by decide) ?_
    refine lv_iadd F.1 F.2.1 dX19_arriveAll_20 ?_
    replace h := zk_some h
    obtain ⟨c2, h⟩ := h
    refine zr_iald (k := 188) (by decide) rfl (by decide) F (zal_a F hx0 (j := 22) rfl) hr dX19_arriveAll_21 c2 ?_
    refine lv_aload_n F.1 F.2.1 dX19_arriveAll_22 rfl (lv_at hl 0 rfl) ?_
    refine gf19_143 F hx0 hr dX19_arriveAll_23 ?_
    refine lv_icmp_eq (tgt := 35) F.1 F.2.1 dX19_arriveAll_26 (by decide) (fun c3 => ?_) (fun c3 => ?_)
    · replace h := zi_t c3 h
      refine lv_aload_n F.1 F.2.1 dX19_arriveAll_35 rfl (lv_at hl 0 rfl) ?_
      refine gf19_124 F hx0 hr dX19_arriveAll_36 ?_
      refine lv_bipush (v := (7 : Int32)) F.1 F.2.1 dX19_arriveAll_39 (by decide) ?_
      refine lv_iload_n F.1 F.2.1 dX19_arriveAll_41 rfl (lv_at hl 1 rfl) ?_
      refine lv_imul F.1 F.2.1 dX19_arriveAll_42 ?_
      replace h := zk_some h
      obtain ⟨c4, h⟩ := h
      refine zr_iald (k := 188) (by decide) rfl (by decide) F (zal_a F hx0 (j := 22) rfl) hr dX19_arriveAll_43 c4 ?_
      refine lv_topi (fun v5 ev5 => ?_)
      replace h := zl_sub ev5 h
      refine lv_istore_n (lv' := [(2, .int v5), (0, .ref (B 19 x0)), (1, .int x1)]) F.1 F.2.1 dX19_arriveAll_44 rfl hl (by decide) rfl (fun ls hl => ?_)
      refine lv_aload_n F.1 F.2.1 dX19_arriveAll_45 rfl (lv_at hl 1 rfl) ?_
      refine gf19_124 F hx0 hr dX19_arriveAll_46 ?_
      refine lv_bipush (v := (7 : Int32)) F.1 F.2.1 dX19_arriveAll_49 (by decide) ?_
      refine lv_iload_n F.1 F.2.1 dX19_arriveAll_51 rfl (lv_at hl 2 rfl) ?_
      refine lv_imul F.1 F.2.1 dX19_arriveAll_52 ?_
      refine lv_iconst (v := (1 : Int32)) F.1 F.2.1 dX19_arriveAll_53 (by decide) ?_
      refine lv_iadd F.1 F.2.1 dX19_arriveAll_54 ?_
      replace h := zk_some h
      obtain ⟨c6, h⟩ := h
      refine zr_iald (k := 188) (by decide) rfl (by decide) F (zal_a F hx0 (j := 22) rfl) hr dX19_arriveAll_55 c6 ?_
      refine lv_topi (fun v7 ev7 => ?_)
      replace h := zl_sub ev7 h
      refine lv_istore_n (lv' := [(3, .int v7), (2, .int v5), (0, .ref (B 19 x0)), (1, .int x1)]) F.1 F.2.1 dX19_arriveAll_56 rfl hl (by decide) rfl (fun ls hl => ?_)
      refine lv_aload_n F.1 F.2.1 dX19_arriveAll_57 rfl (lv_at hl 2 rfl) ?_
      refine gf19_124 F hx0 hr dX19_arriveAll_58 ?_
      refine lv_bipush (v := (7 : Int32)) F.1 F.2.1 dX19_arriveAll_61 (by decide) ?_
      refine lv_iload_n F.1 F.2.1 dX19_arriveAll_63 rfl (lv_at hl 3 rfl) ?_
      refine lv_imul F.1 F.2.1 dX19_arriveAll_64 ?_
      refine lv_iconst (v := (2 : Int32)) F.1 F.2.1 dX19_arriveAll_65 (by decide) ?_
      refine lv_iadd F.1 F.2.1 dX19_arriveAll_66 ?_
      replace h := zk_some h
      obtain ⟨c8, h⟩ := h
      refine zr_iald (k := 188) (by decide) rfl (by decide) F (zal_a F hx0 (j := 22) rfl) hr dX19_arriveAll_67 c8 ?_
      refine lv_topi (fun v9 ev9 => ?_)
      replace h := zl_sub ev9 h
      refine lv_istore (lv' := [(4, .int v9), (3, .int v7), (2, .int v5), (0, .ref (B 19 x0)), (1, .int x1)]) F.1 F.2.1 dX19_arriveAll_68 hl (by decide) rfl (fun ls hl => ?_)
      refine lv_aload_n F.1 F.2.1 dX19_arriveAll_70 rfl (lv_at hl 3 rfl) ?_
      refine gf19_124 F hx0 hr dX19_arriveAll_71 ?_
      refine lv_bipush (v := (7 : Int32)) F.1 F.2.1 dX19_arriveAll_74 (by decide) ?_
      refine lv_iload_n F.1 F.2.1 dX19_arriveAll_76 rfl (lv_at hl 4 rfl) ?_
      refine lv_imul F.1 F.2.1 dX19_arriveAll_77 ?_
      refine lv_iconst (v := (3 : Int32)) F.1 F.2.1 dX19_arriveAll_78 (by decide) ?_
      refine lv_iadd F.1 F.2.1 dX19_arriveAll_79 ?_
      replace h := zk_some h
      obtain ⟨c10, h⟩ := h
      refine zr_iald (k := 188) (by decide) rfl (by decide) F (zal_a F hx0 (j := 22) rfl) hr dX19_arriveAll_80 c10 ?_
      refine lv_topi (fun v11 ev11 => ?_)
      replace h := zl_sub ev11 h
      refine lv_istore (lv' := [(5, .int v11), (4, .int v9), (3, .int v7), (2, .int v5), (0, .ref (B 19 x0)), (1, .int x1)]) F.1 F.2.1 dX19_arriveAll_81 hl (by decide) rfl (fun ls hl => ?_)
      refine lv_aload_n F.1 F.2.1 dX19_arriveAll_83 rfl (lv_at hl 4 rfl) ?_
      refine gf19_124 F hx0 hr dX19_arriveAll_84 ?_
      refine lv_bipush (v := (7 : Int32)) F.1 F.2.1 dX19_arriveAll_87 (by decide) ?_
      refine lv_iload_n F.1 F.2.1 dX19_arriveAll_89 rfl (lv_at hl 5 rfl) ?_
      refine lv_imul F.1 F.2.1 dX19_arriveAll_90 ?_
      refine lv_iconst (v := (4 : Int32)) F.1 F.2.1 dX19_arriveAll_91 (by decide) ?_
      refine lv_iadd F.1 F.2.1 dX19_arriveAll_92 ?_
      replace h := zk_some h
      obtain ⟨c12, h⟩ := h
      refine zr_iald (k := 188) (by decide) rfl (by decide) F (zal_a F hx0 (j := 22) rfl) hr dX19_arriveAll_93 c12 ?_
      refine lv_topi (fun v13 ev13 => ?_)
      replace h := zl_sub ev13 h
      refine lv_istore (lv' := [(6, .int v13), (5, .int v11), (4, .int v9), (3, .int v7), (2, .int v5), (0, .ref (B 19 x0)), (1, .int x1)]) F.1 F.2.1 dX19_arriveAll_94 hl (by decide) rfl (fun ls hl => ?_)
      refine lv_aload_n F.1 F.2.1 dX19_arriveAll_96 rfl (lv_at hl 5 rfl) ?_
      refine gf19_124 F hx0 hr dX19_arriveAll_97 ?_
      refine lv_bipush (v := (7 : Int32)) F.1 F.2.1 dX19_arriveAll_100 (by decide) ?_
      refine lv_iload_n F.1 F.2.1 dX19_arriveAll_102 rfl (lv_at hl 6 rfl) ?_
      refine lv_imul F.1 F.2.1 dX19_arriveAll_103 ?_
      refine lv_iconst (v := (5 : Int32)) F.1 F.2.1 dX19_arriveAll_104 (by decide) ?_
      refine lv_iadd F.1 F.2.1 dX19_arriveAll_105 ?_
      replace h := zk_some h
      obtain ⟨c14, h⟩ := h
      refine zr_iald (k := 188) (by decide) rfl (by decide) F (zal_a F hx0 (j := 22) rfl) hr dX19_arriveAll_106 c14 ?_
      refine lv_topi (fun v15 ev15 => ?_)
      replace h := zl_sub ev15 h
      refine lv_istore (lv' := [(7, .int v15), (6, .int v13), (5, .int v11), (4, .int v9), (3, .int v7), (2, .int v5), (0, .ref (B 19 x0)), (1, .int x1)]) F.1 F.2.1 dX19_arriveAll_107 hl (by decide) rfl (fun ls hl => ?_)
      refine lv_aload_n F.1 F.2.1 dX19_arriveAll_109 rfl (lv_at hl 6 rfl) ?_
      refine lv_iload_n F.1 F.2.1 dX19_arriveAll_110 rfl (lv_at hl 7 rfl) ?_
      replace h := zc_some h
      obtain ⟨r16, z17, hc18, h⟩ := h
      refine zr_callv (zrun_V (As := [.int x1]) (rest := []) zq_2541 zq_2543 zs_X19_takeFrame zq_2544 zq_4 hdX19_takeFrame (by decide) (T := TX19) (N := 32) rfl (okX19_takeFrame l D cy B ids hst N x0 hx0 x1  hr.2.2 hc18) F hr hx0 hl.1 rfl (by decide) dX19_arriveAll_111 rfl rfl hroX19_arriveAll_X19_takeFrame ⟨Nat.zero_le _, Nat.zero_le _⟩) F hA hr (fun H locs hw19 hr => ?_)
      clear hc18
      refine lv_aload_n F.1 F.2.1 dX19_arriveAll_114 rfl (lv_at hl 6 rfl) ?_
      refine gf19_120 F hx0 hr dX19_arriveAll_115 ?_
      refine lv_iload_n F.1 F.2.1 dX19_arriveAll_118 rfl (lv_at hl 5 rfl) ?_
      replace h := zk_some h
      obtain ⟨c20, h⟩ := h
      refine zr_aaldv (k := 187) (by decide) rfl rfl (zlen_d (by decide)) F (zal_a F hx0 (j := 20) rfl) hr dX19_arriveAll_119 c20 (fun y21 ey21 => ?_)
      replace h := zl_sub ey21 h
      have hy21 := zal_q hr (zal_a F hx0 (j := 20) rfl) rfl ey21
      clear ey21
      refine zr_astore (lv' := [(8, va_rf (Option.map (B 16) y21)), (7, .int v15), (6, .int v13), (5, .int v11), (4, .int v9), (3, .int v7), (2, .int v5), (0, .ref (B 19 x0)), (1, .int x1)]) F.1 F.2.1 dX19_arriveAll_120 hl (by decide) rfl (fun ls hl => ?_)
      refine lv_iconst (v := (0 : Int32)) F.1 F.2.1 dX19_arriveAll_122 (by decide) ?_
      refine lv_istore (lv' := [(9, .int (0 : Int32)), (8, va_rf (Option.map (B 16) y21)), (7, .int v15), (6, .int v13), (5, .int v11), (4, .int v9), (3, .int v7), (2, .int v5), (0, .ref (B 19 x0)), (1, .int x1)]) F.1 F.2.1 dX19_arriveAll_123 hl (by decide) (by simp only [List.filter, zrf_cat]; rfl) (fun ls hl => ?_)
      exact lX19_arriveAll_125 hst F hA E hK2 _ x0 x1 v7 v9 v11 v13 v15 y21 (0 : Int32) hx0 hy21 hr (lv_sub hl [8, 9, 6, 5, 4, 3, 2, 1, 0] rfl) h
    · replace h := zi_f c3 h
      obtain ⟨v22, ev22⟩ : ∃ y : Int32, y = (x1 + 1) := ⟨_, rfl⟩
      replace h := zl_sub ev22 h
      refine lv_iinc (v := v22) (lv' := [(1, .int v22), (0, .ref (B 19 x0))]) F.1 F.2.1 dX19_arriveAll_29 hl (k := 1) rfl (by rw [ev22]; rfl) (by decide) rfl (fun ls hl => ?_)
      refine lv_goto (tgt := 2) F.1 F.2.1 dX19_arriveAll_32 (by decide) ?_
      exact hK2 x0 v22 hx0 hr (lv_sub hl [1, 0] rfl) h
theorem lX19_arriveAll_2 (hst : zSt B ids) (F : zFx p m c cX19_arriveAll 10 s args RX19 D cy B ids A) (hA : ∀ q : Nat, s.heap.size ≤ q → A q) {r : Int32} {z' : St} (E : zEnd p l e rmX19_arriveAll s m args below meth c cX19_arriveAll D cy B ids A Q none z' .return_ True) {N : Nat}  : ∀ (n : Nat) (x0 : Nat) (x1 : Int32) (hx0 : (19, x0) ∈ ids) {z : St} {H : Heap} {locs : List Loc} {ls : Array Slot} (hr : zRep D cy B ids A s.heap z H locs) (hl : lv_has ls 10 [(0, .ref (B 19 x0)), (1, .int x1)]), fX19_arriveAll_2 N  n x0 x1 z = some (r, z') → W p l e rmX19_arriveAll s m args below meth c H locs 0 0 Q (F0 m 2 ls []) := by
  intro n
  induction n with
  | zero => intro x0 x1 hx0 z H locs ls hr hl h; cases h
  | succ n ih => intro x0 x1 hx0 z H locs ls hr hl h; exact bX19_arriveAll_2 hst F hA E ih x0 x1 hx0 hr hl h
def fX19_arriveAll (N : Nat)  (x0 : Nat) (z : St) : Option (Int32 × St) := fX19_arriveAll_2 N N x0 (0 : Int32) z
set_option maxHeartbeats 4000000 in
set_option maxRecDepth 100000 in
theorem bX19_arriveAll_0 (hst : zSt B ids) (F : zFx p m c cX19_arriveAll 10 s args RX19 D cy B ids A) (hA : ∀ q : Nat, s.heap.size ≤ q → A q) {r : Int32} {z' : St} (E : zEnd p l e rmX19_arriveAll s m args below meth c cX19_arriveAll D cy B ids A Q none z' .return_ True) {N : Nat}  (x0 : Nat) (hx0 : (19, x0) ∈ ids) {z : St} {H : Heap} {locs : List Loc} {ls : Array Slot} (hr : zRep D cy B ids A s.heap z H locs) (hl : lv_has ls 10 [(0, .ref (B 19 x0))]) (h : fX19_arriveAll N x0 z = some (r, z')) : W p l e rmX19_arriveAll s m args below meth c H locs 0 0 Q (F0 m 0 ls []) := by
  unfold fX19_arriveAll at h
  refine lv_iconst (v := (0 : Int32)) F.1 F.2.1 dX19_arriveAll_0 (by decide) ?_
  refine lv_istore_n (lv' := [(1, .int (0 : Int32)), (0, .ref (B 19 x0))]) F.1 F.2.1 dX19_arriveAll_1 rfl hl (by decide) rfl (fun ls hl => ?_)
  exact lX19_arriveAll_2 hst F hA E  _ x0 (0 : Int32) hx0 hr (lv_sub hl [1, 0] rfl) h
end SX19_arriveAll
set_option maxRecDepth 100000 in
theorem okX19_arriveAll (l : Launch) (D : va_G) (cy : Nat → ClassId) (B : Nat → Nat → Nat) (ids : List (Nat × Nat)) (hst : zSt B ids) (N : Nat) (x0 : Nat) (hx0 : (19, x0) ∈ ids) {z : St} {r : Int32} {z' : St} (hW : zWf ids z) (h : fX19_arriveAll N x0 z = some (r, z')) : zM l yX19_arriveAll (zws yX19_arriveAll cX19_arriveAll 10 none) rmX19_arriveAll D cy B ids [.ref (B 19 x0)] none True z z' :=
  zM_of hst hW (by decide +kernel) (Nat.le_of_ble_eq_true rfl) (fun p e s m args below meth c A ls F hA hret hlocks hr hl => bX19_arriveAll_0 hst F hA (zEnd_v F hret hlocks) x0 hx0 hr hl h)
abbrev rmX19_neighbours : Room := { frames := 0, cells := 0, slots := 0, locals := 0 }
theorem hdX19_neighbours : yX19_neighbours.cls ≠ "java/lang/invoke/MethodHandle" ∧ yX19_neighbours.cls ≠ "java/lang/invoke/VarHandle" ∧ (parseMethodDescriptor yX19_neighbours.desc).map (fun d => d.parameters.length) = some 2 := by decide +kernel
section SX19_neighbours
variable {p : Program} {l : Launch} {e : Env} {s : State} {m : MethodId} {args : Array Value} {below : List Frame} {meth : Method} {c : Code} {Q : State → Prop} {D : va_G} {cy : Nat → ClassId} {B : Nat → Nat → Nat} {ids : List (Nat × Nat)} {A : Nat → Prop}
def fX19_neighbours_74 (N : Nat) (K2 : Nat → Int32 → Int32 → St → Option (Int32 × St)) (x0 : Nat) (x1 : Int32) (x2 : Int32) (x3 : Option Nat) (s0 : Nat) (s1 : Int32) (z : St) : Option (Int32 × St) := zq (s1 = 0 ∨ s1 = 1) <| zl (zsI z 12 23 s0 s1) fun z1 => zd x3 fun a3 => zl (zgR z1 18 2 a3) fun y4 => zd y4 fun a5 => zq ((zgI z1 16 3 a5) = 0 ∨ (zgI z1 16 3 a5) = 1) <| zl (zsI z1 18 5 a3 (zgI z1 16 3 a5)) fun z6 => zl (x2 + 1) fun v8 => K2 x0 x1 v8 z6
set_option maxHeartbeats 4000000 in
set_option maxRecDepth 100000 in
theorem bX19_neighbours_74 (hst : zSt B ids) (F : zFx p m c cX19_neighbours 5 s args RX19 D cy B ids A) (hA : ∀ q : Nat, s.heap.size ≤ q → A q) {r : Int32} {z' : St} (E : zEnd p l e rmX19_neighbours s m args below meth c cX19_neighbours D cy B ids A Q none z' .return_ True) {N : Nat} {K2 : Nat → Int32 → Int32 → St → Option (Int32 × St)} (hK2 : ∀ (x0 : Nat) (x1 : Int32) (x2 : Int32) (hx0 : (12, x0) ∈ ids) {z : St} {H : Heap} {locs : List Loc} {ls : Array Slot} (hr : zRep D cy B ids A s.heap z H locs) (hl : lv_has ls 5 [(0, .ref (B 12 x0)), (1, .int x1), (2, .int x2)]), K2 x0 x1 x2 z = some (r, z') → W p l e rmX19_neighbours s m args below meth c H locs 0 0 Q (F0 m 2 ls [])) (x0 : Nat) (x1 : Int32) (x2 : Int32) (x3 : Option Nat) (s0 : Nat) (s1 : Int32) (hx0 : (12, x0) ∈ ids) (hx3 : ∀ t, x3 = some t → (18, t) ∈ ids) (hs0 : (12, s0) ∈ ids) {z : St} {H : Heap} {locs : List Loc} {ls : Array Slot} (hr : zRep D cy B ids A s.heap z H locs) (hl : lv_has ls 5 [(0, .ref (B 12 x0)), (1, .int x1), (2, .int x2), (3, va_rf (Option.map (B 18) x3))]) (h : fX19_neighbours_74 N K2 x0 x1 x2 x3 s0 s1 z = some (r, z')) : W p l e rmX19_neighbours s m args below meth c H locs 0 0 Q (F0 m 74 ls [.int s1, .ref (B 12 s0)]) := by
  unfold fX19_neighbours_74 at h
  replace h := zq_some h
  obtain ⟨c2, h⟩ := h
  refine pf19_489 F hs0 hr dX19_neighbours_74 s1 c2 (fun H locs z1 ez1 hr => ?_)
  replace h := zl_sub ez1 h
  clear ez1
  refine zr_aload_n F.1 F.2.1 dX19_neighbours_77 rfl (lv_at hl 3 rfl) ?_
  refine zr_aload_n F.1 F.2.1 dX19_neighbours_78 rfl (lv_at hl 3 rfl) ?_
  replace h := zd_some h
  obtain ⟨a3, rfl, h⟩ := h
  refine gf19_149 F (hx3 _ rfl) hr dX19_neighbours_79 (fun y4 ey4 => ?_)
  replace h := zl_sub ey4 h
  have hy4 := zal_g hr (hx3 _ rfl) (j := 2) rfl ey4
  clear ey4
  replace h := zd_some h
  obtain ⟨a5, rfl, h⟩ := h
  refine gf19_158 F (hy4 _ rfl) hr dX19_neighbours_82 ?_
  replace h := zq_some h
  obtain ⟨c7, h⟩ := h
  refine pf19_479 F (hx3 _ rfl) hr dX19_neighbours_85 (zgI z1 16 3 a5) c7 (fun H locs z6 ez6 hr => ?_)
  replace h := zl_sub ez6 h
  clear ez6
  obtain ⟨v8, ev8⟩ : ∃ y : Int32, y = (x2 + 1) := ⟨_, rfl⟩
  replace h := zl_sub ev8 h
  refine lv_iinc (v := v8) (lv' := [(2, .int v8), (0, .ref (B 12 x0)), (1, .int x1), (3, .ref (B 18 a3))]) F.1 F.2.1 dX19_neighbours_88 hl (k := 2) rfl (by rw [ev8]; rfl) (by decide) rfl (fun ls hl => ?_)
  refine lv_goto (tgt := 2) F.1 F.2.1 dX19_neighbours_91 (by decide) ?_
  exact hK2 x0 x1 v8 hx0 hr (lv_sub hl [1, 2, 0] rfl) h
def fX19_neighbours_69 (N : Nat) (K2 : Nat → Int32 → Int32 → St → Option (Int32 × St)) (x0 : Nat) (x1 : Int32) (x2 : Int32) (x3 : Option Nat) (s0 : Nat) (z : St) : Option (Int32 × St) := fX19_neighbours_74 N K2 x0 x1 x2 x3 s0 (1 : Int32) z
set_option maxHeartbeats 4000000 in
set_option maxRecDepth 100000 in
theorem bX19_neighbours_69 (hst : zSt B ids) (F : zFx p m c cX19_neighbours 5 s args RX19 D cy B ids A) (hA : ∀ q : Nat, s.heap.size ≤ q → A q) {r : Int32} {z' : St} (E : zEnd p l e rmX19_neighbours s m args below meth c cX19_neighbours D cy B ids A Q none z' .return_ True) {N : Nat} {K2 : Nat → Int32 → Int32 → St → Option (Int32 × St)} (hK2 : ∀ (x0 : Nat) (x1 : Int32) (x2 : Int32) (hx0 : (12, x0) ∈ ids) {z : St} {H : Heap} {locs : List Loc} {ls : Array Slot} (hr : zRep D cy B ids A s.heap z H locs) (hl : lv_has ls 5 [(0, .ref (B 12 x0)), (1, .int x1), (2, .int x2)]), K2 x0 x1 x2 z = some (r, z') → W p l e rmX19_neighbours s m args below meth c H locs 0 0 Q (F0 m 2 ls [])) (x0 : Nat) (x1 : Int32) (x2 : Int32) (x3 : Option Nat) (s0 : Nat) (hx0 : (12, x0) ∈ ids) (hx3 : ∀ t, x3 = some t → (18, t) ∈ ids) (hs0 : (12, s0) ∈ ids) {z : St} {H : Heap} {locs : List Loc} {ls : Array Slot} (hr : zRep D cy B ids A s.heap z H locs) (hl : lv_has ls 5 [(0, .ref (B 12 x0)), (1, .int x1), (2, .int x2), (3, va_rf (Option.map (B 18) x3))]) (h : fX19_neighbours_69 N K2 x0 x1 x2 x3 s0 z = some (r, z')) : W p l e rmX19_neighbours s m args below meth c H locs 0 0 Q (F0 m 69 ls [.ref (B 12 s0)]) := by
  unfold fX19_neighbours_69 at h
  refine lv_iconst (v := (1 : Int32)) F.1 F.2.1 dX19_neighbours_69 (by decide) ?_
  refine lv_goto (tgt := 74) F.1 F.2.1 dX19_neighbours_70 (by decide) ?_
  exact bX19_neighbours_74 hst F hA E hK2 x0 x1 x2 x3 s0 (1 : Int32) hx0 hx3 hs0 hr (lv_sub hl [0, 1, 2, 3] rfl) h
def fX19_neighbours_44 (N : Nat) (K2 : Nat → Int32 → Int32 → St → Option (Int32 × St)) (x0 : Nat) (x1 : Int32) (x2 : Int32) (x3 : Option Nat) (s0 : Nat) (s1 : Int32) (z : St) : Option (Int32 × St) := zq (s1 = 0 ∨ s1 = 1) <| zl (zsI z 12 24 s0 s1) fun z1 => if ¬ (zgI z1 12 23 x0) = 0 then (fX19_neighbours_69 N K2 x0 x1 x2 x3 x0 z1) else (zd x3 fun a4 => zl (zgR z1 18 2 a4) fun y5 => zd y5 fun a6 => if (zgI z1 18 5 a4) = (zgI z1 16 3 a6) then (fX19_neighbours_74 N K2 x0 x1 x2 (some a4) x0 (0 : Int32) z1) else (fX19_neighbours_69 N K2 x0 x1 x2 (some a4) x0 z1))
set_option maxHeartbeats 4000000 in
set_option maxRecDepth 100000 in
theorem bX19_neighbours_44 (hst : zSt B ids) (F : zFx p m c cX19_neighbours 5 s args RX19 D cy B ids A) (hA : ∀ q : Nat, s.heap.size ≤ q → A q) {r : Int32} {z' : St} (E : zEnd p l e rmX19_neighbours s m args below meth c cX19_neighbours D cy B ids A Q none z' .return_ True) {N : Nat} {K2 : Nat → Int32 → Int32 → St → Option (Int32 × St)} (hK2 : ∀ (x0 : Nat) (x1 : Int32) (x2 : Int32) (hx0 : (12, x0) ∈ ids) {z : St} {H : Heap} {locs : List Loc} {ls : Array Slot} (hr : zRep D cy B ids A s.heap z H locs) (hl : lv_has ls 5 [(0, .ref (B 12 x0)), (1, .int x1), (2, .int x2)]), K2 x0 x1 x2 z = some (r, z') → W p l e rmX19_neighbours s m args below meth c H locs 0 0 Q (F0 m 2 ls [])) (x0 : Nat) (x1 : Int32) (x2 : Int32) (x3 : Option Nat) (s0 : Nat) (s1 : Int32) (hx0 : (12, x0) ∈ ids) (hx3 : ∀ t, x3 = some t → (18, t) ∈ ids) (hs0 : (12, s0) ∈ ids) {z : St} {H : Heap} {locs : List Loc} {ls : Array Slot} (hr : zRep D cy B ids A s.heap z H locs) (hl : lv_has ls 5 [(0, .ref (B 12 x0)), (1, .int x1), (2, .int x2), (3, va_rf (Option.map (B 18) x3))]) (h : fX19_neighbours_44 N K2 x0 x1 x2 x3 s0 s1 z = some (r, z')) : W p l e rmX19_neighbours s m args below meth c H locs 0 0 Q (F0 m 44 ls [.int s1, .ref (B 12 s0)]) := by
  unfold fX19_neighbours_44 at h
  replace h := zq_some h
  obtain ⟨c2, h⟩ := h
  refine pf19_486 F hs0 hr dX19_neighbours_44 s1 c2 (fun H locs z1 ez1 hr => ?_)
  replace h := zl_sub ez1 h
  clear ez1
  refine lv_aload_n F.1 F.2.1 dX19_neighbours_47 rfl (lv_at hl 0 rfl) ?_
  refine lv_aload_n F.1 F.2.1 dX19_neighbours_48 rfl (lv_at hl 0 rfl) ?_
  refine gf19_489 F hx0 hr dX19_neighbours_49 ?_
  refine lv_if_ne (tgt := 69) F.1 F.2.1 dX19_neighbours_52 (by decide) (fun c3 => ?_) (fun c3 => ?_)
  · replace h := zi_t c3 h
    exact bX19_neighbours_69 hst F hA E hK2 x0 x1 x2 x3 x0 hx0 hx3 hx0 hr (lv_sub hl [0, 1, 2, 3] rfl) h
  · replace h := zi_f (fun q => q c3) h
    refine zr_aload_n F.1 F.2.1 dX19_neighbours_55 rfl (lv_at hl 3 rfl) ?_
    replace h := zd_some h
    obtain ⟨a4, rfl, h⟩ := h
    refine gf19_479 F (hx3 _ rfl) hr dX19_neighbours_56 ?_
    refine lv_aload_n F.1 F.2.1 dX19_neighbours_59 rfl (lv_at hl 3 rfl) ?_
    refine gf19_149 F (hx3 _ rfl) hr dX19_neighbours_60 (fun y5 ey5 => ?_)
    replace h := zl_sub ey5 h
    have hy5 := zal_g hr (hx3 _ rfl) (j := 2) rfl ey5
    clear ey5
    replace h := zd_some h
    obtain ⟨a6, rfl, h⟩ := h
    refine gf19_158 F (hy5 _ rfl) hr dX19_neighbours_63 ?_
    refine lv_icmp_eq (tgt := 73) F.1 F.2.1 dX19_neighbours_66 (by decide) (fun c7 => ?_) (fun c7 => ?_)
    · replace h := zi_t c7 h
      refine lv_iconst (v := (0 : Int32)) F.1 F.2.1 dX19_neighbours_73 (by decide) ?_
      exact bX19_neighbours_74 hst F hA E hK2 x0 x1 x2 (some a4) x0 (0 : Int32) hx0 (zal_s (hx3 _ rfl)) hx0 hr (lv_sub hl [0, 1, 2, 3] rfl) h
    · replace h := zi_f c7 h
      exact bX19_neighbours_69 hst F hA E hK2 x0 x1 x2 (some a4) x0 hx0 (zal_s (hx3 _ rfl)) hx0 hr (lv_sub hl [0, 1, 2, 3] rfl) h
def fX19_neighbours_39 (N : Nat) (K2 : Nat → Int32 → Int32 → St → Option (Int32 × St)) (x0 : Nat) (x1 : Int32) (x2 : Int32) (x3 : Option Nat) (s0 : Nat) (z : St) : Option (Int32 × St) := fX19_neighbours_44 N K2 x0 x1 x2 x3 s0 (1 : Int32) z
set_option maxHeartbeats 4000000 in
set_option maxRecDepth 100000 in
theorem bX19_neighbours_39 (hst : zSt B ids) (F : zFx p m c cX19_neighbours 5 s args RX19 D cy B ids A) (hA : ∀ q : Nat, s.heap.size ≤ q → A q) {r : Int32} {z' : St} (E : zEnd p l e rmX19_neighbours s m args below meth c cX19_neighbours D cy B ids A Q none z' .return_ True) {N : Nat} {K2 : Nat → Int32 → Int32 → St → Option (Int32 × St)} (hK2 : ∀ (x0 : Nat) (x1 : Int32) (x2 : Int32) (hx0 : (12, x0) ∈ ids) {z : St} {H : Heap} {locs : List Loc} {ls : Array Slot} (hr : zRep D cy B ids A s.heap z H locs) (hl : lv_has ls 5 [(0, .ref (B 12 x0)), (1, .int x1), (2, .int x2)]), K2 x0 x1 x2 z = some (r, z') → W p l e rmX19_neighbours s m args below meth c H locs 0 0 Q (F0 m 2 ls [])) (x0 : Nat) (x1 : Int32) (x2 : Int32) (x3 : Option Nat) (s0 : Nat) (hx0 : (12, x0) ∈ ids) (hx3 : ∀ t, x3 = some t → (18, t) ∈ ids) (hs0 : (12, s0) ∈ ids) {z : St} {H : Heap} {locs : List Loc} {ls : Array Slot} (hr : zRep D cy B ids A s.heap z H locs) (hl : lv_has ls 5 [(0, .ref (B 12 x0)), (1, .int x1), (2, .int x2), (3, va_rf (Option.map (B 18) x3))]) (h : fX19_neighbours_39 N K2 x0 x1 x2 x3 s0 z = some (r, z')) : W p l e rmX19_neighbours s m args below meth c H locs 0 0 Q (F0 m 39 ls [.ref (B 12 s0)]) := by
  unfold fX19_neighbours_39 at h
  refine lv_iconst (v := (1 : Int32)) F.1 F.2.1 dX19_neighbours_39 (by decide) ?_
  refine lv_goto (tgt := 44) F.1 F.2.1 dX19_neighbours_40 (by decide) ?_
  exact bX19_neighbours_44 hst F hA E hK2 x0 x1 x2 x3 s0 (1 : Int32) hx0 hx3 hs0 hr (lv_sub hl [0, 1, 2, 3] rfl) h
def fX19_neighbours_202 (N : Nat) (K96 : Nat → Int32 → Int32 → St → Option (Int32 × St)) (x0 : Nat) (x1 : Int32) (x2 : Int32) (z : St) : Option (Int32 × St) := K96 x0 x1 x2 z
set_option maxHeartbeats 4000000 in
set_option maxRecDepth 100000 in
theorem bX19_neighbours_202 (hst : zSt B ids) (F : zFx p m c cX19_neighbours 5 s args RX19 D cy B ids A) (hA : ∀ q : Nat, s.heap.size ≤ q → A q) {r : Int32} {z' : St} (E : zEnd p l e rmX19_neighbours s m args below meth c cX19_neighbours D cy B ids A Q none z' .return_ True) {N : Nat} {K96 : Nat → Int32 → Int32 → St → Option (Int32 × St)} (hK96 : ∀ (x0 : Nat) (x1 : Int32) (x2 : Int32) (hx0 : (12, x0) ∈ ids) {z : St} {H : Heap} {locs : List Loc} {ls : Array Slot} (hr : zRep D cy B ids A s.heap z H locs) (hl : lv_has ls 5 [(0, .ref (B 12 x0)), (1, .int x1), (2, .int x2)]), K96 x0 x1 x2 z = some (r, z') → W p l e rmX19_neighbours s m args below meth c H locs 0 0 Q (F0 m 96 ls [])) (x0 : Nat) (x1 : Int32) (x2 : Int32) (hx0 : (12, x0) ∈ ids) {z : St} {H : Heap} {locs : List Loc} {ls : Array Slot} (hr : zRep D cy B ids A s.heap z H locs) (hl : lv_has ls 5 [(0, .ref (B 12 x0)), (1, .int x1), (2, .int x2)]) (h : fX19_neighbours_202 N K96 x0 x1 x2 z = some (r, z')) : W p l e rmX19_neighbours s m args below meth c H locs 0 0 Q (F0 m 202 ls []) := by
  unfold fX19_neighbours_202 at h
  refine lv_goto (tgt := 96) F.1 F.2.1 dX19_neighbours_202 (by decide) ?_
  exact hK96 x0 x1 x2 hx0 hr (lv_sub hl [0, 1, 2] rfl) h
def fX19_neighbours_150b (N : Nat) (K96 : Nat → Int32 → Int32 → St → Option (Int32 × St)) (K150 : Nat → Int32 → Int32 → Nat → Int32 → St → Option (Int32 × St)) (x0 : Nat) (x1 : Int32) (x2 : Int32) (x3 : Nat) (x4 : Int32) (z : St) : Option (Int32 × St) := if (zgI z 12 13 x0) ≤ x4 then (zk (zgI z 12 13 x0) 16 <| zl (zsQ z 149 x0 (Int32.toNatClampNeg (zgI z 12 13 x0)) (some x3)) fun z3 => zl (zsI z3 12 24 x0 (1 : Int32)) fun z4 => fX19_neighbours_202 N K96 x0 x1 x2 z4) else (zk (x4 + (1 : Int32)) 16 <| zl (zgQ z 149 x0 (Int32.toNatClampNeg (x4 + (1 : Int32)))) fun y6 => zk x4 16 <| zl (zsQ z 149 x0 (Int32.toNatClampNeg x4) y6) fun z8 => zl (x4 + 1) fun v9 => K150 x0 x1 x2 x3 v9 z8)
def fX19_neighbours_150 (N : Nat) (K96 : Nat → Int32 → Int32 → St → Option (Int32 × St)) : Nat → Nat → Int32 → Int32 → Nat → Int32 → St → Option (Int32 × St)
  | 0 => fun _ _ _ _ _ _ => none
  | n + 1 => fX19_neighbours_150b N K96 (fX19_neighbours_150 N K96 n)
set_option maxHeartbeats 4000000 in
set_option maxRecDepth 100000 in
theorem bX19_neighbours_150 (hst : zSt B ids) (F : zFx p m c cX19_neighbours 5 s args RX19 D cy B ids A) (hA : ∀ q : Nat, s.heap.size ≤ q → A q) {r : Int32} {z' : St} (E : zEnd p l e rmX19_neighbours s m args below meth c cX19_neighbours D cy B ids A Q none z' .return_ True) {N : Nat} {K96 : Nat → Int32 → Int32 → St → Option (Int32 × St)} {K150 : Nat → Int32 → Int32 → Nat → Int32 → St → Option (Int32 × St)} (hK96 : ∀ (x0 : Nat) (x1 : Int32) (x2 : Int32) (hx0 : (12, x0) ∈ ids) {z : St} {H : Heap} {locs : List Loc} {ls : Array Slot} (hr : zRep D cy B ids A s.heap z H locs) (hl : lv_has ls 5 [(0, .ref (B 12 x0)), (1, .int x1), (2, .int x2)]), K96 x0 x1 x2 z = some (r, z') → W p l e rmX19_neighbours s m args below meth c H locs 0 0 Q (F0 m 96 ls [])) (hK150 : ∀ (x0 : Nat) (x1 : Int32) (x2 : Int32) (x3 : Nat) (x4 : Int32) (hx0 : (12, x0) ∈ ids) (hx3 : (15, x3) ∈ ids) {z : St} {H : Heap} {locs : List Loc} {ls : Array Slot} (hr : zRep D cy B ids A s.heap z H locs) (hl : lv_has ls 5 [(0, .ref (B 12 x0)), (1, .int x1), (2, .int x2), (3, .ref (B 15 x3)), (4, .int x4)]), K150 x0 x1 x2 x3 x4 z = some (r, z') → W p l e rmX19_neighbours s m args below meth c H locs 0 0 Q (F0 m 150 ls [])) (x0 : Nat) (x1 : Int32) (x2 : Int32) (x3 : Nat) (x4 : Int32) (hx0 : (12, x0) ∈ ids) (hx3 : (15, x3) ∈ ids) {z : St} {H : Heap} {locs : List Loc} {ls : Array Slot} (hr : zRep D cy B ids A s.heap z H locs) (hl : lv_has ls 5 [(0, .ref (B 12 x0)), (1, .int x1), (2, .int x2), (3, .ref (B 15 x3)), (4, .int x4)]) (h : fX19_neighbours_150b N K96 K150 x0 x1 x2 x3 x4 z = some (r, z')) : W p l e rmX19_neighbours s m args below meth c H locs 0 0 Q (F0 m 150 ls []) := by
  unfold fX19_neighbours_150b at h
  refine lv_iload F.1 F.2.1 dX19_neighbours_150 (lv_at hl 4 rfl) ?_
  refine lv_aload_n F.1 F.2.1 dX19_neighbours_152 rfl (lv_at hl 0 rfl) ?_
  refine gf19_457 F hx0 hr dX19_neighbours_153 ?_
  refine lv_icmp_ge (tgt := 181) F.1 F.2.1 dX19_neighbours_156 (by decide) (fun c1 => ?_) (fun c1 => ?_)
  · replace h := zi_t c1 h
    refine lv_aload_n F.1 F.2.1 dX19_neighbours_181 rfl (lv_at hl 0 rfl) ?_
    refine gf19_460 F hx0 hr dX19_neighbours_182 ?_
    refine lv_aload_n F.1 F.2.1 dX19_neighbours_185 rfl (lv_at hl 0 rfl) ?_
    refine gf19_457 F hx0 hr dX19_neighbours_186 ?_
    refine lv_aload_n F.1 F.2.1 dX19_neighbours_189 rfl (lv_at hl 3 rfl) ?_
    replace h := zk_some h
    obtain ⟨c2, h⟩ := h
    refine zr_aast (k := 149) (v := (some x3)) (T := TX15) (N := 6) (by decide) rfl (by decide) rfl rfl F (zal_a F hx0 (j := 12) rfl) hr dX19_neighbours_190 (by rw [zlen_d (by decide)]; exact c2) (zal_s hx3) (fun H locs z3 ez3 hr => ?_)
    replace h := zl_sub ez3 h
    clear ez3
    refine lv_aload_n F.1 F.2.1 dX19_neighbours_191 rfl (lv_at hl 0 rfl) ?_
    refine lv_iconst (v := (1 : Int32)) F.1 F.2.1 dX19_neighbours_192 (by decide) ?_
    refine pf19_486 F hx0 hr dX19_neighbours_193 (1 : Int32) (by decide) (fun H locs z4 ez4 hr => ?_)
    replace h := zl_sub ez4 h
    clear ez4
    refine lv_goto (tgt := 202) F.1 F.2.1 dX19_neighbours_196 (by decide) ?_
    exact bX19_neighbours_202 hst F hA E hK96 x0 x1 x2 hx0 hr (lv_sub hl [0, 1, 2] rfl) h
  · replace h := zi_f c1 h
    refine lv_aload_n F.1 F.2.1 dX19_neighbours_159 rfl (lv_at hl 0 rfl) ?_
    refine gf19_460 F hx0 hr dX19_neighbours_160 ?_
    refine lv_iload F.1 F.2.1 dX19_neighbours_163 (lv_at hl 4 rfl) ?_
    refine lv_aload_n F.1 F.2.1 dX19_neighbours_165 rfl (lv_at hl 0 rfl) ?_
    refine gf19_460 F hx0 hr dX19_neighbours_166 ?_
    refine lv_iload F.1 F.2.1 dX19_neighbours_169 (lv_at hl 4 rfl) ?_
    refine lv_iconst (v := (1 : Int32)) F.1 F.2.1 dX19_neighbours_171 (by decide) ?_
    refine lv_iadd F.1 F.2.1 dX19_neighbours_172 ?_
    replace h := zk_some h
    obtain ⟨c5, h⟩ := h
    refine zr_aaldv (k := 149) (by decide) rfl rfl (zlen_d (by decide)) F (zal_a F hx0 (j := 12) rfl) hr dX19_neighbours_173 c5 (fun y6 ey6 => ?_)
    replace h := zl_sub ey6 h
    have hy6 := zal_q hr (zal_a F hx0 (j := 12) rfl) rfl ey6
    clear ey6
    replace h := zk_some h
    obtain ⟨c7, h⟩ := h
    refine zr_aast (k := 149) (v := y6) (T := TX15) (N := 6) (by decide) rfl (by decide) rfl rfl F (zal_a F hx0 (j := 12) rfl) hr dX19_neighbours_174 (by rw [zlen_d (by decide)]; exact c7) hy6 (fun H locs z8 ez8 hr => ?_)
    replace h := zl_sub ez8 h
    clear ez8
    obtain ⟨v9, ev9⟩ : ∃ y : Int32, y = (x4 + 1) := ⟨_, rfl⟩
    replace h := zl_sub ev9 h
    refine lv_iinc (v := v9) (lv' := [(4, .int v9), (0, .ref (B 12 x0)), (1, .int x1), (2, .int x2), (3, .ref (B 15 x3))]) F.1 F.2.1 dX19_neighbours_175 hl (k := 4) rfl (by rw [ev9]; rfl) (by decide) rfl (fun ls hl => ?_)
    refine lv_goto (tgt := 150) F.1 F.2.1 dX19_neighbours_178 (by decide) ?_
    exact hK150 x0 x1 x2 x3 v9 hx0 hx3 hr (lv_sub hl [1, 2, 3, 4, 0] rfl) h
theorem lX19_neighbours_150 (hst : zSt B ids) (F : zFx p m c cX19_neighbours 5 s args RX19 D cy B ids A) (hA : ∀ q : Nat, s.heap.size ≤ q → A q) {r : Int32} {z' : St} (E : zEnd p l e rmX19_neighbours s m args below meth c cX19_neighbours D cy B ids A Q none z' .return_ True) {N : Nat} {K96 : Nat → Int32 → Int32 → St → Option (Int32 × St)} (hK96 : ∀ (x0 : Nat) (x1 : Int32) (x2 : Int32) (hx0 : (12, x0) ∈ ids) {z : St} {H : Heap} {locs : List Loc} {ls : Array Slot} (hr : zRep D cy B ids A s.heap z H locs) (hl : lv_has ls 5 [(0, .ref (B 12 x0)), (1, .int x1), (2, .int x2)]), K96 x0 x1 x2 z = some (r, z') → W p l e rmX19_neighbours s m args below meth c H locs 0 0 Q (F0 m 96 ls [])) : ∀ (n : Nat) (x0 : Nat) (x1 : Int32) (x2 : Int32) (x3 : Nat) (x4 : Int32) (hx0 : (12, x0) ∈ ids) (hx3 : (15, x3) ∈ ids) {z : St} {H : Heap} {locs : List Loc} {ls : Array Slot} (hr : zRep D cy B ids A s.heap z H locs) (hl : lv_has ls 5 [(0, .ref (B 12 x0)), (1, .int x1), (2, .int x2), (3, .ref (B 15 x3)), (4, .int x4)]), fX19_neighbours_150 N K96 n x0 x1 x2 x3 x4 z = some (r, z') → W p l e rmX19_neighbours s m args below meth c H locs 0 0 Q (F0 m 150 ls []) := by
  intro n
  induction n with
  | zero => intro x0 x1 x2 x3 x4 hx0 hx3 z H locs ls hr hl h; cases h
  | succ n ih => intro x0 x1 x2 x3 x4 hx0 hx3 z H locs ls hr hl h; exact bX19_neighbours_150 hst F hA E hK96 ih x0 x1 x2 x3 x4 hx0 hx3 hr hl h
def fX19_neighbours_137 (N : Nat) (K96 : Nat → Int32 → Int32 → St → Option (Int32 × St)) (x0 : Nat) (x1 : Int32) (x2 : Int32) (x3 : Nat) (z : St) : Option (Int32 × St) := zl (zsI z 12 13 x0 ((zgI z 12 13 x0) - (1 : Int32))) fun z1 => fX19_neighbours_150 N K96 N x0 x1 x2 x3 x2 z1
set_option maxHeartbeats 4000000 in
set_option maxRecDepth 100000 in
theorem bX19_neighbours_137 (hst : zSt B ids) (F : zFx p m c cX19_neighbours 5 s args RX19 D cy B ids A) (hA : ∀ q : Nat, s.heap.size ≤ q → A q) {r : Int32} {z' : St} (E : zEnd p l e rmX19_neighbours s m args below meth c cX19_neighbours D cy B ids A Q none z' .return_ True) {N : Nat} {K96 : Nat → Int32 → Int32 → St → Option (Int32 × St)} (hK96 : ∀ (x0 : Nat) (x1 : Int32) (x2 : Int32) (hx0 : (12, x0) ∈ ids) {z : St} {H : Heap} {locs : List Loc} {ls : Array Slot} (hr : zRep D cy B ids A s.heap z H locs) (hl : lv_has ls 5 [(0, .ref (B 12 x0)), (1, .int x1), (2, .int x2)]), K96 x0 x1 x2 z = some (r, z') → W p l e rmX19_neighbours s m args below meth c H locs 0 0 Q (F0 m 96 ls [])) (x0 : Nat) (x1 : Int32) (x2 : Int32) (x3 : Nat) (hx0 : (12, x0) ∈ ids) (hx3 : (15, x3) ∈ ids) {z : St} {H : Heap} {locs : List Loc} {ls : Array Slot} (hr : zRep D cy B ids A s.heap z H locs) (hl : lv_has ls 5 [(0, .ref (B 12 x0)), (1, .int x1), (2, .int x2), (3, .ref (B 15 x3))]) (h : fX19_neighbours_137 N K96 x0 x1 x2 x3 z = some (r, z')) : W p l e rmX19_neighbours s m args below meth c H locs 0 0 Q (F0 m 137 ls []) := by
  unfold fX19_neighbours_137 at h
  refine lv_aload_n F.1 F.2.1 dX19_neighbours_137 rfl (lv_at hl 0 rfl) ?_
  refine lv_dup F.1 F.2.1 dX19_neighbours_138 rfl ?_
  refine gf19_457 F hx0 hr dX19_neighbours_139 ?_
  refine lv_iconst (v := (1 : Int32)) F.1 F.2.1 dX19_neighbours_142 (by decide) ?_
  refine lv_isub F.1 F.2.1 dX19_neighbours_143 ?_
  refine pf19_457 F hx0 hr dX19_neighbours_144 ((zgI z 12 13 x0) - (1 : Int32)) (fun H locs z1 ez1 hr => ?_)
  replace h := zl_sub ez1 h
  clear ez1
  refine lv_iload_n F.1 F.2.1 dX19_neighbours_147 rfl (lv_at hl 2 rfl) ?_
  refine lv_istore (lv' := [(4, .int x2), (0, .ref (B 12 x0)), (1, .int x1), (2, .int x2), (3, .ref (B 15 x3))]) F.1 F.2.1 dX19_neighbours_148 hl (by decide) rfl (fun ls hl => ?_)
  exact lX19_neighbours_150 hst F hA E hK96 _ x0 x1 x2 x3 x2 hx0 hx3 hr (lv_sub hl [1, 2, 3, 4, 0] rfl) h
def fX19_neighbours_96b (N : Nat) (K96 : Nat → Int32 → Int32 → St → Option (Int32 × St)) (x0 : Nat) (x1 : Int32) (x2 : Int32) (z : St) : Option (Int32 × St) := if (zgI z 12 13 x0) ≤ x2 then (some (0, z)) else (zk x2 16 <| zl (zgQ z 149 x0 (Int32.toNatClampNeg x2)) fun y3 => zd y3 fun a4 => zk (zgI z 15 0 a4) 6 <| zl (zgQ z 147 x0 (Int32.toNatClampNeg (zgI z 15 0 a4))) fun y6 => zd y6 fun a7 => if (zgI z 18 5 a7) = 0 then (fX19_neighbours_137 N K96 x0 x1 x2 a4 z) else (if (x1 - (zgI z 15 2 a4)) < (80 : Int32) then (zl (x2 + 1) fun v10 => fX19_neighbours_202 N K96 x0 x1 v10 z) else (fX19_neighbours_137 N K96 x0 x1 x2 a4 z)))
def fX19_neighbours_96 (N : Nat)  : Nat → Nat → Int32 → Int32 → St → Option (Int32 × St)
  | 0 => fun _ _ _ _ => none
  | n + 1 => fX19_neighbours_96b N (fX19_neighbours_96 N  n)
set_option maxHeartbeats 4000000 in
set_option maxRecDepth 100000 in
theorem bX19_neighbours_96 (hst : zSt B ids) (F : zFx p m c cX19_neighbours 5 s args RX19 D cy B ids A) (hA : ∀ q : Nat, s.heap.size ≤ q → A q) {r : Int32} {z' : St} (E : zEnd p l e rmX19_neighbours s m args below meth c cX19_neighbours D cy B ids A Q none z' .return_ True) {N : Nat} {K96 : Nat → Int32 → Int32 → St → Option (Int32 × St)} (hK96 : ∀ (x0 : Nat) (x1 : Int32) (x2 : Int32) (hx0 : (12, x0) ∈ ids) {z : St} {H : Heap} {locs : List Loc} {ls : Array Slot} (hr : zRep D cy B ids A s.heap z H locs) (hl : lv_has ls 5 [(0, .ref (B 12 x0)), (1, .int x1), (2, .int x2)]), K96 x0 x1 x2 z = some (r, z') → W p l e rmX19_neighbours s m args below meth c H locs 0 0 Q (F0 m 96 ls [])) (x0 : Nat) (x1 : Int32) (x2 : Int32) (hx0 : (12, x0) ∈ ids) {z : St} {H : Heap} {locs : List Loc} {ls : Array Slot} (hr : zRep D cy B ids A s.heap z H locs) (hl : lv_has ls 5 [(0, .ref (B 12 x0)), (1, .int x1), (2, .int x2)]) (h : fX19_neighbours_96b N K96 x0 x1 x2 z = some (r, z')) : W p l e rmX19_neighbours s m args below meth c H locs 0 0 Q (F0 m 96 ls []) := by
  unfold fX19_neighbours_96b at h
  refine lv_iload_n F.1 F.2.1 dX19_neighbours_96 rfl (lv_at hl 2 rfl) ?_
  refine lv_aload_n F.1 F.2.1 dX19_neighbours_97 rfl (lv_at hl 0 rfl) ?_
  refine gf19_457 F hx0 hr dX19_neighbours_98 ?_
  refine lv_icmp_ge (tgt := 205) F.1 F.2.1 dX19_neighbours_101 (by decide) (fun c1 => ?_) (fun c1 => ?_)
  · replace h := zi_t c1 h
    obtain ⟨rfl, rfl⟩ := zret h
    exact E _ _ _ _ dX19_neighbours_205 trivial hr
  · replace h := zi_f c1 h
    refine lv_aload_n F.1 F.2.1 dX19_neighbours_104 rfl (lv_at hl 0 rfl) ?_
    refine gf19_460 F hx0 hr dX19_neighbours_105 ?_
    refine lv_iload_n F.1 F.2.1 dX19_neighbours_108 rfl (lv_at hl 2 rfl) ?_
    replace h := zk_some h
    obtain ⟨c2, h⟩ := h
    refine zr_aaldv (k := 149) (by decide) rfl rfl (zlen_d (by decide)) F (zal_a F hx0 (j := 12) rfl) hr dX19_neighbours_109 c2 (fun y3 ey3 => ?_)
    replace h := zl_sub ey3 h
    have hy3 := zal_q hr (zal_a F hx0 (j := 12) rfl) rfl ey3
    clear ey3
    refine zr_astore_n (lv' := [(3, va_rf (Option.map (B 15) y3)), (0, .ref (B 12 x0)), (1, .int x1), (2, .int x2)]) F.1 F.2.1 dX19_neighbours_110 rfl hl (by decide) rfl (fun ls hl => ?_)
    refine lv_aload_n F.1 F.2.1 dX19_neighbours_111 rfl (lv_at hl 1 rfl) ?_
    refine gf19_276 F hx0 hr dX19_neighbours_112 ?_
    refine zr_aload_n F.1 F.2.1 dX19_neighbours_115 rfl (lv_at hl 0 rfl) ?_
    replace h := zd_some h
    obtain ⟨a4, rfl, h⟩ := h
    refine gf19_464 F (hy3 _ rfl) hr dX19_neighbours_116 ?_
    replace h := zk_some h
    obtain ⟨c5, h⟩ := h
    refine zr_aaldv (k := 147) (by decide) rfl rfl (zlen_d (by decide)) F (zal_a F hx0 (j := 2) rfl) hr dX19_neighbours_119 c5 (fun y6 ey6 => ?_)
    replace h := zl_sub ey6 h
    have hy6 := zal_q hr (zal_a F hx0 (j := 2) rfl) rfl ey6
    clear ey6
    replace h := zd_some h
    obtain ⟨a7, rfl, h⟩ := h
    refine gf19_479 F (hy6 _ rfl) hr dX19_neighbours_120 ?_
    refine lv_if_eq (tgt := 137) F.1 F.2.1 dX19_neighbours_123 (by decide) (fun c8 => ?_) (fun c8 => ?_)
    · replace h := zi_t c8 h
      exact bX19_neighbours_137 hst F hA E hK96 x0 x1 x2 a4 hx0 (hy3 _ rfl) hr (lv_sub hl [1, 2, 3, 0] rfl) h
    · replace h := zi_f c8 h
      refine lv_iload_n F.1 F.2.1 dX19_neighbours_126 rfl (lv_at hl 2 rfl) ?_
      refine lv_aload_n F.1 F.2.1 dX19_neighbours_127 rfl (lv_at hl 0 rfl) ?_
      refine gf19_483 F (hy3 _ rfl) hr dX19_neighbours_128 ?_
      refine lv_isub F.1 F.2.1 dX19_neighbours_131 ?_
      refine lv_bipush (v := (80 : Int32)) F.1 F.2.1 dX19_neighbours_132 (by decide) ?_
      refine lv_icmp_lt (tgt := 199) F.1 F.2.1 dX19_neighbours_134 (by decide) (fun c9 => ?_) (fun c9 => ?_)
      · replace h := zi_t c9 h
        obtain ⟨v10, ev10⟩ : ∃ y : Int32, y = (x2 + 1) := ⟨_, rfl⟩
        replace h := zl_sub ev10 h
        refine lv_iinc (v := v10) (lv' := [(2, .int v10), (3, .ref (B 15 a4)), (0, .ref (B 12 x0)), (1, .int x1)]) F.1 F.2.1 dX19_neighbours_199 hl (k := 3) rfl (by rw [ev10]; rfl) (by decide) rfl (fun ls hl => ?_)
        exact bX19_neighbours_202 hst F hA E hK96 x0 x1 v10 hx0 hr (lv_sub hl [2, 3, 0] rfl) h
      · replace h := zi_f c9 h
        exact bX19_neighbours_137 hst F hA E hK96 x0 x1 x2 a4 hx0 (hy3 _ rfl) hr (lv_sub hl [1, 2, 3, 0] rfl) h
theorem lX19_neighbours_96 (hst : zSt B ids) (F : zFx p m c cX19_neighbours 5 s args RX19 D cy B ids A) (hA : ∀ q : Nat, s.heap.size ≤ q → A q) {r : Int32} {z' : St} (E : zEnd p l e rmX19_neighbours s m args below meth c cX19_neighbours D cy B ids A Q none z' .return_ True) {N : Nat}  : ∀ (n : Nat) (x0 : Nat) (x1 : Int32) (x2 : Int32) (hx0 : (12, x0) ∈ ids) {z : St} {H : Heap} {locs : List Loc} {ls : Array Slot} (hr : zRep D cy B ids A s.heap z H locs) (hl : lv_has ls 5 [(0, .ref (B 12 x0)), (1, .int x1), (2, .int x2)]), fX19_neighbours_96 N  n x0 x1 x2 z = some (r, z') → W p l e rmX19_neighbours s m args below meth c H locs 0 0 Q (F0 m 96 ls []) := by
  intro n
  induction n with
  | zero => intro x0 x1 x2 hx0 z H locs ls hr hl h; cases h
  | succ n ih => intro x0 x1 x2 hx0 z H locs ls hr hl h; exact bX19_neighbours_96 hst F hA E ih x0 x1 x2 hx0 hr hl h
def fX19_neighbours_2b (N : Nat) (K2 : Nat → Int32 → Int32 → St → Option (Int32 × St)) (x0 : Nat) (x1 : Int32) (x2 : Int32) (z : St) : Option (Int32 × St) := if (zgI z 12 3 x0) ≤ x2 then (fX19_neighbours_96 N N x0 x1 (0 : Int32) z) else (zk x2 6 <| zl (zgQ z 147 x0 (Int32.toNatClampNeg x2)) fun y3 => if ¬ (zgI z 12 24 x0) = 0 then (fX19_neighbours_39 N K2 x0 x1 x2 y3 x0 z) else (zd y3 fun a5 => zl (zgR z 18 2 a5) fun y6 => zd y6 fun a7 => if (zgI z 18 5 a5) = (zgI z 16 3 a7) then (fX19_neighbours_44 N K2 x0 x1 x2 (some a5) x0 (0 : Int32) z) else (fX19_neighbours_39 N K2 x0 x1 x2 (some a5) x0 z)))
def fX19_neighbours_2 (N : Nat)  : Nat → Nat → Int32 → Int32 → St → Option (Int32 × St)
  | 0 => fun _ _ _ _ => none
  | n + 1 => fX19_neighbours_2b N (fX19_neighbours_2 N  n)
set_option maxHeartbeats 4000000 in
set_option maxRecDepth 100000 in
theorem bX19_neighbours_2 (hst : zSt B ids) (F : zFx p m c cX19_neighbours 5 s args RX19 D cy B ids A) (hA : ∀ q : Nat, s.heap.size ≤ q → A q) {r : Int32} {z' : St} (E : zEnd p l e rmX19_neighbours s m args below meth c cX19_neighbours D cy B ids A Q none z' .return_ True) {N : Nat} {K2 : Nat → Int32 → Int32 → St → Option (Int32 × St)} (hK2 : ∀ (x0 : Nat) (x1 : Int32) (x2 : Int32) (hx0 : (12, x0) ∈ ids) {z : St} {H : Heap} {locs : List Loc} {ls : Array Slot} (hr : zRep D cy B ids A s.heap z H locs) (hl : lv_has ls 5 [(0, .ref (B 12 x0)), (1, .int x1), (2, .int x2)]), K2 x0 x1 x2 z = some (r, z') → W p l e rmX19_neighbours s m args below meth c H locs 0 0 Q (F0 m 2 ls [])) (x0 : Nat) (x1 : Int32) (x2 : Int32) (hx0 : (12, x0) ∈ ids) {z : St} {H : Heap} {locs : List Loc} {ls : Array Slot} (hr : zRep D cy B ids A s.heap z H locs) (hl : lv_has ls 5 [(0, .ref (B 12 x0)), (1, .int x1), (2, .int x2)]) (h : fX19_neighbours_2b N K2 x0 x1 x2 z = some (r, z')) : W p l e rmX19_neighbours s m args below meth c H locs 0 0 Q (F0 m 2 ls []) := by
  unfold fX19_neighbours_2b at h
  refine lv_iload_n F.1 F.2.1 dX19_neighbours_2 rfl (lv_at hl 2 rfl) ?_
  refine lv_aload_n F.1 F.2.1 dX19_neighbours_3 rfl (lv_at hl 0 rfl) ?_
  refine gf19_273 F hx0 hr dX19_neighbours_4 ?_
  refine lv_icmp_ge (tgt := 94) F.1 F.2.1 dX19_neighbours_7 (by decide) (fun c1 => ?_) (fun c1 => ?_)
  · replace h := zi_t c1 h
    refine lv_iconst (v := (0 : Int32)) F.1 F.2.1 dX19_neighbours_94 (by decide) ?_
    refine lv_istore_n (lv' := [(2, .int (0 : Int32)), (0, .ref (B 12 x0)), (1, .int x1)]) F.1 F.2.1 dX19_neighbours_95 rfl hl (by decide) rfl (fun ls hl => ?_)
    exact lX19_neighbours_96 hst F hA E  _ x0 x1 (0 : Int32) hx0 hr (lv_sub hl [1, 2, 0] rfl) h
  · replace h := zi_f c1 h
    refine lv_aload_n F.1 F.2.1 dX19_neighbours_10 rfl (lv_at hl 0 rfl) ?_
    refine gf19_276 F hx0 hr dX19_neighbours_11 ?_
    refine lv_iload_n F.1 F.2.1 dX19_neighbours_14 rfl (lv_at hl 2 rfl) ?_
    replace h := zk_some h
    obtain ⟨c2, h⟩ := h
    refine zr_aaldv (k := 147) (by decide) rfl rfl (zlen_d (by decide)) F (zal_a F hx0 (j := 2) rfl) hr dX19_neighbours_15 c2 (fun y3 ey3 => ?_)
    replace h := zl_sub ey3 h
    have hy3 := zal_q hr (zal_a F hx0 (j := 2) rfl) rfl ey3
    clear ey3
    refine zr_astore_n (lv' := [(3, va_rf (Option.map (B 18) y3)), (0, .ref (B 12 x0)), (1, .int x1), (2, .int x2)]) F.1 F.2.1 dX19_neighbours_16 rfl hl (by decide) rfl (fun ls hl => ?_)
    refine lv_aload_n F.1 F.2.1 dX19_neighbours_17 rfl (lv_at hl 1 rfl) ?_
    refine lv_aload_n F.1 F.2.1 dX19_neighbours_18 rfl (lv_at hl 1 rfl) ?_
    refine gf19_486 F hx0 hr dX19_neighbours_19 ?_
    refine lv_if_ne (tgt := 39) F.1 F.2.1 dX19_neighbours_22 (by decide) (fun c4 => ?_) (fun c4 => ?_)
    · replace h := zi_t c4 h
      exact bX19_neighbours_39 hst F hA E hK2 x0 x1 x2 y3 x0 hx0 hy3 hx0 hr (lv_sub hl [1, 2, 3, 0] rfl) h
    · replace h := zi_f (fun q => q c4) h
      refine zr_aload_n F.1 F.2.1 dX19_neighbours_25 rfl (lv_at hl 0 rfl) ?_
      replace h := zd_some h
      obtain ⟨a5, rfl, h⟩ := h
      refine gf19_479 F (hy3 _ rfl) hr dX19_neighbours_26 ?_
      refine lv_aload_n F.1 F.2.1 dX19_neighbours_29 rfl (lv_at hl 0 rfl) ?_
      refine gf19_149 F (hy3 _ rfl) hr dX19_neighbours_30 (fun y6 ey6 => ?_)
      replace h := zl_sub ey6 h
      have hy6 := zal_g hr (hy3 _ rfl) (j := 2) rfl ey6
      clear ey6
      replace h := zd_some h
      obtain ⟨a7, rfl, h⟩ := h
      refine gf19_158 F (hy6 _ rfl) hr dX19_neighbours_33 ?_
      refine lv_icmp_eq (tgt := 43) F.1 F.2.1 dX19_neighbours_36 (by decide) (fun c8 => ?_) (fun c8 => ?_)
      · replace h := zi_t c8 h
        refine lv_iconst (v := (0 : Int32)) F.1 F.2.1 dX19_neighbours_43 (by decide) ?_
        exact bX19_neighbours_44 hst F hA E hK2 x0 x1 x2 (some a5) x0 (0 : Int32) hx0 (zal_s (hy3 _ rfl)) hx0 hr (lv_sub hl [1, 2, 3, 0] rfl) h
      · replace h := zi_f c8 h
        exact bX19_neighbours_39 hst F hA E hK2 x0 x1 x2 (some a5) x0 hx0 (zal_s (hy3 _ rfl)) hx0 hr (lv_sub hl [1, 2, 3, 0] rfl) h
theorem lX19_neighbours_2 (hst : zSt B ids) (F : zFx p m c cX19_neighbours 5 s args RX19 D cy B ids A) (hA : ∀ q : Nat, s.heap.size ≤ q → A q) {r : Int32} {z' : St} (E : zEnd p l e rmX19_neighbours s m args below meth c cX19_neighbours D cy B ids A Q none z' .return_ True) {N : Nat}  : ∀ (n : Nat) (x0 : Nat) (x1 : Int32) (x2 : Int32) (hx0 : (12, x0) ∈ ids) {z : St} {H : Heap} {locs : List Loc} {ls : Array Slot} (hr : zRep D cy B ids A s.heap z H locs) (hl : lv_has ls 5 [(0, .ref (B 12 x0)), (1, .int x1), (2, .int x2)]), fX19_neighbours_2 N  n x0 x1 x2 z = some (r, z') → W p l e rmX19_neighbours s m args below meth c H locs 0 0 Q (F0 m 2 ls []) := by
  intro n
  induction n with
  | zero => intro x0 x1 x2 hx0 z H locs ls hr hl h; cases h
  | succ n ih => intro x0 x1 x2 hx0 z H locs ls hr hl h; exact bX19_neighbours_2 hst F hA E ih x0 x1 x2 hx0 hr hl h
def fX19_neighbours (N : Nat)  (x0 : Nat) (x1 : Int32) (z : St) : Option (Int32 × St) := fX19_neighbours_2 N N x0 x1 (0 : Int32) z
set_option maxHeartbeats 4000000 in
set_option maxRecDepth 100000 in
theorem bX19_neighbours_0 (hst : zSt B ids) (F : zFx p m c cX19_neighbours 5 s args RX19 D cy B ids A) (hA : ∀ q : Nat, s.heap.size ≤ q → A q) {r : Int32} {z' : St} (E : zEnd p l e rmX19_neighbours s m args below meth c cX19_neighbours D cy B ids A Q none z' .return_ True) {N : Nat}  (x0 : Nat) (x1 : Int32) (hx0 : (12, x0) ∈ ids) {z : St} {H : Heap} {locs : List Loc} {ls : Array Slot} (hr : zRep D cy B ids A s.heap z H locs) (hl : lv_has ls 5 [(0, .ref (B 12 x0)), (1, .int x1)]) (h : fX19_neighbours N x0 x1 z = some (r, z')) : W p l e rmX19_neighbours s m args below meth c H locs 0 0 Q (F0 m 0 ls []) := by
  unfold fX19_neighbours at h
  refine lv_iconst (v := (0 : Int32)) F.1 F.2.1 dX19_neighbours_0 (by decide) ?_
  refine lv_istore_n (lv' := [(2, .int (0 : Int32)), (0, .ref (B 12 x0)), (1, .int x1)]) F.1 F.2.1 dX19_neighbours_1 rfl hl (by decide) rfl (fun ls hl => ?_)
  exact lX19_neighbours_2 hst F hA E  _ x0 x1 (0 : Int32) hx0 hr (lv_sub hl [1, 2, 0] rfl) h
end SX19_neighbours
set_option maxRecDepth 100000 in
theorem okX19_neighbours (l : Launch) (D : va_G) (cy : Nat → ClassId) (B : Nat → Nat → Nat) (ids : List (Nat × Nat)) (hst : zSt B ids) (N : Nat) (x0 : Nat) (hx0 : (12, x0) ∈ ids) (x1 : Int32) {z : St} {r : Int32} {z' : St} (hW : zWf ids z) (h : fX19_neighbours N x0 x1 z = some (r, z')) : zM l yX19_neighbours (zws yX19_neighbours cX19_neighbours 5 none) rmX19_neighbours D cy B ids [.ref (B 12 x0), .int x1] none True z z' :=
  zM_of hst hW (by decide +kernel) (Nat.le_of_ble_eq_true rfl) (fun p e s m args below meth c A ls F hA hret hlocks hr hl => bX19_neighbours_0 hst F hA (zEnd_v F hret hlocks) x0 x1 hx0 hr hl h)
