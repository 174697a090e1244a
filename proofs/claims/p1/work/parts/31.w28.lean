abbrev rmX19_arrives : Room := { frames := 5, cells := 0, slots := 0, locals := 109 }
theorem hdX19_arrives : yX19_arrives.cls ≠ "java/lang/invoke/MethodHandle" ∧ yX19_arrives.cls ≠ "java/lang/invoke/VarHandle" ∧ (parseMethodDescriptor yX19_arrives.desc).map (fun d => d.parameters.length) = some 2 := by decide +kernel
theorem hroX19_arrives_X14_become : rmX14_become.frames + 1 ≤ rmX19_arrives.frames ∧ 8 + (3 + 11) + rmX14_become.locals ≤ rmX19_arrives.locals := by decide
theorem hroX19_arrives_X14_fits : rmX14_fits.frames + 1 ≤ rmX19_arrives.frames ∧ 8 + (4 + 11) + rmX14_fits.locals ≤ rmX19_arrives.locals := by decide
theorem hroX19_arrives_X19_answer : rmX19_answer.frames + 1 ≤ rmX19_arrives.frames ∧ 8 + (3 + 11) + rmX19_answer.locals ≤ rmX19_arrives.locals := by decide
theorem hroX19_arrives_X19_arriveAsking : rmX19_arriveAsking.frames + 1 ≤ rmX19_arrives.frames ∧ 8 + (3 + 11) + rmX19_arriveAsking.locals ≤ rmX19_arrives.locals := by decide
theorem hroX19_arrives_X19_arriveBytes : rmX19_arriveBytes.frames + 1 ≤ rmX19_arrives.frames ∧ 8 + (9 + 11) + rmX19_arriveBytes.locals ≤ rmX19_arrives.locals := by decide
theorem hroX19_arrives_X19_arriveListening : rmX19_arriveListening.frames + 1 ≤ rmX19_arrives.frames ∧ 8 + (3 + 11) + rmX19_arriveListening.locals ≤ rmX19_arrives.locals := by decide
theorem hroX19_arrives_X19_arriveThanks : rmX19_arriveThanks.frames + 1 ≤ rmX19_arrives.frames ∧ 8 + (6 + 11) + rmX19_arriveThanks.locals ≤ rmX19_arrives.locals := by decide
theorem hroX19_arrives_X19_has : rmX19_has.frames + 1 ≤ rmX19_arrives.frames ∧ 8 + (3 + 11) + rmX19_has.locals ≤ rmX19_arrives.locals := by decide
theorem hroX19_arrives_X19_isBefore : rmX19_isBefore.frames + 1 ≤ rmX19_arrives.frames ∧ 8 + (2 + 11) + rmX19_isBefore.locals ≤ rmX19_arrives.locals := by decide
theorem hroX19_arrives_X19_seg : rmX19_seg.frames + 1 ≤ rmX19_arrives.frames ∧ 8 + (3 + 11) + rmX19_seg.locals ≤ rmX19_arrives.locals := by decide
theorem hroX19_arrives_X19_sizeOf : rmX19_sizeOf.frames + 1 ≤ rmX19_arrives.frames ∧ 8 + (2 + 11) + rmX19_sizeOf.locals ≤ rmX19_arrives.locals := by decide
section SX19_arrives
variable {p : Program} {l : Launch} {e : Env} {s : State} {m : MethodId} {args : Array Value} {below : List Frame} {meth : Method} {c : Code} {Q : State → Prop} {D : va_G} {cy : Nat → ClassId} {B : Nat → Nat → Nat} {ids : List (Nat × Nat)} {A : Nat → Prop}
def fX19_arrives_72 (N : Nat)  (x0 : Nat) (x1 : Nat) (x2 : Int32) (s0 : Nat) (s1 : Int32) (z : St) : Option (Int32 × St) := zq (s1 = 0 ∨ s1 = 1) <| zl (zsI z 14 32 s0 s1) fun z1 => if ¬ (zgI z1 14 0 x1) = (10 : Int32) then (some ((0 : Int32), z1)) else (zc (fX19_has N x0 x2 (2 : Int32) z1) fun r4 z5 => if r4 = 0 then (some ((0 : Int32), z5)) else (zl (zsI z5 14 43 x1 ((zgI z5 19 24 x0) + (2000 : Int32))) fun z9 => some ((0 : Int32), z9)))
set_option maxHeartbeats 4000000 in
set_option maxRecDepth 100000 in
theorem bX19_arrives_72 (hst : zSt B ids) (F : zFx p m c cX19_arrives 3 s args RX19 D cy B ids A) (hA : ∀ q : Nat, s.heap.size ≤ q → A q) {r : Int32} {z' : St} (E : zEnd p l e rmX19_arrives s m args below meth c cX19_arrives D cy B ids A Q (some (.int r)) z' .ireturn (r = 0 ∨ r = 1)) {N : Nat}  (x0 : Nat) (x1 : Nat) (x2 : Int32) (s0 : Nat) (s1 : Int32) (hx0 : (19, x0) ∈ ids) (hx1 : (14, x1) ∈ ids) (hs0 : (14, s0) ∈ ids) {z : St} {H : Heap} {locs : List Loc} {ls : Array Slot} (hr : zRep D cy B ids A s.heap z H locs) (hl : lv_has ls 3 [(0, .ref (B 19 x0)), (1, .ref (B 14 x1)), (2, .int x2)]) (h : fX19_arrives_72 N x0 x1 x2 s0 s1 z = some (r, z')) : W p l e rmX19_arrives s m args below meth c H locs 0 0 Q (F0 m 72 ls [.int s1, .ref (B 14 s0)]) := by
  unfold fX19_arrives_72 at h
  replace h := zq_some h
  obtain ⟨c2, h⟩ := h
  refine pf19_616 F hs0 hr dX19_arrives_72 s1 c2 (fun H locs z1 ez1 hr => ?_)
  replace h := zl_sub ez1 h
  clear ez1
  refine lv_aload_n F.1 F.2.1 dX19_arrives_75 rfl (lv_at hl 1 rfl) ?_
  refine gf19_353 F hx1 hr dX19_arrives_76 ?_
  refine lv_bipush (v := (10 : Int32)) F.1 F.2.1 dX19_arrives_79 (by decide) ?_
  refine lv_icmp_ne (tgt := 105) F.1 F.2.1 dX19_arrives_81 (by decide) (fun c3 => ?_) (fun c3 => ?_)
  · replace h := zi_t c3 h
    refine lv_iconst (v := (0 : Int32)) F.1 F.2.1 dX19_arrives_105 (by decide) ?_
    obtain ⟨rfl, rfl⟩ := zret h
    exact E _ _ _ _ dX19_arrives_106 (by decide) hr
  · replace h := zi_f (fun q => q c3) h
    refine lv_aload_n F.1 F.2.1 dX19_arrives_84 rfl (lv_at hl 0 rfl) ?_
    refine lv_iload_n F.1 F.2.1 dX19_arrives_85 rfl (lv_at hl 2 rfl) ?_
    refine lv_iconst (v := (2 : Int32)) F.1 F.2.1 dX19_arrives_86 (by decide) ?_
    replace h := zc_some h
    obtain ⟨r4, z5, hc6, h⟩ := h
    refine zr_calli (zrun_V (As := [.int x2, .int (2 : Int32)]) (rest := []) zq_2663 zq_2665 zs_X19_has zq_2666 zq_4 hdX19_has (by decide) (T := TX19) (N := 32) rfl (okX19_has l D cy B ids hst N x0 hx0 x2  (2 : Int32)  hr.2.2 hc6) F hr hx0 hl.1 rfl (by decide) dX19_arrives_87 rfl rfl hroX19_arrives_X19_has ⟨Nat.zero_le _, Nat.zero_le _⟩) F hA hr (fun H locs hw7 hr => ?_)
    clear hc6
    refine lv_if_eq (tgt := 105) F.1 F.2.1 dX19_arrives_90 (by decide) (fun c8 => ?_) (fun c8 => ?_)
    · replace h := zi_t c8 h
      refine lv_iconst (v := (0 : Int32)) F.1 F.2.1 dX19_arrives_105 (by decide) ?_
      obtain ⟨rfl, rfl⟩ := zret h
      exact E _ _ _ _ dX19_arrives_106 (by decide) hr
    · replace h := zi_f c8 h
      refine lv_aload_n F.1 F.2.1 dX19_arrives_93 rfl (lv_at hl 1 rfl) ?_
      refine lv_aload_n F.1 F.2.1 dX19_arrives_94 rfl (lv_at hl 0 rfl) ?_
      refine gf19_143 F hx0 hr dX19_arrives_95 ?_
      refine lv_sipush (v := (2000 : Int32)) F.1 F.2.1 dX19_arrives_98 (by decide) ?_
      refine lv_iadd F.1 F.2.1 dX19_arrives_101 ?_
      refine pf19_628 F hx1 hr dX19_arrives_102 ((zgI z5 19 24 x0) + (2000 : Int32)) (fun H locs z9 ez9 hr => ?_)
      replace h := zl_sub ez9 h
      clear ez9
      refine lv_iconst (v := (0 : Int32)) F.1 F.2.1 dX19_arrives_105 (by decide) ?_
      obtain ⟨rfl, rfl⟩ := zret h
      exact E _ _ _ _ dX19_arrives_106 (by decide) hr
def fX19_arrives_67 (N : Nat)  (x0 : Nat) (x1 : Nat) (x2 : Int32) (s0 : Nat) (z : St) : Option (Int32 × St) := fX19_arrives_72 N x0 x1 x2 s0 (1 : Int32) z
set_option maxHeartbeats 4000000 in
set_option maxRecDepth 100000 in
theorem bX19_arrives_67 (hst : zSt B ids) (F : zFx p m c cX19_arrives 3 s args RX19 D cy B ids A) (hA : ∀ q : Nat, s.heap.size ≤ q → A q) {r : Int32} {z' : St} (E : zEnd p l e rmX19_arrives s m args below meth c cX19_arrives D cy B ids A Q (some (.int r)) z' .ireturn (r = 0 ∨ r = 1)) {N : Nat}  (x0 : Nat) (x1 : Nat) (x2 : Int32) (s0 : Nat) (hx0 : (19, x0) ∈ ids) (hx1 : (14, x1) ∈ ids) (hs0 : (14, s0) ∈ ids) {z : St} {H : Heap} {locs : List Loc} {ls : Array Slot} (hr : zRep D cy B ids A s.heap z H locs) (hl : lv_has ls 3 [(0, .ref (B 19 x0)), (1, .ref (B 14 x1)), (2, .int x2)]) (h : fX19_arrives_67 N x0 x1 x2 s0 z = some (r, z')) : W p l e rmX19_arrives s m args below meth c H locs 0 0 Q (F0 m 67 ls [.ref (B 14 s0)]) := by
  unfold fX19_arrives_67 at h
  refine lv_iconst (v := (1 : Int32)) F.1 F.2.1 dX19_arrives_67 (by decide) ?_
  refine lv_goto (tgt := 72) F.1 F.2.1 dX19_arrives_68 (by decide) ?_
  exact bX19_arrives_72 hst F hA E  x0 x1 x2 s0 (1 : Int32) hx0 hx1 hs0 hr (lv_sub hl [0, 1, 2] rfl) h
def fX19_arrives_187 (N : Nat)  (x0 : Nat) (s0 : Nat) (s1 : Int32) (z : St) : Option (Int32 × St) := zc (fX14_become N s0 s1 (zgI z 19 24 x0) z) fun _ z2 => some ((0 : Int32), z2)
set_option maxHeartbeats 4000000 in
set_option maxRecDepth 100000 in
theorem bX19_arrives_187 (hst : zSt B ids) (F : zFx p m c cX19_arrives 3 s args RX19 D cy B ids A) (hA : ∀ q : Nat, s.heap.size ≤ q → A q) {r : Int32} {z' : St} (E : zEnd p l e rmX19_arrives s m args below meth c cX19_arrives D cy B ids A Q (some (.int r)) z' .ireturn (r = 0 ∨ r = 1)) {N : Nat}  (x0 : Nat) (s0 : Nat) (s1 : Int32) (hx0 : (19, x0) ∈ ids) (hs0 : (14, s0) ∈ ids) {z : St} {H : Heap} {locs : List Loc} {ls : Array Slot} (hr : zRep D cy B ids A s.heap z H locs) (hl : lv_has ls 3 [(0, .ref (B 19 x0))]) (h : fX19_arrives_187 N x0 s0 s1 z = some (r, z')) : W p l e rmX19_arrives s m args below meth c H locs 0 0 Q (F0 m 187 ls [.int s1, .ref (B 14 s0)]) := by
  unfold fX19_arrives_187 at h
  refine lv_aload_n F.1 F.2.1 dX19_arrives_187 rfl (lv_at hl 0 rfl) ?_
  refine gf19_143 F hx0 hr dX19_arrives_188 ?_
  replace h := zc_some h
  obtain ⟨r1, z2, hc3, h⟩ := h
  refine zr_callv (zrun_VN (As := [.int s1, .int (zgI z 19 24 x0)]) (rest := []) zn_2643 zq_2645 zs_X14_become zq_2646 zq_21 hdX14_become (by decide) (T := TX14) (N := 47) rfl (okX14_become l D cy B ids hst N s0 hs0 s1  (zgI z 19 24 x0)  hr.2.2 hc3) F hr hs0 hl.1 rfl (by decide) dX19_arrives_191 rfl rfl hroX19_arrives_X14_become ⟨Nat.zero_le _, Nat.zero_le _⟩) F hA hr (fun H locs hw4 hr => ?_)
  clear hc3
  refine lv_iconst (v := (0 : Int32)) F.1 F.2.1 dX19_arrives_194 (by decide) ?_
  obtain ⟨rfl, rfl⟩ := zret h
  exact E _ _ _ _ dX19_arrives_195 (by decide) hr
def fX19_arrives_181 (N : Nat)  (x0 : Nat) (s0 : Nat) (z : St) : Option (Int32 × St) := fX19_arrives_187 N x0 s0 (0 : Int32) z
set_option maxHeartbeats 4000000 in
set_option maxRecDepth 100000 in
theorem bX19_arrives_181 (hst : zSt B ids) (F : zFx p m c cX19_arrives 3 s args RX19 D cy B ids A) (hA : ∀ q : Nat, s.heap.size ≤ q → A q) {r : Int32} {z' : St} (E : zEnd p l e rmX19_arrives s m args below meth c cX19_arrives D cy B ids A Q (some (.int r)) z' .ireturn (r = 0 ∨ r = 1)) {N : Nat}  (x0 : Nat) (s0 : Nat) (hx0 : (19, x0) ∈ ids) (hs0 : (14, s0) ∈ ids) {z : St} {H : Heap} {locs : List Loc} {ls : Array Slot} (hr : zRep D cy B ids A s.heap z H locs) (hl : lv_has ls 3 [(0, .ref (B 19 x0))]) (h : fX19_arrives_181 N x0 s0 z = some (r, z')) : W p l e rmX19_arrives s m args below meth c H locs 0 0 Q (F0 m 181 ls [.ref (B 14 s0)]) := by
  unfold fX19_arrives_181 at h
  refine lv_iconst (v := (0 : Int32)) F.1 F.2.1 dX19_arrives_181 (by decide) ?_
  refine lv_goto (tgt := 187) F.1 F.2.1 dX19_arrives_182 (by decide) ?_
  exact bX19_arrives_187 hst F hA E  x0 s0 (0 : Int32) hx0 hs0 hr (lv_sub hl [0] rfl) h
def fX19_arrives_153 (N : Nat)  (x0 : Nat) (x1 : Nat) (z : St) : Option (Int32 × St) := if (zgI z 14 0 x1) = (8 : Int32) then (fX19_arrives_181 N x0 x1 z) else (if (zgI z 14 0 x1) = (9 : Int32) then (fX19_arrives_181 N x0 x1 z) else (if ¬ (zgI z 14 0 x1) = (10 : Int32) then (fX19_arrives_187 N x0 x1 (11 : Int32) z) else (fX19_arrives_181 N x0 x1 z)))
set_option maxHeartbeats 4000000 in
set_option maxRecDepth 100000 in
theorem bX19_arrives_153 (hst : zSt B ids) (F : zFx p m c cX19_arrives 3 s args RX19 D cy B ids A) (hA : ∀ q : Nat, s.heap.size ≤ q → A q) {r : Int32} {z' : St} (E : zEnd p l e rmX19_arrives s m args below meth c cX19_arrives D cy B ids A Q (some (.int r)) z' .ireturn (r = 0 ∨ r = 1)) {N : Nat}  (x0 : Nat) (x1 : Nat) (hx0 : (19, x0) ∈ ids) (hx1 : (14, x1) ∈ ids) {z : St} {H : Heap} {locs : List Loc} {ls : Array Slot} (hr : zRep D cy B ids A s.heap z H locs) (hl : lv_has ls 3 [(0, .ref (B 19 x0)), (1, .ref (B 14 x1))]) (h : fX19_arrives_153 N x0 x1 z = some (r, z')) : W p l e rmX19_arrives s m args below meth c H locs 0 0 Q (F0 m 153 ls []) := by
  unfold fX19_arrives_153 at h
  refine lv_aload_n F.1 F.2.1 dX19_arrives_153 rfl (lv_at hl 1 rfl) ?_
  refine lv_aload_n F.1 F.2.1 dX19_arrives_154 rfl (lv_at hl 1 rfl) ?_
  refine gf19_353 F hx1 hr dX19_arrives_155 ?_
  refine lv_bipush (v := (8 : Int32)) F.1 F.2.1 dX19_arrives_158 (by decide) ?_
  refine lv_icmp_eq (tgt := 181) F.1 F.2.1 dX19_arrives_160 (by decide) (fun c1 => ?_) (fun c1 => ?_)
  · replace h := zi_t c1 h
    exact bX19_arrives_181 hst F hA E  x0 x1 hx0 hx1 hr (lv_sub hl [0] rfl) h
  · replace h := zi_f c1 h
    refine lv_aload_n F.1 F.2.1 dX19_arrives_163 rfl (lv_at hl 1 rfl) ?_
    refine gf19_353 F hx1 hr dX19_arrives_164 ?_
    refine lv_bipush (v := (9 : Int32)) F.1 F.2.1 dX19_arrives_167 (by decide) ?_
    refine lv_icmp_eq (tgt := 181) F.1 F.2.1 dX19_arrives_169 (by decide) (fun c2 => ?_) (fun c2 => ?_)
    · replace h := zi_t c2 h
      exact bX19_arrives_181 hst F hA E  x0 x1 hx0 hx1 hr (lv_sub hl [0] rfl) h
    · replace h := zi_f c2 h
      refine lv_aload_n F.1 F.2.1 dX19_arrives_172 rfl (lv_at hl 1 rfl) ?_
      refine gf19_353 F hx1 hr dX19_arrives_173 ?_
      refine lv_bipush (v := (10 : Int32)) F.1 F.2.1 dX19_arrives_176 (by decide) ?_
      refine lv_icmp_ne (tgt := 185) F.1 F.2.1 dX19_arrives_178 (by decide) (fun c3 => ?_) (fun c3 => ?_)
      · replace h := zi_t c3 h
        refine lv_bipush (v := (11 : Int32)) F.1 F.2.1 dX19_arrives_185 (by decide) ?_
        exact bX19_arrives_187 hst F hA E  x0 x1 (11 : Int32) hx0 hx1 hr (lv_sub hl [0] rfl) h
      · replace h := zi_f (fun q => q c3) h
        exact bX19_arrives_181 hst F hA E  x0 x1 hx0 hx1 hr (lv_sub hl [0] rfl) h
def fX19_arrives_300 (N : Nat)  (x0 : Nat) (x1 : Nat) (x2 : Int32) (z : St) : Option (Int32 × St) := zc (fX19_arriveThanks N x0 x1 x2 z) fun _ z2 => if (zgI z2 14 0 x1) = 0 then (some ((0 : Int32), z2)) else (zc (fX19_arriveBytes N x0 x1 x2 z2) fun _ z7 => some ((0 : Int32), z7))
set_option maxHeartbeats 4000000 in
set_option maxRecDepth 100000 in
theorem bX19_arrives_300 (hst : zSt B ids) (F : zFx p m c cX19_arrives 3 s args RX19 D cy B ids A) (hA : ∀ q : Nat, s.heap.size ≤ q → A q) {r : Int32} {z' : St} (E : zEnd p l e rmX19_arrives s m args below meth c cX19_arrives D cy B ids A Q (some (.int r)) z' .ireturn (r = 0 ∨ r = 1)) {N : Nat}  (x0 : Nat) (x1 : Nat) (x2 : Int32) (hx0 : (19, x0) ∈ ids) (hx1 : (14, x1) ∈ ids) {z : St} {H : Heap} {locs : List Loc} {ls : Array Slot} (hr : zRep D cy B ids A s.heap z H locs) (hl : lv_has ls 3 [(0, .ref (B 19 x0)), (1, .ref (B 14 x1)), (2, .int x2)]) (h : fX19_arrives_300 N x0 x1 x2 z = some (r, z')) : W p l e rmX19_arrives s m args below meth c H locs 0 0 Q (F0 m 300 ls []) := by
  unfold fX19_arrives_300 at h
  refine lv_aload_n F.1 F.2.1 dX19_arrives_300 rfl (lv_at hl 0 rfl) ?_
  refine lv_aload_n F.1 F.2.1 dX19_arrives_301 rfl (lv_at hl 1 rfl) ?_
  refine lv_iload_n F.1 F.2.1 dX19_arrives_302 rfl (lv_at hl 2 rfl) ?_
  replace h := zc_some h
  obtain ⟨r1, z2, hc3, h⟩ := h
  refine zr_callv (zrun_V (As := [.ref (B 14 x1), .int x2]) (rest := []) zq_2715 zq_2717 zs_X19_arriveThanks zq_2718 zq_4 hdX19_arriveThanks (by decide) (T := TX19) (N := 32) rfl (okX19_arriveThanks l D cy B ids hst N x0 hx0 x1 hx1 x2  hr.2.2 hc3) F hr hx0 hl.1 rfl (by decide) dX19_arrives_303 rfl rfl hroX19_arrives_X19_arriveThanks ⟨Nat.zero_le _, Nat.zero_le _⟩) F hA hr (fun H locs hw4 hr => ?_)
  clear hc3
  refine lv_aload_n F.1 F.2.1 dX19_arrives_306 rfl (lv_at hl 1 rfl) ?_
  refine gf19_353 F hx1 hr dX19_arrives_307 ?_
  refine lv_if_eq (tgt := 319) F.1 F.2.1 dX19_arrives_310 (by decide) (fun c5 => ?_) (fun c5 => ?_)
  · replace h := zi_t c5 h
    refine lv_iconst (v := (0 : Int32)) F.1 F.2.1 dX19_arrives_319 (by decide) ?_
    obtain ⟨rfl, rfl⟩ := zret h
    exact E _ _ _ _ dX19_arrives_320 (by decide) hr
  · replace h := zi_f c5 h
    refine lv_aload_n F.1 F.2.1 dX19_arrives_313 rfl (lv_at hl 0 rfl) ?_
    refine lv_aload_n F.1 F.2.1 dX19_arrives_314 rfl (lv_at hl 1 rfl) ?_
    refine lv_iload_n F.1 F.2.1 dX19_arrives_315 rfl (lv_at hl 2 rfl) ?_
    replace h := zc_some h
    obtain ⟨r6, z7, hc8, h⟩ := h
    refine zr_callv (zrun_V (As := [.ref (B 14 x1), .int x2]) (rest := []) zq_2719 zq_2721 zs_X19_arriveBytes zq_2722 zq_4 hdX19_arriveBytes (by decide) (T := TX19) (N := 32) rfl (okX19_arriveBytes l D cy B ids hst N x0 hx0 x1 hx1 x2  hr.2.2 hc8) F hr hx0 hl.1 rfl (by decide) dX19_arrives_316 rfl rfl hroX19_arrives_X19_arriveBytes ⟨Nat.zero_le _, Nat.zero_le _⟩) F hA hr (fun H locs hw9 hr => ?_)
    clear hc8
    refine lv_iconst (v := (0 : Int32)) F.1 F.2.1 dX19_arrives_319 (by decide) ?_
    obtain ⟨rfl, rfl⟩ := zret h
    exact E _ _ _ _ dX19_arrives_320 (by decide) hr
def fX19_arrives_266 (N : Nat)  (x0 : Nat) (x1 : Nat) (x2 : Int32) (s0 : Nat) (s1 : Int32) (z : St) : Option (Int32 × St) := zl (zsI z 14 0 s0 s1) fun z1 => zl (zsI z1 14 28 x1 (0 : Int32)) fun z2 => fX19_arrives_300 N x0 x1 x2 z2
set_option maxHeartbeats 4000000 in
set_option maxRecDepth 100000 in
theorem bX19_arrives_266 (hst : zSt B ids) (F : zFx p m c cX19_arrives 3 s args RX19 D cy B ids A) (hA : ∀ q : Nat, s.heap.size ≤ q → A q) {r : Int32} {z' : St} (E : zEnd p l e rmX19_arrives s m args below meth c cX19_arrives D cy B ids A Q (some (.int r)) z' .ireturn (r = 0 ∨ r = 1)) {N : Nat}  (x0 : Nat) (x1 : Nat) (x2 : Int32) (s0 : Nat) (s1 : Int32) (hx0 : (19, x0) ∈ ids) (hx1 : (14, x1) ∈ ids) (hs0 : (14, s0) ∈ ids) {z : St} {H : Heap} {locs : List Loc} {ls : Array Slot} (hr : zRep D cy B ids A s.heap z H locs) (hl : lv_has ls 3 [(0, .ref (B 19 x0)), (1, .ref (B 14 x1)), (2, .int x2)]) (h : fX19_arrives_266 N x0 x1 x2 s0 s1 z = some (r, z')) : W p l e rmX19_arrives s m args below meth c H locs 0 0 Q (F0 m 266 ls [.int s1, .ref (B 14 s0)]) := by
  unfold fX19_arrives_266 at h
  refine pf19_353 F hs0 hr dX19_arrives_266 s1 (fun H locs z1 ez1 hr => ?_)
  replace h := zl_sub ez1 h
  clear ez1
  refine lv_aload_n F.1 F.2.1 dX19_arrives_269 rfl (lv_at hl 1 rfl) ?_
  refine lv_iconst (v := (0 : Int32)) F.1 F.2.1 dX19_arrives_270 (by decide) ?_
  refine pf19_613 F hx1 hr dX19_arrives_271 (0 : Int32) (by decide) (fun H locs z2 ez2 hr => ?_)
  replace h := zl_sub ez2 h
  clear ez2
  refine lv_goto (tgt := 300) F.1 F.2.1 dX19_arrives_274 (by decide) ?_
  exact bX19_arrives_300 hst F hA E  x0 x1 x2 hx0 hx1 hr (lv_sub hl [0, 1, 2] rfl) h
def fX19_arrives (N : Nat)  (x0 : Nat) (x1 : Nat) (x2 : Int32) (z : St) : Option (Int32 × St) := if ¬ (zgI z 14 0 x1) = (1 : Int32) then (if ¬ (zgI z 14 0 x1) = (2 : Int32) then (zc (fX19_seg N x0 x2 (3 : Int32) z) fun r3 z4 => zc (fX19_sizeOf N x0 x2 z4) fun r7 z8 => zc (fX14_fits N x1 r3 r7 z8) fun r11 z12 => if ¬ r11 = 0 then (zc (fX19_has N x0 x2 (4 : Int32) z12) fun r16 z17 => if r16 = 0 then (zc (fX19_has N x0 x2 (1 : Int32) z17) fun r21 z22 => if r21 = 0 then (zc (fX19_has N x0 x2 (8 : Int32) z22) fun r26 z27 => if ¬ r26 = 0 then (if ¬ (zgI z27 14 0 x1) = (3 : Int32) then (zc (fX19_seg N x0 x2 (4 : Int32) z27) fun r32 z33 => zc (fX19_isBefore N (zgI z27 14 7 x1) r32 z33) fun r36 z37 => if r36 = 0 then (fX19_arrives_300 N x0 x1 x2 z37) else (zl (zsI z37 14 32 x1 (1 : Int32)) fun z41 => some ((0 : Int32), z41))) else (zc (fX19_seg N x0 x2 (4 : Int32) z27) fun r42 z43 => if r42 = (zgI z43 14 7 x1) then (if (zgI z43 14 9 x1) = 0 then (fX19_arrives_266 N x0 x1 x2 x1 (4 : Int32) z43) else (fX19_arrives_266 N x0 x1 x2 x1 (5 : Int32) z43)) else (zc (fX19_answer N x0 x1 x2 z43) fun _ z49 => some ((0 : Int32), z49)))) else (some ((0 : Int32), z27))) else (zl (zsI z22 14 32 x1 (1 : Int32)) fun z52 => some ((0 : Int32), z52))) else (zc (fX19_seg N x0 x2 (3 : Int32) z17) fun r53 z54 => if r53 = (zgI z54 14 16 x1) then (if ¬ (zgI z54 14 0 x1) = (3 : Int32) then (fX19_arrives_153 N x0 x1 z54) else (if (zgI z54 14 1 x1) = 0 then (fX19_arrives_153 N x0 x1 z54) else (some ((1 : Int32), z54)))) else (zl (zsI z54 14 32 x1 (1 : Int32)) fun z60 => some ((0 : Int32), z60)))) else (if ¬ (zgI z12 14 32 x1) = 0 then (fX19_arrives_67 N x0 x1 x2 x1 z12) else (zc (fX19_has N x0 x2 (4 : Int32) z12) fun r62 z63 => if ¬ r62 = 0 then (fX19_arrives_72 N x0 x1 x2 x1 (0 : Int32) z63) else (fX19_arrives_67 N x0 x1 x2 x1 z63)))) else (zc (fX19_arriveAsking N x0 x1 x2 z) fun _ z68 => some ((0 : Int32), z68))) else (zc (fX19_arriveListening N x0 x1 x2 z) fun _ z72 => some ((0 : Int32), z72))
set_option maxHeartbeats 4000000 in
set_option maxRecDepth 100000 in
theorem bX19_arrives_0 (hst : zSt B ids) (F : zFx p m c cX19_arrives 3 s args RX19 D cy B ids A) (hA : ∀ q : Nat, s.heap.size ≤ q → A q) {r : Int32} {z' : St} (E : zEnd p l e rmX19_arrives s m args below meth c cX19_arrives D cy B ids A Q (some (.int r)) z' .ireturn (r = 0 ∨ r = 1)) {N : Nat}  (x0 : Nat) (x1 : Nat) (x2 : Int32) (hx0 : (19, x0) ∈ ids) (hx1 : (14, x1) ∈ ids) {z : St} {H : Heap} {locs : List Loc} {ls : Array Slot} (hr : zRep D cy B ids A s.heap z H locs) (hl : lv_has ls 3 [(0, .ref (B 19 x0)), (1, .ref (B 14 x1)), (2, .int x2)]) (h : fX19_arrives N x0 x1 x2 z = some (r, z')) : W p l e rmX19_arrives s m args below meth c H locs 0 0 Q (F0 m 0 ls []) := by
  unfold fX19_arrives at h
  refine lv_aload_n F.1 F.2.1 dX19_arrives_0 rfl (lv_at hl 1 rfl) ?_
  refine gf19_353 F hx1 hr dX19_arrives_1 ?_
  refine lv_iconst (v := (1 : Int32)) F.1 F.2.1 dX19_arrives_4 (by decide) ?_
  refine lv_icmp_ne (tgt := 16) F.1 F.2.1 dX19_arrives_5 (by decide) (fun c1 => ?_) (fun c1 => ?_)
  · replace h := zi_t c1 h
    refine lv_aload_n F.1 F.2.1 dX19_arrives_16 rfl (lv_at hl 1 rfl) ?_
    refine gf19_353 F hx1 hr dX19_arrives_17 ?_
    refine lv_iconst (v := (2 : Int32)) F.1 F.2.1 dX19_arrives_20 (by decide) ?_
    refine lv_icmp_ne (tgt := 32) F.1 F.2.1 dX19_arrives_21 (by decide) (fun c2 => ?_) (fun c2 => ?_)
    · replace h := zi_t c2 h
      refine lv_aload_n F.1 F.2.1 dX19_arrives_32 rfl (lv_at hl 1 rfl) ?_
      refine lv_aload_n F.1 F.2.1 dX19_arrives_33 rfl (lv_at hl 0 rfl) ?_
      refine lv_iload_n F.1 F.2.1 dX19_arrives_34 rfl (lv_at hl 2 rfl) ?_
      refine lv_iconst (v := (3 : Int32)) F.1 F.2.1 dX19_arrives_35 (by decide) ?_
      replace h := zc_some h
      obtain ⟨r3, z4, hc5, h⟩ := h
      refine zr_calli (zrun_V (As := [.int x2, .int (3 : Int32)]) (rest := [.ref (B 14 x1)]) zq_2557 zq_2559 zs_X19_seg zq_2560 zq_4 hdX19_seg (by decide) (T := TX19) (N := 32) rfl (okX19_seg l D cy B ids hst N x0 hx0 x2  (3 : Int32)  hr.2.2 hc5) F hr hx0 hl.1 rfl (Nat.le_of_ble_eq_true rfl) dX19_arrives_36 rfl rfl hroX19_arrives_X19_seg ⟨Nat.zero_le _, Nat.zero_le _⟩) F hA hr (fun H locs hw6 hr => ?_)
      clear hc5
      refine lv_aload_n F.1 F.2.1 dX19_arrives_39 rfl (lv_at hl 0 rfl) ?_
      refine lv_iload_n F.1 F.2.1 dX19_arrives_40 rfl (lv_at hl 2 rfl) ?_
      replace h := zc_some h
      obtain ⟨r7, z8, hc9, h⟩ := h
      refine zr_calli (zrun_V (As := [.int x2]) (rest := [.int r3, .ref (B 14 x1)]) zq_2675 zq_2677 zs_X19_sizeOf zq_2678 zq_4 hdX19_sizeOf (by decide) (T := TX19) (N := 32) rfl (okX19_sizeOf l D cy B ids hst N x0 hx0 x2  hr.2.2 hc9) F hr hx0 hl.1 rfl (Nat.le_of_ble_eq_true rfl) dX19_arrives_41 rfl rfl hroX19_arrives_X19_sizeOf ⟨Nat.zero_le _, Nat.zero_le _⟩) F hA hr (fun H locs hw10 hr => ?_)
      clear hc9
      replace h := zc_some h
      obtain ⟨r11, z12, hc13, h⟩ := h
      refine zr_calli (zrun_VN (As := [.int r3, .int r7]) (rest := []) zn_2702 zq_2704 zs_X14_fits zq_2705 zq_21 hdX14_fits (by decide) (T := TX14) (N := 47) rfl (okX14_fits l D cy B ids hst N x1 hx1 r3  r7  hr.2.2 hc13) F hr hx1 hl.1 rfl (by decide) dX19_arrives_44 rfl rfl hroX19_arrives_X14_fits ⟨Nat.zero_le _, Nat.zero_le _⟩) F hA hr (fun H locs hw14 hr => ?_)
      clear hc13
      refine lv_if_ne (tgt := 107) F.1 F.2.1 dX19_arrives_47 (by decide) (fun c15 => ?_) (fun c15 => ?_)
      · replace h := zi_t c15 h
        refine lv_aload_n F.1 F.2.1 dX19_arrives_107 rfl (lv_at hl 0 rfl) ?_
        refine lv_iload_n F.1 F.2.1 dX19_arrives_108 rfl (lv_at hl 2 rfl) ?_
        refine lv_iconst (v := (4 : Int32)) F.1 F.2.1 dX19_arrives_109 (by decide) ?_
        replace h := zc_some h
        obtain ⟨r16, z17, hc18, h⟩ := h
        refine zr_calli (zrun_V (As := [.int x2, .int (4 : Int32)]) (rest := []) zq_2663 zq_2665 zs_X19_has zq_2666 zq_4 hdX19_has (by decide) (T := TX19) (N := 32) rfl (okX19_has l D cy B ids hst N x0 hx0 x2  (4 : Int32)  hr.2.2 hc18) F hr hx0 hl.1 rfl (by decide) dX19_arrives_110 rfl rfl hroX19_arrives_X19_has ⟨Nat.zero_le _, Nat.zero_le _⟩) F hA hr (fun H locs hw19 hr => ?_)
        clear hc18
        refine lv_if_eq (tgt := 196) F.1 F.2.1 dX19_arrives_113 (by decide) (fun c20 => ?_) (fun c20 => ?_)
        · replace h := zi_t c20 h
          refine lv_aload_n F.1 F.2.1 dX19_arrives_196 rfl (lv_at hl 0 rfl) ?_
          refine lv_iload_n F.1 F.2.1 dX19_arrives_197 rfl (lv_at hl 2 rfl) ?_
          refine lv_iconst (v := (1 : Int32)) F.1 F.2.1 dX19_arrives_198 (by decide) ?_
          replace h := zc_some h
          obtain ⟨r21, z22, hc23, h⟩ := h
          refine zr_calli (zrun_V (As := [.int x2, .int (1 : Int32)]) (rest := []) zq_2663 zq_2665 zs_X19_has zq_2666 zq_4 hdX19_has (by decide) (T := TX19) (N := 32) rfl (okX19_has l D cy B ids hst N x0 hx0 x2  (1 : Int32)  hr.2.2 hc23) F hr hx0 hl.1 rfl (by decide) dX19_arrives_199 rfl rfl hroX19_arrives_X19_has ⟨Nat.zero_le _, Nat.zero_le _⟩) F hA hr (fun H locs hw24 hr => ?_)
          clear hc23
          refine lv_if_eq (tgt := 212) F.1 F.2.1 dX19_arrives_202 (by decide) (fun c25 => ?_) (fun c25 => ?_)
          · replace h := zi_t c25 h
            refine lv_aload_n F.1 F.2.1 dX19_arrives_212 rfl (lv_at hl 0 rfl) ?_
            refine lv_iload_n F.1 F.2.1 dX19_arrives_213 rfl (lv_at hl 2 rfl) ?_
            refine lv_bipush (v := (8 : Int32)) F.1 F.2.1 dX19_arrives_214 (by decide) ?_
            replace h := zc_some h
            obtain ⟨r26, z27, hc28, h⟩ := h
            refine zr_calli (zrun_V (As := [.int x2, .int (8 : Int32)]) (rest := []) zq_2663 zq_2665 zs_X19_has zq_2666 zq_4 hdX19_has (by decide) (T := TX19) (N := 32) rfl (okX19_has l D cy B ids hst N x0 hx0 x2  (8 : Int32)  hr.2.2 hc28) F hr hx0 hl.1 rfl (by decide) dX19_arrives_216 rfl rfl hroX19_arrives_X19_has ⟨Nat.zero_le _, Nat.zero_le _⟩) F hA hr (fun H locs hw29 hr => ?_)
            clear hc28
            refine lv_if_ne (tgt := 224) F.1 F.2.1 dX19_arrives_219 (by decide) (fun c30 => ?_) (fun c30 => ?_)
            · replace h := zi_t c30 h
              refine lv_aload_n F.1 F.2.1 dX19_arrives_224 rfl (lv_at hl 1 rfl) ?_
              refine gf19_353 F hx1 hr dX19_arrives_225 ?_
              refine lv_iconst (v := (3 : Int32)) F.1 F.2.1 dX19_arrives_228 (by decide) ?_
              refine lv_icmp_ne (tgt := 277) F.1 F.2.1 dX19_arrives_229 (by decide) (fun c31 => ?_) (fun c31 => ?_)
              · replace h := zi_t c31 h
                refine lv_aload_n F.1 F.2.1 dX19_arrives_277 rfl (lv_at hl 1 rfl) ?_
                refine gf19_600 F hx1 hr dX19_arrives_278 ?_
                refine lv_aload_n F.1 F.2.1 dX19_arrives_281 rfl (lv_at hl 0 rfl) ?_
                refine lv_iload_n F.1 F.2.1 dX19_arrives_282 rfl (lv_at hl 2 rfl) ?_
                refine lv_iconst (v := (4 : Int32)) F.1 F.2.1 dX19_arrives_283 (by decide) ?_
                replace h := zc_some h
                obtain ⟨r32, z33, hc34, h⟩ := h
                refine zr_calli (zrun_V (As := [.int x2, .int (4 : Int32)]) (rest := [.int (zgI z27 14 7 x1)]) zq_2557 zq_2559 zs_X19_seg zq_2560 zq_4 hdX19_seg (by decide) (T := TX19) (N := 32) rfl (okX19_seg l D cy B ids hst N x0 hx0 x2  (4 : Int32)  hr.2.2 hc34) F hr hx0 hl.1 rfl (Nat.le_of_ble_eq_true rfl) dX19_arrives_284 rfl rfl hroX19_arrives_X19_seg ⟨Nat.zero_le _, Nat.zero_le _⟩) F hA hr (fun H locs hw35 hr => ?_)
                clear hc34
                replace h := zc_some h
                obtain ⟨r36, z37, hc38, h⟩ := h
                refine zr_calli (zrun_S (As := [.int (zgI z27 14 7 x1), .int r32]) (rest := []) zq_2714 zq_2692 zq_2693 zq_4 hdX19_isBefore (okX19_isBefore l D cy B ids hst N (zgI z27 14 7 x1)  r32  hr.2.2 hc38) F hr hl.1 rfl (by decide) dX19_arrives_287 rfl rfl hroX19_arrives_X19_isBefore ⟨Nat.zero_le _, Nat.zero_le _⟩) F hA hr (fun H locs hw39 hr => ?_)
                clear hc38
                refine lv_if_eq (tgt := 300) F.1 F.2.1 dX19_arrives_290 (by decide) (fun c40 => ?_) (fun c40 => ?_)
                · replace h := zi_t c40 h
                  exact bX19_arrives_300 hst F hA E  x0 x1 x2 hx0 hx1 hr (lv_sub hl [0, 1, 2] rfl) h
                · replace h := zi_f c40 h
                  refine lv_aload_n F.1 F.2.1 dX19_arrives_293 rfl (lv_at hl 1 rfl) ?_
                  refine lv_iconst (v := (1 : Int32)) F.1 F.2.1 dX19_arrives_294 (by decide) ?_
                  refine pf19_616 F hx1 hr dX19_arrives_295 (1 : Int32) (by decide) (fun H locs z41 ez41 hr => ?_)
                  replace h := zl_sub ez41 h
                  clear ez41
                  refine lv_iconst (v := (0 : Int32)) F.1 F.2.1 dX19_arrives_298 (by decide) ?_
                  obtain ⟨rfl, rfl⟩ := zret h
                  exact E _ _ _ _ dX19_arrives_299 (by decide) hr
              · replace h := zi_f (fun q => q c31) h
                refine lv_aload_n F.1 F.2.1 dX19_arrives_232 rfl (lv_at hl 0 rfl) ?_
                refine lv_iload_n F.1 F.2.1 dX19_arrives_233 rfl (lv_at hl 2 rfl) ?_
                refine lv_iconst (v := (4 : Int32)) F.1 F.2.1 dX19_arrives_234 (by decide) ?_
                replace h := zc_some h
                obtain ⟨r42, z43, hc44, h⟩ := h
                refine zr_calli (zrun_V (As := [.int x2, .int (4 : Int32)]) (rest := []) zq_2557 zq_2559 zs_X19_seg zq_2560 zq_4 hdX19_seg (by decide) (T := TX19) (N := 32) rfl (okX19_seg l D cy B ids hst N x0 hx0 x2  (4 : Int32)  hr.2.2 hc44) F hr hx0 hl.1 rfl (by decide) dX19_arrives_235 rfl rfl hroX19_arrives_X19_seg ⟨Nat.zero_le _, Nat.zero_le _⟩) F hA hr (fun H locs hw45 hr => ?_)
                clear hc44
                refine lv_aload_n F.1 F.2.1 dX19_arrives_238 rfl (lv_at hl 1 rfl) ?_
                refine gf19_600 F hx1 hr dX19_arrives_239 ?_
                refine lv_icmp_eq (tgt := 253) F.1 F.2.1 dX19_arrives_242 (by decide) (fun c46 => ?_) (fun c46 => ?_)
                · replace h := zi_t c46 h
                  refine lv_aload_n F.1 F.2.1 dX19_arrives_253 rfl (lv_at hl 1 rfl) ?_
                  refine lv_aload_n F.1 F.2.1 dX19_arrives_254 rfl (lv_at hl 1 rfl) ?_
                  refine gf19_634 F hx1 hr dX19_arrives_255 ?_
                  refine lv_if_eq (tgt := 265) F.1 F.2.1 dX19_arrives_258 (by decide) (fun c47 => ?_) (fun c47 => ?_)
                  · replace h := zi_t c47 h
                    refine lv_iconst (v := (4 : Int32)) F.1 F.2.1 dX19_arrives_265 (by decide) ?_
                    exact bX19_arrives_266 hst F hA E  x0 x1 x2 x1 (4 : Int32) hx0 hx1 hx1 hr (lv_sub hl [0, 1, 2] rfl) h
                  · replace h := zi_f c47 h
                    refine lv_iconst (v := (5 : Int32)) F.1 F.2.1 dX19_arrives_261 (by decide) ?_
                    refine lv_goto (tgt := 266) F.1 F.2.1 dX19_arrives_262 (by decide) ?_
                    exact bX19_arrives_266 hst F hA E  x0 x1 x2 x1 (5 : Int32) hx0 hx1 hx1 hr (lv_sub hl [0, 1, 2] rfl) h
                · replace h := zi_f c46 h
                  refine lv_aload_n F.1 F.2.1 dX19_arrives_245 rfl (lv_at hl 0 rfl) ?_
                  refine lv_aload_n F.1 F.2.1 dX19_arrives_246 rfl (lv_at hl 1 rfl) ?_
                  refine lv_iload_n F.1 F.2.1 dX19_arrives_247 rfl (lv_at hl 2 rfl) ?_
                  replace h := zc_some h
                  obtain ⟨r48, z49, hc50, h⟩ := h
                  refine zr_callv (zrun_V (As := [.ref (B 14 x1), .int x2]) (rest := []) zq_2667 zq_2669 zs_X19_answer zq_2670 zq_4 hdX19_answer (by decide) (T := TX19) (N := 32) rfl (okX19_answer l D cy B ids hst N x0 hx0 x1 hx1 x2  hr.2.2 hc50) F hr hx0 hl.1 rfl (by decide) dX19_arrives_248 rfl rfl hroX19_arrives_X19_answer ⟨Nat.zero_le _, Nat.zero_le _⟩) F hA hr (fun H locs hw51 hr => ?_)
                  clear hc50
                  refine lv_iconst (v := (0 : Int32)) F.1 F.2.1 dX19_arrives_251 (by decide) ?_
                  obtain ⟨rfl, rfl⟩ := zret h
                  exact E _ _ _ _ dX19_arrives_252 (by decide) hr
            · replace h := zi_f (fun q => q c30) h
              refine lv_iconst (v := (0 : Int32)) F.1 F.2.1 dX19_arrives_222 (by decide) ?_
              obtain ⟨rfl, rfl⟩ := zret h
              exact E _ _ _ _ dX19_arrives_223 (by decide) hr
          · replace h := zi_f c25 h
            refine lv_aload_n F.1 F.2.1 dX19_arrives_205 rfl (lv_at hl 1 rfl) ?_
            refine lv_iconst (v := (1 : Int32)) F.1 F.2.1 dX19_arrives_206 (by decide) ?_
            refine pf19_616 F hx1 hr dX19_arrives_207 (1 : Int32) (by decide) (fun H locs z52 ez52 hr => ?_)
            replace h := zl_sub ez52 h
            clear ez52
            refine lv_iconst (v := (0 : Int32)) F.1 F.2.1 dX19_arrives_210 (by decide) ?_
            obtain ⟨rfl, rfl⟩ := zret h
            exact E _ _ _ _ dX19_arrives_211 (by decide) hr
        · replace h := zi_f c20 h
          refine lv_aload_n F.1 F.2.1 dX19_arrives_116 rfl (lv_at hl 0 rfl) ?_
          refine lv_iload_n F.1 F.2.1 dX19_arrives_117 rfl (lv_at hl 2 rfl) ?_
          refine lv_iconst (v := (3 : Int32)) F.1 F.2.1 dX19_arrives_118 (by decide) ?_
          replace h := zc_some h
          obtain ⟨r53, z54, hc55, h⟩ := h
          refine zr_calli (zrun_V (As := [.int x2, .int (3 : Int32)]) (rest := []) zq_2557 zq_2559 zs_X19_seg zq_2560 zq_4 hdX19_seg (by decide) (T := TX19) (N := 32) rfl (okX19_seg l D cy B ids hst N x0 hx0 x2  (3 : Int32)  hr.2.2 hc55) F hr hx0 hl.1 rfl (by decide) dX19_arrives_119 rfl rfl hroX19_arrives_X19_seg ⟨Nat.zero_le _, Nat.zero_le _⟩) F hA hr (fun H locs hw56 hr => ?_)
          clear hc55
          refine lv_aload_n F.1 F.2.1 dX19_arrives_122 rfl (lv_at hl 1 rfl) ?_
          refine gf19_570 F hx1 hr dX19_arrives_123 ?_
          refine lv_icmp_eq (tgt := 136) F.1 F.2.1 dX19_arrives_126 (by decide) (fun c57 => ?_) (fun c57 => ?_)
          · replace h := zi_t c57 h
            refine lv_aload_n F.1 F.2.1 dX19_arrives_136 rfl (lv_at hl 1 rfl) ?_
            refine gf19_353 F hx1 hr dX19_arrives_137 ?_
            refine lv_iconst (v := (3 : Int32)) F.1 F.2.1 dX19_arrives_140 (by decide) ?_
            refine lv_icmp_ne (tgt := 153) F.1 F.2.1 dX19_arrives_141 (by decide) (fun c58 => ?_) (fun c58 => ?_)
            · replace h := zi_t c58 h
              exact bX19_arrives_153 hst F hA E  x0 x1 hx0 hx1 hr (lv_sub hl [0, 1] rfl) h
            · replace h := zi_f (fun q => q c58) h
              refine lv_aload_n F.1 F.2.1 dX19_arrives_144 rfl (lv_at hl 1 rfl) ?_
              refine gf19_631 F hx1 hr dX19_arrives_145 ?_
              refine lv_if_eq (tgt := 153) F.1 F.2.1 dX19_arrives_148 (by decide) (fun c59 => ?_) (fun c59 => ?_)
              · replace h := zi_t c59 h
                exact bX19_arrives_153 hst F hA E  x0 x1 hx0 hx1 hr (lv_sub hl [0, 1] rfl) h
              · replace h := zi_f c59 h
                refine lv_iconst (v := (1 : Int32)) F.1 F.2.1 dX19_arrives_151 (by decide) ?_
                obtain ⟨rfl, rfl⟩ := zret h
                exact E _ _ _ _ dX19_arrives_152 (by decide) hr
          · replace h := zi_f c57 h
            refine lv_aload_n F.1 F.2.1 dX19_arrives_129 rfl (lv_at hl 1 rfl) ?_
            refine lv_iconst (v := (1 : Int32)) F.1 F.2.1 dX19_arrives_130 (by decide) ?_
            refine pf19_616 F hx1 hr dX19_arrives_131 (1 : Int32) (by decide) (fun H locs z60 ez60 hr => ?_)
            replace h := zl_sub ez60 h
            clear ez60
            refine lv_iconst (v := (0 : Int32)) F.1 F.2.1 dX19_arrives_134 (by decide) ?_
            obtain ⟨rfl, rfl⟩ := zret h
            exact E _ _ _ _ dX19_arrives_135 (by decide) hr
      · replace h := zi_f (fun q => q c15) h
        refine lv_aload_n F.1 F.2.1 dX19_arrives_50 rfl (lv_at hl 1 rfl) ?_
        refine lv_aload_n F.1 F.2.1 dX19_arrives_51 rfl (lv_at hl 1 rfl) ?_
        refine gf19_616 F hx1 hr dX19_arrives_52 ?_
        refine lv_if_ne (tgt := 67) F.1 F.2.1 dX19_arrives_55 (by decide) (fun c61 => ?_) (fun c61 => ?_)
        · replace h := zi_t c61 h
          exact bX19_arrives_67 hst F hA E  x0 x1 x2 x1 hx0 hx1 hx1 hr (lv_sub hl [0, 1, 2] rfl) h
        · replace h := zi_f (fun q => q c61) h
          refine lv_aload_n F.1 F.2.1 dX19_arrives_58 rfl (lv_at hl 0 rfl) ?_
          refine lv_iload_n F.1 F.2.1 dX19_arrives_59 rfl (lv_at hl 2 rfl) ?_
          refine lv_iconst (v := (4 : Int32)) F.1 F.2.1 dX19_arrives_60 (by decide) ?_
          replace h := zc_some h
          obtain ⟨r62, z63, hc64, h⟩ := h
          refine zr_calli (zrun_V (As := [.int x2, .int (4 : Int32)]) (rest := [.ref (B 14 x1)]) zq_2663 zq_2665 zs_X19_has zq_2666 zq_4 hdX19_has (by decide) (T := TX19) (N := 32) rfl (okX19_has l D cy B ids hst N x0 hx0 x2  (4 : Int32)  hr.2.2 hc64) F hr hx0 hl.1 rfl (Nat.le_of_ble_eq_true rfl) dX19_arrives_61 rfl rfl hroX19_arrives_X19_has ⟨Nat.zero_le _, Nat.zero_le _⟩) F hA hr (fun H locs hw65 hr => ?_)
          clear hc64
          refine lv_if_ne (tgt := 71) F.1 F.2.1 dX19_arrives_64 (by decide) (fun c66 => ?_) (fun c66 => ?_)
          · replace h := zi_t c66 h
            refine lv_iconst (v := (0 : Int32)) F.1 F.2.1 dX19_arrives_71 (by decide) ?_
            exact bX19_arrives_72 hst F hA E  x0 x1 x2 x1 (0 : Int32) hx0 hx1 hx1 hr (lv_sub hl [0, 1, 2] rfl) h
          · replace h := zi_f (fun q => q c66) h
            exact bX19_arrives_67 hst F hA E  x0 x1 x2 x1 hx0 hx1 hx1 hr (lv_sub hl [0, 1, 2] rfl) h
    · replace h := zi_f (fun q => q c2) h
      refine lv_aload_n F.1 F.2.1 dX19_arrives_24 rfl (lv_at hl 0 rfl) ?_
      refine lv_aload_n F.1 F.2.1 dX19_arrives_25 rfl (lv_at hl 1 rfl) ?_
      refine lv_iload_n F.1 F.2.1 dX19_arrives_26 rfl (lv_at hl 2 rfl) ?_
      replace h := zc_some h
      obtain ⟨r67, z68, hc69, h⟩ := h
      refine zr_callv (zrun_V (As := [.ref (B 14 x1), .int x2]) (rest := []) zq_2683 zq_2685 zs_X19_arriveAsking zq_2686 zq_4 hdX19_arriveAsking (by decide) (T := TX19) (N := 32) rfl (okX19_arriveAsking l D cy B ids hst N x0 hx0 x1 hx1 x2  hr.2.2 hc69) F hr hx0 hl.1 rfl (by decide) dX19_arrives_27 rfl rfl hroX19_arrives_X19_arriveAsking ⟨Nat.zero_le _, Nat.zero_le _⟩) F hA hr (fun H locs hw70 hr => ?_)
      clear hc69
      refine lv_iconst (v := (0 : Int32)) F.1 F.2.1 dX19_arrives_30 (by decide) ?_
      obtain ⟨rfl, rfl⟩ := zret h
      exact E _ _ _ _ dX19_arrives_31 (by decide) hr
  · replace h := zi_f (fun q => q c1) h
    refine lv_aload_n F.1 F.2.1 dX19_arrives_8 rfl (lv_at hl 0 rfl) ?_
    refine lv_aload_n F.1 F.2.1 dX19_arrives_9 rfl (lv_at hl 1 rfl) ?_
    refine lv_iload_n F.1 F.2.1 dX19_arrives_10 rfl (lv_at hl 2 rfl) ?_
    replace h := zc_some h
    obtain ⟨r71, z72, hc73, h⟩ := h
    refine zr_callv (zrun_V (As := [.ref (B 14 x1), .int x2]) (rest := []) zq_2659 zq_2661 zs_X19_arriveListening zq_2662 zq_4 hdX19_arriveListening (by decide) (T := TX19) (N := 32) rfl (okX19_arriveListening l D cy B ids hst N x0 hx0 x1 hx1 x2  hr.2.2 hc73) F hr hx0 hl.1 rfl (by decide) dX19_arrives_11 rfl rfl hroX19_arrives_X19_arriveListening ⟨Nat.zero_le _, Nat.zero_le _⟩) F hA hr (fun H locs hw74 hr => ?_)
    clear hc73
    refine lv_iconst (v := (0 : Int32)) F.1 F.2.1 dX19_arrives_14 (by decide) ?_
    obtain ⟨rfl, rfl⟩ := zret h
    exact E _ _ _ _ dX19_arrives_15 (by decide) hr
end SX19_arrives
set_option maxRecDepth 100000 in
theorem okX19_arrives (l : Launch) (D : va_G) (cy : Nat → ClassId) (B : Nat → Nat → Nat) (ids : List (Nat × Nat)) (hst : zSt B ids) (N : Nat) (x0 : Nat) (hx0 : (19, x0) ∈ ids) (x1 : Nat) (hx1 : (14, x1) ∈ ids) (x2 : Int32) {z : St} {r : Int32} {z' : St} (hW : zWf ids z) (h : fX19_arrives N x0 x1 x2 z = some (r, z')) : zM l yX19_arrives (zws yX19_arrives cX19_arrives 3 (some .boolean)) rmX19_arrives D cy B ids [.ref (B 19 x0), .ref (B 14 x1), .int x2] (some (.int r)) (r = 0 ∨ r = 1) z z' :=
  zM_of hst hW (by decide +kernel) (Nat.le_of_ble_eq_true rfl) (fun p e s m args below meth c A ls F hA hret hlocks hr hl => bX19_arrives_0 hst F hA (zEnd_z F hret hlocks) x0 x1 x2 hx0 hx1 hr hl h)
abbrev rmX19_newBooks : Room := { frames := 1, cells := 0, slots := 0, locals := 21 }
theorem hdX19_newBooks : yX19_newBooks.cls ≠ "java/lang/invoke/MethodHandle" ∧ yX19_newBooks.cls ≠ "java/lang/invoke/VarHandle" ∧ (parseMethodDescriptor yX19_newBooks.desc).map (fun d => d.parameters.length) = some 1 := by decide +kernel
theorem hroX19_newBooks_X19_dropBook : rmX19_dropBook.frames + 1 ≤ rmX19_newBooks.frames ∧ 8 + (2 + 11) + rmX19_dropBook.locals ≤ rmX19_newBooks.locals := by decide
theorem hroX19_newBooks_X19_newBook : rmX19_newBook.frames + 1 ≤ rmX19_newBooks.frames ∧ 8 + (2 + 11) + rmX19_newBook.locals ≤ rmX19_newBooks.locals := by decide
section SX19_newBooks
variable {p : Program} {l : Launch} {e : Env} {s : State} {m : MethodId} {args : Array Value} {below : List Frame} {meth : Method} {c : Code} {Q : State → Prop} {D : va_G} {cy : Nat → ClassId} {B : Nat → Nat → Nat} {ids : List (Nat × Nat)} {A : Nat → Prop}
def fX19_newBooks (N : Nat)  (x0 : Nat) (x1 : Nat) (z : St) : Option (Int32 × St) := zc (fX19_dropBook N x0 (zgI z 14 44 x1) z) fun _ z2 => zc (fX19_dropBook N x0 (zgI z2 14 45 x1) z2) fun _ z6 => zc (fX19_newBook N x0 z6) fun r9 z10 => zl (zsI z10 14 44 x1 r9) fun z13 => zl (zsI z13 14 45 x1 (-1 : Int32)) fun z14 => some (0, z14)
set_option maxHeartbeats 4000000 in
set_option maxRecDepth 100000 in
theorem bX19_newBooks_0 (hst : zSt B ids) (F : zFx p m c cX19_newBooks 2 s args RX19 D cy B ids A) (hA : ∀ q : Nat, s.heap.size ≤ q → A q) {r : Int32} {z' : St} (E : zEnd p l e rmX19_newBooks s m args below meth c cX19_newBooks D cy B ids A Q none z' .return_ True) {N : Nat}  (x0 : Nat) (x1 : Nat) (hx0 : (19, x0) ∈ ids) (hx1 : (14, x1) ∈ ids) {z : St} {H : Heap} {locs : List Loc} {ls : Array Slot} (hr : zRep D cy B ids A s.heap z H locs) (hl : lv_has ls 2 [(0, .ref (B 19 x0)), (1, .ref (B 14 x1))]) (h : fX19_newBooks N x0 x1 z = some (r, z')) : W p l e rmX19_newBooks s m args below meth c H locs 0 0 Q (F0 m 0 ls []) := by
  unfold fX19_newBooks at h
  refine lv_aload_n F.1 F.2.1 dX19_newBooks_0 rfl (lv_at hl 0 rfl) ?_
  refine lv_aload_n F.1 F.2.1 dX19_newBooks_1 rfl (lv_at hl 1 rfl) ?_
  refine gf19_732 F hx1 hr dX19_newBooks_2 ?_
  replace h := zc_some h
  obtain ⟨r1, z2, hc3, h⟩ := h
  refine zr_callv (zrun_V (As := [.int (zgI z 14 44 x1)]) (rest := []) zq_2561 zq_2563 zs_X19_dropBook zq_2564 zq_4 hdX19_dropBook (by decide) (T := TX19) (N := 32) rfl (okX19_dropBook l D cy B ids hst N x0 hx0 (zgI z 14 44 x1)  hr.2.2 hc3) F hr hx0 hl.1 rfl (by decide) dX19_newBooks_5 rfl rfl hroX19_newBooks_X19_dropBook ⟨Nat.zero_le _, Nat.zero_le _⟩) F hA hr (fun H locs hw4 hr => ?_)
  clear hc3
  refine lv_aload_n F.1 F.2.1 dX19_newBooks_8 rfl (lv_at hl 0 rfl) ?_
  refine lv_aload_n F.1 F.2.1 dX19_newBooks_9 rfl (lv_at hl 1 rfl) ?_
  refine gf19_594 F hx1 hr dX19_newBooks_10 ?_
  replace h := zc_some h
  obtain ⟨r5, z6, hc7, h⟩ := h
  refine zr_callv (zrun_V (As := [.int (zgI z2 14 45 x1)]) (rest := []) zq_2561 zq_2563 zs_X19_dropBook zq_2564 zq_4 hdX19_dropBook (by decide) (T := TX19) (N := 32) rfl (okX19_dropBook l D cy B ids hst N x0 hx0 (zgI z2 14 45 x1)  hr.2.2 hc7) F hr hx0 hl.1 rfl (by decide) dX19_newBooks_13 rfl rfl hroX19_newBooks_X19_dropBook ⟨Nat.zero_le _, Nat.zero_le _⟩) F hA hr (fun H locs hw8 hr => ?_)
  clear hc7
  refine lv_aload_n F.1 F.2.1 dX19_newBooks_16 rfl (lv_at hl 1 rfl) ?_
  refine lv_aload_n F.1 F.2.1 dX19_newBooks_17 rfl (lv_at hl 0 rfl) ?_
  replace h := zc_some h
  obtain ⟨r9, z10, hc11, h⟩ := h
  refine zr_calli (zrun_V (As := []) (rest := [.ref (B 14 x1)]) zq_2749 zq_2751 zs_X19_newBook zq_2752 zq_4 hdX19_newBook (by decide) (T := TX19) (N := 32) rfl (okX19_newBook l D cy B ids hst N x0 hx0 hr.2.2 hc11) F hr hx0 hl.1 rfl (Nat.le_of_ble_eq_true rfl) dX19_newBooks_18 rfl rfl hroX19_newBooks_X19_newBook ⟨Nat.zero_le _, Nat.zero_le _⟩) F hA hr (fun H locs hw12 hr => ?_)
  clear hc11
  refine pf19_732 F hx1 hr dX19_newBooks_21 r9 (fun H locs z13 ez13 hr => ?_)
  replace h := zl_sub ez13 h
  clear ez13
  refine lv_aload_n F.1 F.2.1 dX19_newBooks_24 rfl (lv_at hl 1 rfl) ?_
  refine lv_iconst (v := (-1 : Int32)) F.1 F.2.1 dX19_newBooks_25 (by decide) ?_
  refine pf19_594 F hx1 hr dX19_newBooks_26 (-1 : Int32) (fun H locs z14 ez14 hr => ?_)
  replace h := zl_sub ez14 h
  clear ez14
  obtain ⟨rfl, rfl⟩ := zret h
  exact E _ _ _ _ dX19_newBooks_29 trivial hr
end SX19_newBooks
set_option maxRecDepth 100000 in
theorem okX19_newBooks (l : Launch) (D : va_G) (cy : Nat → ClassId) (B : Nat → Nat → Nat) (ids : List (Nat × Nat)) (hst : zSt B ids) (N : Nat) (x0 : Nat) (hx0 : (19, x0) ∈ ids) (x1 : Nat) (hx1 : (14, x1) ∈ ids) {z : St} {r : Int32} {z' : St} (hW : zWf ids z) (h : fX19_newBooks N x0 x1 z = some (r, z')) : zM l yX19_newBooks (zws yX19_newBooks cX19_newBooks 2 none) rmX19_newBooks D cy B ids [.ref (B 19 x0), .ref (B 14 x1)] none True z z' :=
  zM_of hst hW (by decide +kernel) (Nat.le_of_ble_eq_true rfl) (fun p e s m args below meth c A ls F hA hret hlocks hr hl => bX19_newBooks_0 hst F hA (zEnd_v F hret hlocks) x0 x1 hx0 hx1 hr hl h)
abbrev rmX19_giveEnd : Room := { frames := 2, cells := 0, slots := 0, locals := 42 }
theorem hdX19_giveEnd : yX19_giveEnd.cls ≠ "java/lang/invoke/MethodHandle" ∧ yX19_giveEnd.cls ≠ "java/lang/invoke/VarHandle" ∧ (parseMethodDescriptor yX19_giveEnd.desc).map (fun d => d.parameters.length) = some 5 := by decide +kernel
theorem hroX19_giveEnd_X14_begin : rmX14_begin.frames + 1 ≤ rmX19_giveEnd.frames ∧ 8 + (4 + 11) + rmX14_begin.locals ≤ rmX19_giveEnd.locals := by decide
theorem hroX19_giveEnd_X19_newBooks : rmX19_newBooks.frames + 1 ≤ rmX19_giveEnd.frames ∧ 8 + (2 + 11) + rmX19_newBooks.locals ≤ rmX19_giveEnd.locals := by decide
section SX19_giveEnd
variable {p : Program} {l : Launch} {e : Env} {s : State} {m : MethodId} {args : Array Value} {below : List Frame} {meth : Method} {c : Code} {Q : State → Prop} {D : va_G} {cy : Nat → ClassId} {B : Nat → Nat → Nat} {ids : List (Nat × Nat)} {A : Nat → Prop}
def fX19_giveEnd (N : Nat)  (x0 : Nat) (x1 : Nat) (x2 : Nat) (x3 : Int32) (x4 : Int32) (x5 : Int32) (z : St) : Option (Int32 × St) := zl (zgR z 13 4 x2) fun y1 => zk (0 : Int32) 6 <| zl (zgQ z 147 x1 (Int32.toNatClampNeg (0 : Int32))) fun y3 => zd y3 fun a4 => zl (zgR z 18 2 a4) fun y5 => zd y5 fun a6 => zd y1 fun a7 => zc (fX14_begin N a7 (((64000 : Int32) * (zgI z 19 24 x0)) + ((977 : Int32) * (zgI z 12 0 x1))) ((zgI z 16 1 a6) - (40 : Int32)) z) fun _ z9 => zl (zsI z9 14 24 a7 (0 : Int32)) fun z12 => zc (fX19_newBooks N x0 a7 z12) fun _ z14 => zl (zsI z14 14 2 a7 x3) fun z17 => zl (zsI z17 14 3 a7 x4) fun z18 => zl (zsI z18 14 4 a7 x5) fun z19 => zl (zsI z19 13 3 x2 (1 : Int32)) fun z20 => zl (zsI z20 13 5 x2 (-1 : Int32)) fun z21 => zl (zsI z21 13 6 x2 (0 : Int32)) fun z22 => zl (zsI z22 13 7 x2 (0 : Int32)) fun z23 => zl (zsI z23 13 8 x2 (0 : Int32)) fun z24 => zl (zsI z24 13 9 x2 (1 : Int32)) fun z25 => some (0, z25)
set_option maxHeartbeats 4000000 in
set_option maxRecDepth 100000 in
theorem bX19_giveEnd_0 (hst : zSt B ids) (F : zFx p m c cX19_giveEnd 7 s args RX19 D cy B ids A) (hA : ∀ q : Nat, s.heap.size ≤ q → A q) {r : Int32} {z' : St} (E : zEnd p l e rmX19_giveEnd s m args below meth c cX19_giveEnd D cy B ids A Q none z' .return_ True) {N : Nat}  (x0 : Nat) (x1 : Nat) (x2 : Nat) (x3 : Int32) (x4 : Int32) (x5 : Int32) (hx0 : (19, x0) ∈ ids) (hx1 : (12, x1) ∈ ids) (hx2 : (13, x2) ∈ ids) {z : St} {H : Heap} {locs : List Loc} {ls : Array Slot} (hr : zRep D cy B ids A s.heap z H locs) (hl : lv_has ls 7 [(0, .ref (B 19 x0)), (1, .ref (B 12 x1)), (2, .ref (B 13 x2)), (3, .int x3), (4, .int x4), (5, .int x5)]) (h : fX19_giveEnd N x0 x1 x2 x3 x4 x5 z = some (r, z')) : W p l e rmX19_giveEnd s m args below meth c H locs 0 0 Q (F0 m 0 ls []) := by
  unfold fX19_giveEnd at h
  refine lv_aload_n F.1 F.2.1 dX19_giveEnd_0 rfl (lv_at hl 2 rfl) ?_
  refine gf19_344 F hx2 hr dX19_giveEnd_1 (fun y1 ey1 => ?_)
  replace h := zl_sub ey1 h
  have hy1 := zal_g hr hx2 (j := 4) rfl ey1
  clear ey1
  refine zr_astore (lv' := [(6, va_rf (Option.map (B 14) y1)), (0, .ref (B 19 x0)), (1, .ref (B 12 x1)), (2, .ref (B 13 x2)), (3, .int x3), (4, .int x4), (5, .int x5)]) F.1 F.2.1 dX19_giveEnd_4 hl (by decide) rfl (fun ls hl => ?_)
  refine zr_aload F.1 F.2.1 dX19_giveEnd_6 (lv_at hl 0 rfl) ?_
  refine lv_ldcw (v := (64000)) F.1 F.2.1 F.2.2.2.1 (F.2.2.2.2.1 _ zq_2744) dX19_giveEnd_8 ?_
  refine lv_aload_n F.1 F.2.1 dX19_giveEnd_11 rfl (lv_at hl 1 rfl) ?_
  refine gf19_143 F hx0 hr dX19_giveEnd_12 ?_
  refine lv_imul F.1 F.2.1 dX19_giveEnd_15 ?_
  refine lv_sipush (v := (977 : Int32)) F.1 F.2.1 dX19_giveEnd_16 (by decide) ?_
  refine lv_aload_n F.1 F.2.1 dX19_giveEnd_19 rfl (lv_at hl 2 rfl) ?_
  refine gf19_310 F hx1 hr dX19_giveEnd_20 ?_
  refine lv_imul F.1 F.2.1 dX19_giveEnd_23 ?_
  refine lv_iadd F.1 F.2.1 dX19_giveEnd_24 ?_
  refine lv_aload_n F.1 F.2.1 dX19_giveEnd_25 rfl (lv_at hl 2 rfl) ?_
  refine gf19_276 F hx1 hr dX19_giveEnd_26 ?_
  refine lv_iconst (v := (0 : Int32)) F.1 F.2.1 dX19_giveEnd_29 (by decide) ?_
  replace h := zk_some h
  obtain ⟨c2, h⟩ := h
  refine zr_aaldv (k := 147) (by decide) rfl rfl (zlen_d (by decide)) F (zal_a F hx1 (j := 2) rfl) hr dX19_giveEnd_30 c2 (fun y3 ey3 => ?_)
  replace h := zl_sub ey3 h
  have hy3 := zal_q hr (zal_a F hx1 (j := 2) rfl) rfl ey3
  clear ey3
  replace h := zd_some h
  obtain ⟨a4, rfl, h⟩ := h
  refine gf19_149 F (hy3 _ rfl) hr dX19_giveEnd_31 (fun y5 ey5 => ?_)
  replace h := zl_sub ey5 h
  have hy5 := zal_g hr (hy3 _ rfl) (j := 2) rfl ey5
  clear ey5
  replace h := zd_some h
  obtain ⟨a6, rfl, h⟩ := h
  refine gf19_191 F (hy5 _ rfl) hr dX19_giveEnd_34 ?_
  refine lv_bipush (v := (40 : Int32)) F.1 F.2.1 dX19_giveEnd_37 (by decide) ?_
  refine lv_isub F.1 F.2.1 dX19_giveEnd_39 ?_
  replace h := zd_some h
  obtain ⟨a7, rfl, h⟩ := h
  replace h := zc_some h
  obtain ⟨r8, z9, hc10, h⟩ := h
  refine zr_callv (zrun_VN (As := [.int (((64000 : Int32) * (zgI z 19 24 x0)) + ((977 : Int32) * (zgI z 12 0 x1))), .int ((zgI z 16 1 a6) - (40 : Int32))]) (rest := []) zn_2729 zq_2731 zs_X14_begin zq_2732 zq_21 hdX14_begin (by decide) (T := TX14) (N := 47) rfl (okX14_begin l D cy B ids hst N a7 (hy1 _ rfl) (((64000 : Int32) * (zgI z 19 24 x0)) + ((977 : Int32) * (zgI z 12 0 x1)))  ((zgI z 16 1 a6) - (40 : Int32))  hr.2.2 hc10) F hr (hy1 _ rfl) hl.1 rfl (by decide) dX19_giveEnd_40 rfl rfl hroX19_giveEnd_X14_begin ⟨Nat.zero_le _, Nat.zero_le _⟩) F hA hr (fun H locs hw11 hr => ?_)
  clear hc10
  refine lv_aload F.1 F.2.1 dX19_giveEnd_43 (lv_at hl 0 rfl) ?_
  refine lv_iconst (v := (0 : Int32)) F.1 F.2.1 dX19_giveEnd_45 (by decide) ?_
  refine pf19_694 F (hy1 _ rfl) hr dX19_giveEnd_46 (0 : Int32) (by decide) (fun H locs z12 ez12 hr => ?_)
  replace h := zl_sub ez12 h
  clear ez12
  refine lv_aload_n F.1 F.2.1 dX19_giveEnd_49 rfl (lv_at hl 1 rfl) ?_
  refine lv_aload F.1 F.2.1 dX19_giveEnd_50 (lv_at hl 0 rfl) ?_
  replace h := zc_some h
  obtain ⟨r13, z14, hc15, h⟩ := h
  refine zr_callv (zrun_V (As := [.ref (B 14 a7)]) (rest := []) zq_2745 zq_2747 zs_X19_newBooks zq_2748 zq_4 hdX19_newBooks (by decide) (T := TX19) (N := 32) rfl (okX19_newBooks l D cy B ids hst N x0 hx0 a7 (hy1 _ rfl) hr.2.2 hc15) F hr hx0 hl.1 rfl (by decide) dX19_giveEnd_52 rfl rfl hroX19_giveEnd_X19_newBooks ⟨Nat.zero_le _, Nat.zero_le _⟩) F hA hr (fun H locs hw16 hr => ?_)
  clear hc15
  refine lv_aload F.1 F.2.1 dX19_giveEnd_55 (lv_at hl 0 rfl) ?_
  refine lv_iload_n F.1 F.2.1 dX19_giveEnd_57 rfl (lv_at hl 4 rfl) ?_
  refine pf19_358 F (hy1 _ rfl) hr dX19_giveEnd_58 x3 (fun H locs z17 ez17 hr => ?_)
  replace h := zl_sub ez17 h
  clear ez17
  refine lv_aload F.1 F.2.1 dX19_giveEnd_61 (lv_at hl 0 rfl) ?_
  refine lv_iload F.1 F.2.1 dX19_giveEnd_63 (lv_at hl 5 rfl) ?_
  refine pf19_361 F (hy1 _ rfl) hr dX19_giveEnd_65 x4 (fun H locs z18 ez18 hr => ?_)
  replace h := zl_sub ez18 h
  clear ez18
  refine lv_aload F.1 F.2.1 dX19_giveEnd_68 (lv_at hl 0 rfl) ?_
  refine lv_iload F.1 F.2.1 dX19_giveEnd_70 (lv_at hl 6 rfl) ?_
  refine pf19_364 F (hy1 _ rfl) hr dX19_giveEnd_72 x5 (fun H locs z19 ez19 hr => ?_)
  replace h := zl_sub ez19 h
  clear ez19
  refine lv_aload_n F.1 F.2.1 dX19_giveEnd_75 rfl (lv_at hl 3 rfl) ?_
  refine lv_iconst (v := (1 : Int32)) F.1 F.2.1 dX19_giveEnd_76 (by decide) ?_
  refine pf19_350 F hx2 hr dX19_giveEnd_77 (1 : Int32) (by decide) (fun H locs z20 ez20 hr => ?_)
  replace h := zl_sub ez20 h
  clear ez20
  refine lv_aload_n F.1 F.2.1 dX19_giveEnd_80 rfl (lv_at hl 3 rfl) ?_
  refine lv_iconst (v := (-1 : Int32)) F.1 F.2.1 dX19_giveEnd_81 (by decide) ?_
  refine pf19_761 F hx2 hr dX19_giveEnd_82 (-1 : Int32) (fun H locs z21 ez21 hr => ?_)
  replace h := zl_sub ez21 h
  clear ez21
  refine lv_aload_n F.1 F.2.1 dX19_giveEnd_85 rfl (lv_at hl 3 rfl) ?_
  refine lv_iconst (v := (0 : Int32)) F.1 F.2.1 dX19_giveEnd_86 (by decide) ?_
  refine pf19_764 F hx2 hr dX19_giveEnd_87 (0 : Int32) (by decide) (fun H locs z22 ez22 hr => ?_)
  replace h := zl_sub ez22 h
  clear ez22
  refine lv_aload_n F.1 F.2.1 dX19_giveEnd_90 rfl (lv_at hl 3 rfl) ?_
  refine lv_iconst (v := (0 : Int32)) F.1 F.2.1 dX19_giveEnd_91 (by decide) ?_
  refine pf19_767 F hx2 hr dX19_giveEnd_92 (0 : Int32) (by decide) (fun H locs z23 ez23 hr => ?_)
  replace h := zl_sub ez23 h
  clear ez23
  refine lv_aload_n F.1 F.2.1 dX19_giveEnd_95 rfl (lv_at hl 3 rfl) ?_
  refine lv_iconst (v := (0 : Int32)) F.1 F.2.1 dX19_giveEnd_96 (by decide) ?_
  refine pf19_770 F hx2 hr dX19_giveEnd_97 (0 : Int32) (by decide) (fun H locs z24 ez24 hr => ?_)
  replace h := zl_sub ez24 h
  clear ez24
  refine lv_aload_n F.1 F.2.1 dX19_giveEnd_100 rfl (lv_at hl 3 rfl) ?_
  refine lv_iconst (v := (1 : Int32)) F.1 F.2.1 dX19_giveEnd_101 (by decide) ?_
  refine pf19_773 F hx2 hr dX19_giveEnd_102 (1 : Int32) (fun H locs z25 ez25 hr => ?_)
  replace h := zl_sub ez25 h
  clear ez25
  obtain ⟨rfl, rfl⟩ := zret h
  exact E _ _ _ _ dX19_giveEnd_105 trivial hr
end SX19_giveEnd
set_option maxRecDepth 100000 in
theorem okX19_giveEnd (l : Launch) (D : va_G) (cy : Nat → ClassId) (B : Nat → Nat → Nat) (ids : List (Nat × Nat)) (hst : zSt B ids) (N : Nat) (x0 : Nat) (hx0 : (19, x0) ∈ ids) (x1 : Nat) (hx1 : (12, x1) ∈ ids) (x2 : Nat) (hx2 : (13, x2) ∈ ids) (x3 : Int32) (x4 : Int32) (x5 : Int32) {z : St} {r : Int32} {z' : St} (hW : zWf ids z) (h : fX19_giveEnd N x0 x1 x2 x3 x4 x5 z = some (r, z')) : zM l yX19_giveEnd (zws yX19_giveEnd cX19_giveEnd 7 none) rmX19_giveEnd D cy B ids [.ref (B 19 x0), .ref (B 12 x1), .ref (B 13 x2), .int x3, .int x4, .int x5] none True z z' :=
  zM_of hst hW (by decide +kernel) (Nat.le_of_ble_eq_true rfl) (fun p e s m args below meth c A ls F hA hret hlocks hr hl => bX19_giveEnd_0 hst F hA (zEnd_v F hret hlocks) x0 x1 x2 x3 x4 x5 hx0 hx1 hx2 hr hl h)
abbrev rmX19_leastFree : Room := { frames := 0, cells := 0, slots := 0, locals := 0 }
theorem hdX19_leastFree : yX19_leastFree.cls ≠ "java/lang/invoke/MethodHandle" ∧ yX19_leastFree.cls ≠ "java/lang/invoke/VarHandle" ∧ (parseMethodDescriptor yX19_leastFree.desc).map (fun d => d.parameters.length) = some 1 := by decide +kernel
section SX19_leastFree
variable {p : Program} {l : Launch} {e : Env} {s : State} {m : MethodId} {args : Array Value} {below : List Frame} {meth : Method} {c : Code} {Q : State → Prop} {D : va_G} {cy : Nat → ClassId} {B : Nat → Nat → Nat} {ids : List (Nat × Nat)} {A : Nat → Prop}
def fX19_leastFree_34 (N : Nat) (K2 : Nat → Int32 → St → Option (Int32 × St)) (x0 : Nat) (x1 : Int32) (z : St) : Option (Int32 × St) := zl (x1 + 1) fun v1 => K2 x0 v1 z
set_option maxHeartbeats 4000000 in
set_option maxRecDepth 100000 in
theorem bX19_leastFree_34 (hst : zSt B ids) (F : zFx p m c cX19_leastFree 2 s args RX19 D cy B ids A) (hA : ∀ q : Nat, s.heap.size ≤ q → A q) {r : Int32} {z' : St} (E : zEnd p l e rmX19_leastFree s m args below meth c cX19_leastFree D cy B ids A Q (some (.int r)) z' .ireturn True) {N : Nat} {K2 : Nat → Int32 → St → Option (Int32 × St)} (hK2 : ∀ (x0 : Nat) (x1 : Int32) (hx0 : (12, x0) ∈ ids) {z : St} {H : Heap} {locs : List Loc} {ls : Array Slot} (hr : zRep D cy B ids A s.heap z H locs) (hl : lv_has ls 2 [(0, .ref (B 12 x0)), (1, .int x1)]), K2 x0 x1 z = some (r, z') → W p l e rmX19_leastFree s m args below meth c H locs 0 0 Q (F0 m 2 ls [])) (x0 : Nat) (x1 : Int32) (hx0 : (12, x0) ∈ ids) {z : St} {H : Heap} {locs : List Loc} {ls : Array Slot} (hr : zRep D cy B ids A s.heap z H locs) (hl : lv_has ls 2 [(0, .ref (B 12 x0)), (1, .int x1)]) (h : fX19_leastFree_34 N K2 x0 x1 z = some (r, z')) : W p l e rmX19_leastFree s m args below meth c H locs 0 0 Q (F0 m 34 ls []) := by
  unfold fX19_leastFree_34 at h
  obtain ⟨v1, ev1⟩ : ∃ y : Int32, y = (x1 + 1) := ⟨_, rfl⟩
  replace h := zl_sub ev1 h
  refine lv_iinc (v := v1) (lv' := [(1, .int v1), (0, .ref (B 12 x0))]) F.1 F.2.1 dX19_leastFree_34 hl (k := 1) rfl (by rw [ev1]; rfl) (by decide) rfl (fun ls hl => ?_)
  refine lv_goto (tgt := 2) F.1 F.2.1 dX19_leastFree_37 (by decide) ?_
  exact hK2 x0 v1 hx0 hr (lv_sub hl [1, 0] rfl) h
def fX19_leastFree_2b (N : Nat) (K2 : Nat → Int32 → St → Option (Int32 × St)) (x0 : Nat) (x1 : Int32) (z : St) : Option (Int32 × St) := if (6 : Int32) ≤ x1 then (some ((-1 : Int32), z)) else (zk x1 6 <| zl (zgQ z 158 x0 (Int32.toNatClampNeg x1)) fun y3 => zd y3 fun a4 => if ¬ (zgI z 13 3 a4) = 0 then (fX19_leastFree_34 N K2 x0 x1 z) else (zk x1 6 <| zl (zgQ z 158 x0 (Int32.toNatClampNeg x1)) fun y7 => zd y7 fun a8 => if ¬ (zgI z 13 0 a8) = 0 then (fX19_leastFree_34 N K2 x0 x1 z) else (some (x1, z))))
def fX19_leastFree_2 (N : Nat)  : Nat → Nat → Int32 → St → Option (Int32 × St)
  | 0 => fun _ _ _ => none
  | n + 1 => fX19_leastFree_2b N (fX19_leastFree_2 N  n)
set_option maxHeartbeats 4000000 in
set_option maxRecDepth 100000 in
theorem bX19_leastFree_2 (hst : zSt B ids) (F : zFx p m c cX19_leastFree 2 s args RX19 D cy B ids A) (hA : ∀ q : Nat, s.heap.size ≤ q → A q) {r : Int32} {z' : St} (E : zEnd p l e rmX19_leastFree s m args below meth c cX19_leastFree D cy B ids A Q (some (.int r)) z' .ireturn True) {N : Nat} {K2 : Nat → Int32 → St → Option (Int32 × St)} (hK2 : ∀ (x0 : Nat) (x1 : Int32) (hx0 : (12, x0) ∈ ids) {z : St} {H : Heap} {locs : List Loc} {ls : Array Slot} (hr : zRep D cy B ids A s.heap z H locs) (hl : lv_has ls 2 [(0, .ref (B 12 x0)), (1, .int x1)]), K2 x0 x1 z = some (r, z') → W p l e rmX19_leastFree s m args below meth c H locs 0 0 Q (F0 m 2 ls [])) (x0 : Nat) (x1 : Int32) (hx0 : (12, x0) ∈ ids) {z : St} {H : Heap} {locs : List Loc} {ls : Array Slot} (hr : zRep D cy B ids A s.heap z H locs) (hl : lv_has ls 2 [(0, .ref (B 12 x0)), (1, .int x1)]) (h : fX19_leastFree_2b N K2 x0 x1 z = some (r, z')) : W p l e rmX19_leastFree s m args below meth c H locs 0 0 Q (F0 m 2 ls []) := by
  unfold fX19_leastFree_2b at h
  refine lv_iload_n F.1 F.2.1 dX19_leastFree_2 rfl (lv_at hl 1 rfl) ?_
  refine lv_bipush (v := (6 : Int32)) F.1 F.2.1 dX19_leastFree_3 (by decide) ?_
  refine lv_icmp_ge (tgt := 40) F.1 F.2.1 dX19_leastFree_5 (by decide) (fun c1 => ?_) (fun c1 => ?_)
  · replace h := zi_t c1 h
    refine lv_iconst (v := (-1 : Int32)) F.1 F.2.1 dX19_leastFree_40 (by decide) ?_
    obtain ⟨rfl, rfl⟩ := zret h
    exact E _ _ _ _ dX19_leastFree_41 trivial hr
  · replace h := zi_f c1 h
    refine lv_aload_n F.1 F.2.1 dX19_leastFree_8 rfl (lv_at hl 0 rfl) ?_
    refine gf19_340 F hx0 hr dX19_leastFree_9 ?_
    refine lv_iload_n F.1 F.2.1 dX19_leastFree_12 rfl (lv_at hl 1 rfl) ?_
    replace h := zk_some h
    obtain ⟨c2, h⟩ := h
    refine zr_aaldv (k := 158) (by decide) rfl rfl (zlen_d (by decide)) F (zal_a F hx0 (j := 28) rfl) hr dX19_leastFree_13 c2 (fun y3 ey3 => ?_)
    replace h := zl_sub ey3 h
    have hy3 := zal_q hr (zal_a F hx0 (j := 28) rfl) rfl ey3
    clear ey3
    replace h := zd_some h
    obtain ⟨a4, rfl, h⟩ := h
    refine gf19_350 F (hy3 _ rfl) hr dX19_leastFree_14 ?_
    refine lv_if_ne (tgt := 34) F.1 F.2.1 dX19_leastFree_17 (by decide) (fun c5 => ?_) (fun c5 => ?_)
    · replace h := zi_t c5 h
      exact bX19_leastFree_34 hst F hA E hK2 x0 x1 hx0 hr (lv_sub hl [0, 1] rfl) h
    · replace h := zi_f (fun q => q c5) h
      refine lv_aload_n F.1 F.2.1 dX19_leastFree_20 rfl (lv_at hl 0 rfl) ?_
      refine gf19_340 F hx0 hr dX19_leastFree_21 ?_
      refine lv_iload_n F.1 F.2.1 dX19_leastFree_24 rfl (lv_at hl 1 rfl) ?_
      replace h := zk_some h
      obtain ⟨c6, h⟩ := h
      refine zr_aaldv (k := 158) (by decide) rfl rfl (zlen_d (by decide)) F (zal_a F hx0 (j := 28) rfl) hr dX19_leastFree_25 c6 (fun y7 ey7 => ?_)
      replace h := zl_sub ey7 h
      have hy7 := zal_q hr (zal_a F hx0 (j := 28) rfl) rfl ey7
      clear ey7
      replace h := zd_some h
      obtain ⟨a8, rfl, h⟩ := h
      refine gf19_747 F (hy7 _ rfl) hr dX19_leastFree_26 ?_
      refine lv_if_ne (tgt := 34) F.1 F.2.1 dX19_leastFree_29 (by decide) (fun c9 => ?_) (fun c9 => ?_)
      · replace h := zi_t c9 h
        exact bX19_leastFree_34 hst F hA E hK2 x0 x1 hx0 hr (lv_sub hl [0, 1] rfl) h
      · replace h := zi_f (fun q => q c9) h
        refine lv_iload_n F.1 F.2.1 dX19_leastFree_32 rfl (lv_at hl 1 rfl) ?_
        obtain ⟨rfl, rfl⟩ := zret h
        exact E _ _ _ _ dX19_leastFree_33 trivial hr
theorem lX19_leastFree_2 (hst : zSt B ids) (F : zFx p m c cX19_leastFree 2 s args RX19 D cy B ids A) (hA : ∀ q : Nat, s.heap.size ≤ q → A q) {r : Int32} {z' : St} (E : zEnd p l e rmX19_leastFree s m args below meth c cX19_leastFree D cy B ids A Q (some (.int r)) z' .ireturn True) {N : Nat}  : ∀ (n : Nat) (x0 : Nat) (x1 : Int32) (hx0 : (12, x0) ∈ ids) {z : St} {H : Heap} {locs : List Loc} {ls : Array Slot} (hr : zRep D cy B ids A s.heap z H locs) (hl : lv_has ls 2 [(0, .ref (B 12 x0)), (1, .int x1)]), fX19_leastFree_2 N  n x0 x1 z = some (r, z') → W p l e rmX19_leastFree s m args below meth c H locs 0 0 Q (F0 m 2 ls []) := by
  intro n
  induction n with
  | zero => intro x0 x1 hx0 z H locs ls hr hl h; cases h
  | succ n ih => intro x0 x1 hx0 z H locs ls hr hl h; exact bX19_leastFree_2 hst F hA E ih x0 x1 hx0 hr hl h
def fX19_leastFree (N : Nat)  (x0 : Nat) (z : St) : Option (Int32 × St) := fX19_leastFree_2 N N x0 (0 : Int32) z
set_option maxHeartbeats 4000000 in
set_option maxRecDepth 100000 in
theorem bX19_leastFree_0 (hst : zSt B ids) (F : zFx p m c cX19_leastFree 2 s args RX19 D cy B ids A) (hA : ∀ q : Nat, s.heap.size ≤ q → A q) {r : Int32} {z' : St} (E : zEnd p l e rmX19_leastFree s m args below meth c cX19_leastFree D cy B ids A Q (some (.int r)) z' .ireturn True) {N : Nat}  (x0 : Nat) (hx0 : (12, x0) ∈ ids) {z : St} {H : Heap} {locs : List Loc} {ls : Array Slot} (hr : zRep D cy B ids A s.heap z H locs) (hl : lv_has ls 2 [(0, .ref (B 12 x0))]) (h : fX19_leastFree N x0 z = some (r, z')) : W p l e rmX19_leastFree s m args below meth c H locs 0 0 Q (F0 m 0 ls []) := by
  unfold fX19_leastFree at h
  refine lv_iconst (v := (0 : Int32)) F.1 F.2.1 dX19_leastFree_0 (by decide) ?_
  refine lv_istore_n (lv' := [(1, .int (0 : Int32)), (0, .ref (B 12 x0))]) F.1 F.2.1 dX19_leastFree_1 rfl hl (by decide) rfl (fun ls hl => ?_)
  exact lX19_leastFree_2 hst F hA E  _ x0 (0 : Int32) hx0 hr (lv_sub hl [1, 0] rfl) h
end SX19_leastFree
set_option maxRecDepth 100000 in
theorem okX19_leastFree (l : Launch) (D : va_G) (cy : Nat → ClassId) (B : Nat → Nat → Nat) (ids : List (Nat × Nat)) (hst : zSt B ids) (N : Nat) (x0 : Nat) (hx0 : (12, x0) ∈ ids) {z : St} {r : Int32} {z' : St} (hW : zWf ids z) (h : fX19_leastFree N x0 z = some (r, z')) : zM l yX19_leastFree (zws yX19_leastFree cX19_leastFree 2 (some .int)) rmX19_leastFree D cy B ids [.ref (B 12 x0)] (some (.int r)) True z z' :=
  zM_of hst hW (by decide +kernel) (Nat.le_of_ble_eq_true rfl) (fun p e s m args below meth c A ls F hA hret hlocks hr hl => bX19_leastFree_0 hst F hA (zEnd_i F hret hlocks) x0 hx0 hr hl h)
abbrev rmX19_knock : Room := { frames := 6, cells := 0, slots := 0, locals := 131 }
theorem hdX19_knock : yX19_knock.cls ≠ "java/lang/invoke/MethodHandle" ∧ yX19_knock.cls ≠ "java/lang/invoke/VarHandle" ∧ (parseMethodDescriptor yX19_knock.desc).map (fun d => d.parameters.length) = some 6 := by decide +kernel
theorem hroX19_knock_X19_arrives : rmX19_arrives.frames + 1 ≤ rmX19_knock.frames ∧ 8 + (3 + 11) + rmX19_arrives.locals ≤ rmX19_knock.locals := by decide
theorem hroX19_knock_X19_giveEnd : rmX19_giveEnd.frames + 1 ≤ rmX19_knock.frames ∧ 8 + (7 + 11) + rmX19_giveEnd.locals ≤ rmX19_knock.locals := by decide
theorem hroX19_knock_X19_leastFree : rmX19_leastFree.frames + 1 ≤ rmX19_knock.frames ∧ 8 + (2 + 11) + rmX19_leastFree.locals ≤ rmX19_knock.locals := by decide
section SX19_knock
variable {p : Program} {l : Launch} {e : Env} {s : State} {m : MethodId} {args : Array Value} {below : List Frame} {meth : Method} {c : Code} {Q : State → Prop} {D : va_G} {cy : Nat → ClassId} {B : Nat → Nat → Nat} {ids : List (Nat × Nat)} {A : Nat → Prop}
def fX19_knock_58 (N : Nat) (K6 : Nat → Nat → Int32 → Int32 → Int32 → Int32 → Int32 → Int32 → Int32 → St → Option (Int32 × St)) (x0 : Nat) (x1 : Nat) (x2 : Int32) (x3 : Int32) (x4 : Int32) (x5 : Int32) (x6 : Int32) (x8 : Int32) (s0 : Int32) (s1 : Int32) (z : St) : Option (Int32 × St) := zl (s0 + s1) fun v1 => zl (x8 + 1) fun v2 => K6 x0 x1 x2 x3 x4 x5 x6 v1 v2 z
set_option maxHeartbeats 4000000 in
set_option maxRecDepth 100000 in
theorem bX19_knock_58 (hst : zSt B ids) (F : zFx p m c cX19_knock 10 s args RX19 D cy B ids A) (hA : ∀ q : Nat, s.heap.size ≤ q → A q) {r : Int32} {z' : St} (E : zEnd p l e rmX19_knock s m args below meth c cX19_knock D cy B ids A Q none z' .return_ True) {N : Nat} {K6 : Nat → Nat → Int32 → Int32 → Int32 → Int32 → Int32 → Int32 → Int32 → St → Option (Int32 × St)} (hK6 : ∀ (x0 : Nat) (x1 : Nat) (x2 : Int32) (x3 : Int32) (x4 : Int32) (x5 : Int32) (x6 : Int32) (x7 : Int32) (x8 : Int32) (hx0 : (19, x0) ∈ ids) (hx1 : (12, x1) ∈ ids) {z : St} {H : Heap} {locs : List Loc} {ls : Array Slot} (hr : zRep D cy B ids A s.heap z H locs) (hl : lv_has ls 10 [(0, .ref (B 19 x0)), (1, .ref (B 12 x1)), (2, .int x2), (3, .int x3), (4, .int x4), (5, .int x5), (6, .int x6), (7, .int x7), (8, .int x8)]), K6 x0 x1 x2 x3 x4 x5 x6 x7 x8 z = some (r, z') → W p l e rmX19_knock s m args below meth c H locs 0 0 Q (F0 m 6 ls [])) (x0 : Nat) (x1 : Nat) (x2 : Int32) (x3 : Int32) (x4 : Int32) (x5 : Int32) (x6 : Int32) (x8 : Int32) (s0 : Int32) (s1 : Int32) (hx0 : (19, x0) ∈ ids) (hx1 : (12, x1) ∈ ids) {z : St} {H : Heap} {locs : List Loc} {ls : Array Slot} (hr : zRep D cy B ids A s.heap z H locs) (hl : lv_has ls 10 [(0, .ref (B 19 x0)), (1, .ref (B 12 x1)), (2, .int x2), (3, .int x3), (4, .int x4), (5, .int x5), (6, .int x6), (8, .int x8)]) (h : fX19_knock_58 N K6 x0 x1 x2 x3 x4 x5 x6 x8 s0 s1 z = some (r, z')) : W p l e rmX19_knock s m args below meth c H locs 0 0 Q (F0 m 58 ls [.int s1, .int s0]) := by
  unfold fX19_knock_58 at h
  refine lv_iadd F.1 F.2.1 dX19_knock_58 ?_
  refine lv_topi (fun v1 ev1 => ?_)
  replace h := zl_sub ev1 h
  refine lv_istore (lv' := [(7, .int v1), (0, .ref (B 19 x0)), (1, .ref (B 12 x1)), (2, .int x2), (3, .int x3), (4, .int x4), (5, .int x5), (6, .int x6), (8, .int x8)]) F.1 F.2.1 dX19_knock_59 hl (by decide) rfl (fun ls hl => ?_)
  obtain ⟨v2, ev2⟩ : ∃ y : Int32, y = (x8 + 1) := ⟨_, rfl⟩
  replace h := zl_sub ev2 h
  refine lv_iinc (v := v2) (lv' := [(8, .int v2), (7, .int v1), (0, .ref (B 19 x0)), (1, .ref (B 12 x1)), (2, .int x2), (3, .int x3), (4, .int x4), (5, .int x5), (6, .int x6)]) F.1 F.2.1 dX19_knock_61 hl (k := 8) rfl (by rw [ev2]; rfl) (by decide) rfl (fun ls hl => ?_)
  refine lv_goto (tgt := 6) F.1 F.2.1 dX19_knock_64 (by decide) ?_
  exact hK6 x0 x1 x2 x3 x4 x5 x6 v1 v2 hx0 hx1 hr (lv_sub hl [2, 3, 4, 5, 6, 7, 8, 1, 0] rfl) h
def fX19_knock_57 (N : Nat) (K6 : Nat → Nat → Int32 → Int32 → Int32 → Int32 → Int32 → Int32 → Int32 → St → Option (Int32 × St)) (x0 : Nat) (x1 : Nat) (x2 : Int32) (x3 : Int32) (x4 : Int32) (x5 : Int32) (x6 : Int32) (x8 : Int32) (s0 : Int32) (z : St) : Option (Int32 × St) := fX19_knock_58 N K6 x0 x1 x2 x3 x4 x5 x6 x8 s0 (0 : Int32) z
set_option maxHeartbeats 4000000 in
set_option maxRecDepth 100000 in
theorem bX19_knock_57 (hst : zSt B ids) (F : zFx p m c cX19_knock 10 s args RX19 D cy B ids A) (hA : ∀ q : Nat, s.heap.size ≤ q → A q) {r : Int32} {z' : St} (E : zEnd p l e rmX19_knock s m args below meth c cX19_knock D cy B ids A Q none z' .return_ True) {N : Nat} {K6 : Nat → Nat → Int32 → Int32 → Int32 → Int32 → Int32 → Int32 → Int32 → St → Option (Int32 × St)} (hK6 : ∀ (x0 : Nat) (x1 : Nat) (x2 : Int32) (x3 : Int32) (x4 : Int32) (x5 : Int32) (x6 : Int32) (x7 : Int32) (x8 : Int32) (hx0 : (19, x0) ∈ ids) (hx1 : (12, x1) ∈ ids) {z : St} {H : Heap} {locs : List Loc} {ls : Array Slot} (hr : zRep D cy B ids A s.heap z H locs) (hl : lv_has ls 10 [(0, .ref (B 19 x0)), (1, .ref (B 12 x1)), (2, .int x2), (3, .int x3), (4, .int x4), (5, .int x5), (6, .int x6), (7, .int x7), (8, .int x8)]), K6 x0 x1 x2 x3 x4 x5 x6 x7 x8 z = some (r, z') → W p l e rmX19_knock s m args below meth c H locs 0 0 Q (F0 m 6 ls [])) (x0 : Nat) (x1 : Nat) (x2 : Int32) (x3 : Int32) (x4 : Int32) (x5 : Int32) (x6 : Int32) (x8 : Int32) (s0 : Int32) (hx0 : (19, x0) ∈ ids) (hx1 : (12, x1) ∈ ids) {z : St} {H : Heap} {locs : List Loc} {ls : Array Slot} (hr : zRep D cy B ids A s.heap z H locs) (hl : lv_has ls 10 [(0, .ref (B 19 x0)), (1, .ref (B 12 x1)), (2, .int x2), (3, .int x3), (4, .int x4), (5, .int x5), (6, .int x6), (8, .int x8)]) (h : fX19_knock_57 N K6 x0 x1 x2 x3 x4 x5 x6 x8 s0 z = some (r, z')) : W p l e rmX19_knock s m args below meth c H locs 0 0 Q (F0 m 57 ls [.int s0]) := by
  unfold fX19_knock_57 at h
  refine lv_iconst (v := (0 : Int32)) F.1 F.2.1 dX19_knock_57 (by decide) ?_
  exact bX19_knock_58 hst F hA E hK6 x0 x1 x2 x3 x4 x5 x6 x8 s0 (0 : Int32) hx0 hx1 hr (lv_sub hl [0, 1, 2, 3, 4, 5, 6, 7] rfl) h
def fX19_knock_6b (N : Nat) (K6 : Nat → Nat → Int32 → Int32 → Int32 → Int32 → Int32 → Int32 → Int32 → St → Option (Int32 × St)) (x0 : Nat) (x1 : Nat) (x2 : Int32) (x3 : Int32) (x4 : Int32) (x5 : Int32) (x6 : Int32) (x7 : Int32) (x8 : Int32) (z : St) : Option (Int32 × St) := if (6 : Int32) ≤ x8 then (zc (fX19_leastFree N x1 z) fun r2 z3 => zk x2 6 <| zl (zgQ z3 158 x1 (Int32.toNatClampNeg x2)) fun y7 => zd y7 fun a8 => if (zgI z3 13 2 a8) ≤ x7 then (some (0, z3)) else (if ¬ r2 = (-1 : Int32) then (zk r2 6 <| zl (zgQ z3 158 x1 (Int32.toNatClampNeg r2)) fun y12 => zd y12 fun a13 => zc (fX19_giveEnd N x0 x1 a13 x4 x5 x6 z3) fun _ z15 => zl (zsI z15 13 5 a13 x2) fun z18 => zl (zsI z18 13 6 a13 (1 : Int32)) fun z19 => zl (zgR z19 13 4 a13) fun y20 => zd y20 fun a21 => zl (zsI z19 14 0 a21 (1 : Int32)) fun z22 => zl (zgR z22 13 4 a13) fun y23 => zd y23 fun a24 => zl (zsI z22 14 1 a24 (1 : Int32)) fun z25 => zl (zgR z25 13 4 a13) fun y26 => zd y26 fun a27 => zc (fX19_arrives N x0 a27 x3 z25) fun r28 z29 => some (0, z29)) else (some (0, z3)))) else (zk x8 6 <| zl (zgQ z 158 x1 (Int32.toNatClampNeg x8)) fun y33 => zd y33 fun a34 => if (zgI z 13 3 a34) = 0 then (fX19_knock_57 N K6 x0 x1 x2 x3 x4 x5 x6 x8 x7 z) else (if ¬ (zgI z 13 5 a34) = x2 then (fX19_knock_57 N K6 x0 x1 x2 x3 x4 x5 x6 x8 x7 z) else (zl (zgR z 13 4 a34) fun y37 => zd y37 fun a38 => if ¬ (zgI z 14 0 a38) = (3 : Int32) then (fX19_knock_57 N K6 x0 x1 x2 x3 x4 x5 x6 x8 x7 z) else (fX19_knock_58 N K6 x0 x1 x2 x3 x4 x5 x6 x8 x7 (1 : Int32) z))))
def fX19_knock_6 (N : Nat)  : Nat → Nat → Nat → Int32 → Int32 → Int32 → Int32 → Int32 → Int32 → Int32 → St → Option (Int32 × St)
  | 0 => fun _ _ _ _ _ _ _ _ _ _ => none
  | n + 1 => fX19_knock_6b N (fX19_knock_6 N  n)
set_option maxHeartbeats 4000000 in
set_option maxRecDepth 100000 in
theorem bX19_knock_6 (hst : zSt B ids) (F : zFx p m c cX19_knock 10 s args RX19 D cy B ids A) (hA : ∀ q : Nat, s.heap.size ≤ q → A q) {r : Int32} {z' : St} (E : zEnd p l e rmX19_knock s m args below meth c cX19_knock D cy B ids A Q none z' .return_ True) {N : Nat} {K6 : Nat → Nat → Int32 → Int32 → Int32 → Int32 → Int32 → Int32 → Int32 → St → Option (Int32 × St)} (hK6 : ∀ (x0 : Nat) (x1 : Nat) (x2 : Int32) (x3 : Int32) (x4 : Int32) (x5 : Int32) (x6 : Int32) (x7 : Int32) (x8 : Int32) (hx0 : (19, x0) ∈ ids) (hx1 : (12, x1) ∈ ids) {z : St} {H : Heap} {locs : List Loc} {ls : Array Slot} (hr : zRep D cy B ids A s.heap z H locs) (hl : lv_has ls 10 [(0, .ref (B 19 x0)), (1, .ref (B 12 x1)), (2, .int x2), (3, .int x3), (4, .int x4), (5, .int x5), (6, .int x6), (7, .int x7), (8, .int x8)]), K6 x0 x1 x2 x3 x4 x5 x6 x7 x8 z = some (r, z') → W p l e rmX19_knock s m args below meth c H locs 0 0 Q (F0 m 6 ls [])) (x0 : Nat) (x1 : Nat) (x2 : Int32) (x3 : Int32) (x4 : Int32) (x5 : Int32) (x6 : Int32) (x7 : Int32) (x8 : Int32) (hx0 : (19, x0) ∈ ids) (hx1 : (12, x1) ∈ ids) {z : St} {H : Heap} {locs : List Loc} {ls : Array Slot} (hr : zRep D cy B ids A s.heap z H locs) (hl : lv_has ls 10 [(0, .ref (B 19 x0)), (1, .ref (B 12 x1)), (2, .int x2), (3, .int x3), (4, .int x4), (5, .int x5), (6, .int x6), (7, .int x7), (8, .int x8)]) (h : fX19_knock_6b N K6 x0 x1 x2 x3 x4 x5 x6 x7 x8 z = some (r, z')) : W p l e rmX19_knock s m args below meth c H locs 0 0 Q (F0 m 6 ls []) := by
  unfold fX19_knock_6b at h
  refine lv_iload F.1 F.2.1 dX19_knock_6 (lv_at hl 8 rfl) ?_
  refine lv_bipush (v := (6 : Int32)) F.1 F.2.1 dX19_knock_8 (by decide) ?_
  refine lv_icmp_ge (tgt := 67) F.1 F.2.1 dX19_knock_10 (by decide) (fun c1 => ?_) (fun c1 => ?_)
  · replace h := zi_t c1 h
    refine lv_aload_n F.1 F.2.1 dX19_knock_67 rfl (lv_at hl 1 rfl) ?_
    replace h := zc_some h
    obtain ⟨r2, z3, hc4, h⟩ := h
    refine zr_calli (zrun_S (As := [.ref (B 12 x1)]) (rest := []) zq_2737 zq_2738 zq_2739 zq_4 hdX19_leastFree (okX19_leastFree l D cy B ids hst N x1 hx1 hr.2.2 hc4) F hr hl.1 rfl (by decide) dX19_knock_68 rfl rfl hroX19_knock_X19_leastFree ⟨Nat.zero_le _, Nat.zero_le _⟩) F hA hr (fun H locs hw5 hr => ?_)
    clear hc4
    refine lv_istore (lv' := [(8, .int r2), (0, .ref (B 19 x0)), (1, .ref (B 12 x1)), (2, .int x2), (3, .int x3), (4, .int x4), (5, .int x5), (6, .int x6), (7, .int x7)]) F.1 F.2.1 dX19_knock_71 hl (by decide) rfl (fun ls hl => ?_)
    refine lv_iload F.1 F.2.1 dX19_knock_73 (lv_at hl 8 rfl) ?_
    refine lv_aload_n F.1 F.2.1 dX19_knock_75 rfl (lv_at hl 2 rfl) ?_
    refine gf19_340 F hx1 hr dX19_knock_76 ?_
    refine lv_iload_n F.1 F.2.1 dX19_knock_79 rfl (lv_at hl 3 rfl) ?_
    replace h := zk_some h
    obtain ⟨c6, h⟩ := h
    refine zr_aaldv (k := 158) (by decide) rfl rfl (zlen_d (by decide)) F (zal_a F hx1 (j := 28) rfl) hr dX19_knock_80 c6 (fun y7 ey7 => ?_)
    replace h := zl_sub ey7 h
    have hy7 := zal_q hr (zal_a F hx1 (j := 28) rfl) rfl ey7
    clear ey7
    replace h := zd_some h
    obtain ⟨a8, rfl, h⟩ := h
    refine gf19_794 F (hy7 _ rfl) hr dX19_knock_81 ?_
    refine lv_icmp_ge (tgt := 93) F.1 F.2.1 dX19_knock_84 (by decide) (fun c9 => ?_) (fun c9 => ?_)
    · replace h := zi_t c9 h
      obtain ⟨rfl, rfl⟩ := zret h
      exact E _ _ _ _ dX19_knock_93 trivial hr
    · replace h := zi_f c9 h
      refine lv_iload F.1 F.2.1 dX19_knock_87 (lv_at hl 0 rfl) ?_
      refine lv_iconst (v := (-1 : Int32)) F.1 F.2.1 dX19_knock_89 (by decide) ?_
      refine lv_icmp_ne (tgt := 94) F.1 F.2.1 dX19_knock_90 (by decide) (fun c10 => ?_) (fun c10 => ?_)
      · replace h := zi_t c10 h
        refine lv_aload_n F.1 F.2.1 dX19_knock_94 rfl (lv_at hl 2 rfl) ?_
        refine gf19_340 F hx1 hr dX19_knock_95 ?_
        refine lv_iload F.1 F.2.1 dX19_knock_98 (lv_at hl 0 rfl) ?_
        replace h := zk_some h
        obtain ⟨c11, h⟩ := h
        refine zr_aaldv (k := 158) (by decide) rfl rfl (zlen_d (by decide)) F (zal_a F hx1 (j := 28) rfl) hr dX19_knock_100 c11 (fun y12 ey12 => ?_)
        replace h := zl_sub ey12 h
        have hy12 := zal_q hr (zal_a F hx1 (j := 28) rfl) rfl ey12
        clear ey12
        refine zr_astore (lv' := [(9, va_rf (Option.map (B 13) y12)), (8, .int r2), (0, .ref (B 19 x0)), (1, .ref (B 12 x1)), (2, .int x2), (3, .int x3), (4, .int x4), (5, .int x5), (6, .int x6), (7, .int x7)]) F.1 F.2.1 dX19_knock_101 hl (by decide) rfl (fun ls hl => ?_)
        refine lv_aload_n F.1 F.2.1 dX19_knock_103 rfl (lv_at hl 2 rfl) ?_
        refine lv_aload_n F.1 F.2.1 dX19_knock_104 rfl (lv_at hl 3 rfl) ?_
        refine zr_aload F.1 F.2.1 dX19_knock_105 (lv_at hl 0 rfl) ?_
        refine lv_iload F.1 F.2.1 dX19_knock_107 (lv_at hl 6 rfl) ?_
        refine lv_iload F.1 F.2.1 dX19_knock_109 (lv_at hl 7 rfl) ?_
        refine lv_iload F.1 F.2.1 dX19_knock_111 (lv_at hl 8 rfl) ?_
        replace h := zd_some h
        obtain ⟨a13, rfl, h⟩ := h
        replace h := zc_some h
        obtain ⟨r14, z15, hc16, h⟩ := h
        refine zr_callv (zrun_V (As := [.ref (B 12 x1), .ref (B 13 a13), .int x4, .int x5, .int x6]) (rest := []) zq_2740 zq_2742 zs_X19_giveEnd zq_2743 zq_4 hdX19_giveEnd (by decide) (T := TX19) (N := 32) rfl (okX19_giveEnd l D cy B ids hst N x0 hx0 x1 hx1 a13 (hy12 _ rfl) x4  x5  x6  hr.2.2 hc16) F hr hx0 hl.1 rfl (by decide) dX19_knock_113 rfl rfl hroX19_knock_X19_giveEnd ⟨Nat.zero_le _, Nat.zero_le _⟩) F hA hr (fun H locs hw17 hr => ?_)
        clear hc16
        refine lv_aload F.1 F.2.1 dX19_knock_116 (lv_at hl 0 rfl) ?_
        refine lv_iload_n F.1 F.2.1 dX19_knock_118 rfl (lv_at hl 4 rfl) ?_
        refine pf19_761 F (hy12 _ rfl) hr dX19_knock_119 x2 (fun H locs z18 ez18 hr => ?_)
        replace h := zl_sub ez18 h
        clear ez18
        refine lv_aload F.1 F.2.1 dX19_knock_122 (lv_at hl 0 rfl) ?_
        refine lv_iconst (v := (1 : Int32)) F.1 F.2.1 dX19_knock_124 (by decide) ?_
        refine pf19_764 F (hy12 _ rfl) hr dX19_knock_125 (1 : Int32) (by decide) (fun H locs z19 ez19 hr => ?_)
        replace h := zl_sub ez19 h
        clear ez19
        refine lv_aload F.1 F.2.1 dX19_knock_128 (lv_at hl 0 rfl) ?_
        refine gf19_344 F (hy12 _ rfl) hr dX19_knock_130 (fun y20 ey20 => ?_)
        replace h := zl_sub ey20 h
        have hy20 := zal_g hr (hy12 _ rfl) (j := 4) rfl ey20
        clear ey20
        refine lv_iconst (v := (1 : Int32)) F.1 F.2.1 dX19_knock_133 (by decide) ?_
        replace h := zd_some h
        obtain ⟨a21, rfl, h⟩ := h
        refine pf19_353 F (hy20 _ rfl) hr dX19_knock_134 (1 : Int32) (fun H locs z22 ez22 hr => ?_)
        replace h := zl_sub ez22 h
        clear ez22
        refine lv_aload F.1 F.2.1 dX19_knock_137 (lv_at hl 0 rfl) ?_
        refine gf19_344 F (hy12 _ rfl) hr dX19_knock_139 (fun y23 ey23 => ?_)
        replace h := zl_sub ey23 h
        have hy23 := zal_g hr (hy12 _ rfl) (j := 4) rfl ey23
        clear ey23
        refine lv_iconst (v := (1 : Int32)) F.1 F.2.1 dX19_knock_142 (by decide) ?_
        replace h := zd_some h
        obtain ⟨a24, rfl, h⟩ := h
        refine pf19_631 F (hy23 _ rfl) hr dX19_knock_143 (1 : Int32) (by decide) (fun H locs z25 ez25 hr => ?_)
        replace h := zl_sub ez25 h
        clear ez25
        refine lv_aload_n F.1 F.2.1 dX19_knock_146 rfl (lv_at hl 2 rfl) ?_
        refine lv_aload F.1 F.2.1 dX19_knock_147 (lv_at hl 0 rfl) ?_
        refine gf19_344 F (hy12 _ rfl) hr dX19_knock_149 (fun y26 ey26 => ?_)
        replace h := zl_sub ey26 h
        have hy26 := zal_g hr (hy12 _ rfl) (j := 4) rfl ey26
        clear ey26
        refine lv_iload_n F.1 F.2.1 dX19_knock_152 rfl (lv_at hl 5 rfl) ?_
        replace h := zd_some h
        obtain ⟨a27, rfl, h⟩ := h
        replace h := zc_some h
        obtain ⟨r28, z29, hc30, h⟩ := h
        refine zr_calli (zrun_V (As := [.ref (B 14 a27), .int x3]) (rest := []) zq_2655 zq_2657 zs_X19_arrives zq_2658 zq_4 hdX19_arrives (by decide) (T := TX19) (N := 32) rfl (okX19_arrives l D cy B ids hst N x0 hx0 a27 (hy26 _ rfl) x3  hr.2.2 hc30) F hr hx0 hl.1 rfl (by decide) dX19_knock_153 rfl rfl hroX19_knock_X19_arrives ⟨Nat.zero_le _, Nat.zero_le _⟩) F hA hr (fun H locs hw31 hr => ?_)
        clear hc30
        refine lv_pop F.1 F.2.1 dX19_knock_156 rfl ?_
        obtain ⟨rfl, rfl⟩ := zret h
        exact E _ _ _ _ dX19_knock_157 trivial hr
      · replace h := zi_f (fun q => q c10) h
        obtain ⟨rfl, rfl⟩ := zret h
        exact E _ _ _ _ dX19_knock_93 trivial hr
  · replace h := zi_f c1 h
    refine lv_aload_n F.1 F.2.1 dX19_knock_13 rfl (lv_at hl 1 rfl) ?_
    refine gf19_340 F hx1 hr dX19_knock_14 ?_
    refine lv_iload F.1 F.2.1 dX19_knock_17 (lv_at hl 8 rfl) ?_
    replace h := zk_some h
    obtain ⟨c32, h⟩ := h
    refine zr_aaldv (k := 158) (by decide) rfl rfl (zlen_d (by decide)) F (zal_a F hx1 (j := 28) rfl) hr dX19_knock_19 c32 (fun y33 ey33 => ?_)
    replace h := zl_sub ey33 h
    have hy33 := zal_q hr (zal_a F hx1 (j := 28) rfl) rfl ey33
    clear ey33
    refine zr_astore (lv' := [(9, va_rf (Option.map (B 13) y33)), (0, .ref (B 19 x0)), (1, .ref (B 12 x1)), (2, .int x2), (3, .int x3), (4, .int x4), (5, .int x5), (6, .int x6), (7, .int x7), (8, .int x8)]) F.1 F.2.1 dX19_knock_20 hl (by decide) rfl (fun ls hl => ?_)
    refine lv_iload F.1 F.2.1 dX19_knock_22 (lv_at hl 8 rfl) ?_
    refine zr_aload F.1 F.2.1 dX19_knock_24 (lv_at hl 0 rfl) ?_
    replace h := zd_some h
    obtain ⟨a34, rfl, h⟩ := h
    refine gf19_350 F (hy33 _ rfl) hr dX19_knock_26 ?_
    refine lv_if_eq (tgt := 57) F.1 F.2.1 dX19_knock_29 (by decide) (fun c35 => ?_) (fun c35 => ?_)
    · replace h := zi_t c35 h
      exact bX19_knock_57 hst F hA E hK6 x0 x1 x2 x3 x4 x5 x6 x8 x7 hx0 hx1 hr (lv_sub hl [1, 2, 3, 4, 5, 6, 7, 9] rfl) h
    · replace h := zi_f c35 h
      refine lv_aload F.1 F.2.1 dX19_knock_32 (lv_at hl 0 rfl) ?_
      refine gf19_761 F (hy33 _ rfl) hr dX19_knock_34 ?_
      refine lv_iload_n F.1 F.2.1 dX19_knock_37 rfl (lv_at hl 3 rfl) ?_
      refine lv_icmp_ne (tgt := 57) F.1 F.2.1 dX19_knock_38 (by decide) (fun c36 => ?_) (fun c36 => ?_)
      · replace h := zi_t c36 h
        exact bX19_knock_57 hst F hA E hK6 x0 x1 x2 x3 x4 x5 x6 x8 x7 hx0 hx1 hr (lv_sub hl [1, 2, 3, 4, 5, 6, 7, 9] rfl) h
      · replace h := zi_f (fun q => q c36) h
        refine lv_aload F.1 F.2.1 dX19_knock_41 (lv_at hl 0 rfl) ?_
        refine gf19_344 F (hy33 _ rfl) hr dX19_knock_43 (fun y37 ey37 => ?_)
        replace h := zl_sub ey37 h
        have hy37 := zal_g hr (hy33 _ rfl) (j := 4) rfl ey37
        clear ey37
        replace h := zd_some h
        obtain ⟨a38, rfl, h⟩ := h
        refine gf19_353 F (hy37 _ rfl) hr dX19_knock_46 ?_
        refine lv_iconst (v := (3 : Int32)) F.1 F.2.1 dX19_knock_49 (by decide) ?_
        refine lv_icmp_ne (tgt := 57) F.1 F.2.1 dX19_knock_50 (by decide) (fun c39 => ?_) (fun c39 => ?_)
        · replace h := zi_t c39 h
          exact bX19_knock_57 hst F hA E hK6 x0 x1 x2 x3 x4 x5 x6 x8 x7 hx0 hx1 hr (lv_sub hl [1, 2, 3, 4, 5, 6, 7, 9] rfl) h
        · replace h := zi_f (fun q => q c39) h
          refine lv_iconst (v := (1 : Int32)) F.1 F.2.1 dX19_knock_53 (by decide) ?_
          refine lv_goto (tgt := 58) F.1 F.2.1 dX19_knock_54 (by decide) ?_
          exact bX19_knock_58 hst F hA E hK6 x0 x1 x2 x3 x4 x5 x6 x8 x7 (1 : Int32) hx0 hx1 hr (lv_sub hl [1, 2, 3, 4, 5, 6, 7, 9] rfl) h
theorem lX19_knock_6 (hst : zSt B ids) (F : zFx p m c cX19_knock 10 s args RX19 D cy B ids A) (hA : ∀ q : Nat, s.heap.size ≤ q → A q) {r : Int32} {z' : St} (E : zEnd p l e rmX19_knock s m args below meth c cX19_knock D cy B ids A Q none z' .return_ True) {N : Nat}  : ∀ (n : Nat) (x0 : Nat) (x1 : Nat) (x2 : Int32) (x3 : Int32) (x4 : Int32) (x5 : Int32) (x6 : Int32) (x7 : Int32) (x8 : Int32) (hx0 : (19, x0) ∈ ids) (hx1 : (12, x1) ∈ ids) {z : St} {H : Heap} {locs : List Loc} {ls : Array Slot} (hr : zRep D cy B ids A s.heap z H locs) (hl : lv_has ls 10 [(0, .ref (B 19 x0)), (1, .ref (B 12 x1)), (2, .int x2), (3, .int x3), (4, .int x4), (5, .int x5), (6, .int x6), (7, .int x7), (8, .int x8)]), fX19_knock_6 N  n x0 x1 x2 x3 x4 x5 x6 x7 x8 z = some (r, z') → W p l e rmX19_knock s m args below meth c H locs 0 0 Q (F0 m 6 ls []) := by
  intro n
  induction n with
  | zero => intro x0 x1 x2 x3 x4 x5 x6 x7 x8 hx0 hx1 z H locs ls hr hl h; cases h
  | succ n ih => intro x0 x1 x2 x3 x4 x5 x6 x7 x8 hx0 hx1 z H locs ls hr hl h; exact bX19_knock_6 hst F hA E ih x0 x1 x2 x3 x4 x5 x6 x7 x8 hx0 hx1 hr hl h
def fX19_knock (N : Nat)  (x0 : Nat) (x1 : Nat) (x2 : Int32) (x3 : Int32) (x4 : Int32) (x5 : Int32) (x6 : Int32) (z : St) : Option (Int32 × St) := fX19_knock_6 N N x0 x1 x2 x3 x4 x5 x6 (0 : Int32) (0 : Int32) z
set_option maxHeartbeats 4000000 in
set_option maxRecDepth 100000 in
theorem bX19_knock_0 (hst : zSt B ids) (F : zFx p m c cX19_knock 10 s args RX19 D cy B ids A) (hA : ∀ q : Nat, s.heap.size ≤ q → A q) {r : Int32} {z' : St} (E : zEnd p l e rmX19_knock s m args below meth c cX19_knock D cy B ids A Q none z' .return_ True) {N : Nat}  (x0 : Nat) (x1 : Nat) (x2 : Int32) (x3 : Int32) (x4 : Int32) (x5 : Int32) (x6 : Int32) (hx0 : (19, x0) ∈ ids) (hx1 : (12, x1) ∈ ids) {z : St} {H : Heap} {locs : List Loc} {ls : Array Slot} (hr : zRep D cy B ids A s.heap z H locs) (hl : lv_has ls 10 [(0, .ref (B 19 x0)), (1, .ref (B 12 x1)), (2, .int x2), (3, .int x3), (4, .int x4), (5, .int x5), (6, .int x6)]) (h : fX19_knock N x0 x1 x2 x3 x4 x5 x6 z = some (r, z')) : W p l e rmX19_knock s m args below meth c H locs 0 0 Q (F0 m 0 ls []) := by
  unfold fX19_knock at h
  refine lv_iconst (v := (0 : Int32)) F.1 F.2.1 dX19_knock_0 (by decide) ?_
  refine lv_istore (lv' := [(7, .int (0 : Int32)), (0, .ref (B 19 x0)), (1, .ref (B 12 x1)), (2, .int x2), (3, .int x3), (4, .int x4), (5, .int x5), (6, .int x6)]) F.1 F.2.1 dX19_knock_1 hl (by decide) rfl (fun ls hl => ?_)
  refine lv_iconst (v := (0 : Int32)) F.1 F.2.1 dX19_knock_3 (by decide) ?_
  refine lv_istore (lv' := [(8, .int (0 : Int32)), (7, .int (0 : Int32)), (0, .ref (B 19 x0)), (1, .ref (B 12 x1)), (2, .int x2), (3, .int x3), (4, .int x4), (5, .int x5), (6, .int x6)]) F.1 F.2.1 dX19_knock_4 hl (by decide) rfl (fun ls hl => ?_)
  exact lX19_knock_6 hst F hA E  _ x0 x1 x2 x3 x4 x5 x6 (0 : Int32) (0 : Int32) hx0 hx1 hr (lv_sub hl [2, 3, 4, 5, 6, 7, 8, 1, 0] rfl) h
end SX19_knock
set_option maxRecDepth 100000 in
theorem okX19_knock (l : Launch) (D : va_G) (cy : Nat → ClassId) (B : Nat → Nat → Nat) (ids : List (Nat × Nat)) (hst : zSt B ids) (N : Nat) (x0 : Nat) (hx0 : (19, x0) ∈ ids) (x1 : Nat) (hx1 : (12, x1) ∈ ids) (x2 : Int32) (x3 : Int32) (x4 : Int32) (x5 : Int32) (x6 : Int32) {z : St} {r : Int32} {z' : St} (hW : zWf ids z) (h : fX19_knock N x0 x1 x2 x3 x4 x5 x6 z = some (r, z')) : zM l yX19_knock (zws yX19_knock cX19_knock 10 none) rmX19_knock D cy B ids [.ref (B 19 x0), .ref (B 12 x1), .int x2, .int x3, .int x4, .int x5, .int x6] none True z z' :=
  zM_of hst hW (by decide +kernel) (Nat.le_of_ble_eq_true rfl) (fun p e s m args below meth c A ls F hA hret hlocks hr hl => bX19_knock_0 hst F hA (zEnd_v F hret hlocks) x0 x1 x2 x3 x4 x5 x6 hx0 hx1 hr hl h)
abbrev rmX19_say : Room := { frames := 9, cells := 0, slots := 0, locals := 232 }
theorem hdX19_say : yX19_say.cls ≠ "java/lang/invoke/MethodHandle" ∧ yX19_say.cls ≠ "java/lang/invoke/VarHandle" ∧ (parseMethodDescriptor yX19_say.desc).map (fun d => d.parameters.length) = some 5 := by decide +kernel
theorem hroX19_say_X18_address : rmX18_address.frames + 1 ≤ rmX19_say.frames ∧ 8 + (1 + 11) + rmX18_address.locals ≤ rmX19_say.locals := by decide
theorem hroX19_say_X19_drop : rmX19_drop.frames + 1 ≤ rmX19_say.frames ∧ 8 + (2 + 11) + rmX19_drop.locals ≤ rmX19_say.locals := by decide
theorem hroX19_say_X19_hostSends : rmX19_hostSends.frames + 1 ≤ rmX19_say.frames ∧ 8 + (6 + 11) + rmX19_hostSends.locals ≤ rmX19_say.locals := by decide
theorem hroX19_say_X19_make : rmX19_make.frames + 1 ≤ rmX19_say.frames ∧ 8 + (7 + 11) + rmX19_make.locals ≤ rmX19_say.locals := by decide
theorem hroX19_say_X19_seg : rmX19_seg.frames + 1 ≤ rmX19_say.frames ∧ 8 + (3 + 11) + rmX19_seg.locals ≤ rmX19_say.locals := by decide
theorem hroX19_say_X19_set : rmX19_set.frames + 1 ≤ rmX19_say.frames ∧ 8 + (4 + 11) + rmX19_set.locals ≤ rmX19_say.locals := by decide
theorem hroX19_say_X19_setSeg : rmX19_setSeg.frames + 1 ≤ rmX19_say.frames ∧ 8 + (4 + 11) + rmX19_setSeg.locals ≤ rmX19_say.locals := by decide
section SX19_say
variable {p : Program} {l : Launch} {e : Env} {s : State} {m : MethodId} {args : Array Value} {below : List Frame} {meth : Method} {c : Code} {Q : State → Prop} {D : va_G} {cy : Nat → ClassId} {B : Nat → Nat → Nat} {ids : List (Nat × Nat)} {A : Nat → Prop}
def fX19_say (N : Nat)  (x0 : Nat) (x1 : Nat) (x2 : Int32) (x3 : Int32) (x4 : Int32) (x5 : Int32) (z : St) : Option (Int32 × St) := zc (fX19_setSeg N x0 x2 (0 : Int32) x3 z) fun _ z2 => zc (fX19_setSeg N x0 x2 (1 : Int32) x5 z2) fun _ z6 => zc (fX19_seg N x0 x2 (7 : Int32) z6) fun r9 z10 => zk (0 : Int32) 6 <| zl (zgQ z10 147 x1 (Int32.toNatClampNeg (0 : Int32))) fun y14 => zd y14 fun a15 => zc (fX18_address N a15 z10) fun r16 z17 => zc (fX19_make N x0 x1 (1 : Int32) ((20 : Int32) + r9) r16 x4 z17) fun r20 z21 => zc (fX19_set N x0 r20 (10 : Int32) x2 z21) fun _ z25 => zc (fX19_hostSends N x0 x1 r20 z25) fun _ z29 => zc (fX19_drop N x0 r20 z29) fun _ z33 => some (0, z33)
set_option maxHeartbeats 4000000 in
set_option maxRecDepth 100000 in
theorem bX19_say_0 (hst : zSt B ids) (F : zFx p m c cX19_say 7 s args RX19 D cy B ids A) (hA : ∀ q : Nat, s.heap.size ≤ q → A q) {r : Int32} {z' : St} (E : zEnd p l e rmX19_say s m args below meth c cX19_say D cy B ids A Q none z' .return_ True) {N : Nat}  (x0 : Nat) (x1 : Nat) (x2 : Int32) (x3 : Int32) (x4 : Int32) (x5 : Int32) (hx0 : (19, x0) ∈ ids) (hx1 : (12, x1) ∈ ids) {z : St} {H : Heap} {locs : List Loc} {ls : Array Slot} (hr : zRep D cy B ids A s.heap z H locs) (hl : lv_has ls 7 [(0, .ref (B 19 x0)), (1, .ref (B 12 x1)), (2, .int x2), (3, .int x3), (4, .int x4), (5, .int x5)]) (h : fX19_say N x0 x1 x2 x3 x4 x5 z = some (r, z')) : W p l e rmX19_say s m args below meth c H locs 0 0 Q (F0 m 0 ls []) := by
  unfold fX19_say at h
  refine lv_aload_n F.1 F.2.1 dX19_say_0 rfl (lv_at hl 0 rfl) ?_
  refine lv_iload_n F.1 F.2.1 dX19_say_1 rfl (lv_at hl 2 rfl) ?_
  refine lv_iconst (v := (0 : Int32)) F.1 F.2.1 dX19_say_2 (by decide) ?_
  refine lv_iload_n F.1 F.2.1 dX19_say_3 rfl (lv_at hl 3 rfl) ?_
  replace h := zc_some h
  obtain ⟨r1, z2, hc3, h⟩ := h
  refine zr_callv (zrun_V (As := [.int x2, .int (0 : Int32), .int x3]) (rest := []) zq_2757 zq_2759 zs_X19_setSeg zq_2760 zq_4 hdX19_setSeg (by decide) (T := TX19) (N := 32) rfl (okX19_setSeg l D cy B ids hst N x0 hx0 x2  (0 : Int32)  x3  hr.2.2 hc3) F hr hx0 hl.1 rfl (by decide) dX19_say_4 rfl rfl hroX19_say_X19_setSeg ⟨Nat.zero_le _, Nat.zero_le _⟩) F hA hr (fun H locs hw4 hr => ?_)
  clear hc3
  refine lv_aload_n F.1 F.2.1 dX19_say_7 rfl (lv_at hl 0 rfl) ?_
  refine lv_iload_n F.1 F.2.1 dX19_say_8 rfl (lv_at hl 2 rfl) ?_
  refine lv_iconst (v := (1 : Int32)) F.1 F.2.1 dX19_say_9 (by decide) ?_
  refine lv_iload F.1 F.2.1 dX19_say_10 (lv_at hl 5 rfl) ?_
  replace h := zc_some h
  obtain ⟨r5, z6, hc7, h⟩ := h
  refine zr_callv (zrun_V (As := [.int x2, .int (1 : Int32), .int x5]) (rest := []) zq_2757 zq_2759 zs_X19_setSeg zq_2760 zq_4 hdX19_setSeg (by decide) (T := TX19) (N := 32) rfl (okX19_setSeg l D cy B ids hst N x0 hx0 x2  (1 : Int32)  x5  hr.2.2 hc7) F hr hx0 hl.1 rfl (by decide) dX19_say_12 rfl rfl hroX19_say_X19_setSeg ⟨Nat.zero_le _, Nat.zero_le _⟩) F hA hr (fun H locs hw8 hr => ?_)
  clear hc7
  refine lv_aload_n F.1 F.2.1 dX19_say_15 rfl (lv_at hl 0 rfl) ?_
  refine lv_aload_n F.1 F.2.1 dX19_say_16 rfl (lv_at hl 1 rfl) ?_
  refine lv_iconst (v := (1 : Int32)) F.1 F.2.1 dX19_say_17 (by decide) ?_
  refine lv_bipush (v := (20 : Int32)) F.1 F.2.1 dX19_say_18 (by decide) ?_
  refine lv_aload_n F.1 F.2.1 dX19_say_20 rfl (lv_at hl 0 rfl) ?_
  refine lv_iload_n F.1 F.2.1 dX19_say_21 rfl (lv_at hl 2 rfl) ?_
  refine lv_bipush (v := (7 : Int32)) F.1 F.2.1 dX19_say_22 (by decide) ?_
  replace h := zc_some h
  obtain ⟨r9, z10, hc11, h⟩ := h
  refine zr_calli (zrun_V (As := [.int x2, .int (7 : Int32)]) (rest := [.int (20 : Int32), .int (1 : Int32), .ref (B 12 x1), .ref (B 19 x0)]) zq_2557 zq_2559 zs_X19_seg zq_2560 zq_4 hdX19_seg (by decide) (T := TX19) (N := 32) rfl (okX19_seg l D cy B ids hst N x0 hx0 x2  (7 : Int32)  hr.2.2 hc11) F hr hx0 hl.1 rfl (Nat.le_of_ble_eq_true rfl) dX19_say_24 rfl rfl hroX19_say_X19_seg ⟨Nat.zero_le _, Nat.zero_le _⟩) F hA hr (fun H locs hw12 hr => ?_)
  clear hc11
  refine lv_iadd F.1 F.2.1 dX19_say_27 ?_
  refine lv_aload_n F.1 F.2.1 dX19_say_28 rfl (lv_at hl 1 rfl) ?_
  refine gf19_276 F hx1 hr dX19_say_29 ?_
  refine lv_iconst (v := (0 : Int32)) F.1 F.2.1 dX19_say_32 (by decide) ?_
  replace h := zk_some h
  obtain ⟨c13, h⟩ := h
  refine zr_aaldv (k := 147) (by decide) rfl rfl (zlen_d (by decide)) F (zal_a F hx1 (j := 2) rfl) hr dX19_say_33 c13 (fun y14 ey14 => ?_)
  replace h := zl_sub ey14 h
  have hy14 := zal_q hr (zal_a F hx1 (j := 2) rfl) rfl ey14
  clear ey14
  replace h := zd_some h
  obtain ⟨a15, rfl, h⟩ := h
  replace h := zc_some h
  obtain ⟨r16, z17, hc18, h⟩ := h
  refine zr_calli (zrun_VN (As := []) (rest := [.int ((20 : Int32) + r9), .int (1 : Int32), .ref (B 12 x1), .ref (B 19 x0)]) zn_2520 zq_2522 zs_X18_address zq_2523 zq_25 hdX18_address (by decide) (T := TX18) (N := 13) rfl (okX18_address l D cy B ids hst N a15 (hy14 _ rfl) hr.2.2 hc18) F hr (hy14 _ rfl) hl.1 rfl (Nat.le_of_ble_eq_true rfl) dX19_say_34 rfl rfl hroX19_say_X18_address ⟨Nat.zero_le _, Nat.zero_le _⟩) F hA hr (fun H locs hw19 hr => ?_)
  clear hc18
  refine lv_iload F.1 F.2.1 dX19_say_37 (lv_at hl 4 rfl) ?_
  replace h := zc_some h
  obtain ⟨r20, z21, hc22, h⟩ := h
  refine zr_calli (zrun_V (As := [.ref (B 12 x1), .int (1 : Int32), .int ((20 : Int32) + r9), .int r16, .int x4]) (rest := []) zq_2765 zq_2767 zs_X19_make zq_2768 zq_4 hdX19_make (by decide) (T := TX19) (N := 32) rfl (okX19_make l D cy B ids hst N x0 hx0 x1 hx1 (1 : Int32)  ((20 : Int32) + r9)  r16  x4  hr.2.2 hc22) F hr hx0 hl.1 rfl (by decide) dX19_say_39 rfl rfl hroX19_say_X19_make ⟨Nat.zero_le _, Nat.zero_le _⟩) F hA hr (fun H locs hw23 hr => ?_)
  clear hc22
  refine lv_istore (lv' := [(6, .int r20), (0, .ref (B 19 x0)), (1, .ref (B 12 x1)), (2, .int x2), (3, .int x3), (4, .int x4), (5, .int x5)]) F.1 F.2.1 dX19_say_42 hl (by decide) rfl (fun ls hl => ?_)
  refine lv_aload_n F.1 F.2.1 dX19_say_44 rfl (lv_at hl 1 rfl) ?_
  refine lv_iload F.1 F.2.1 dX19_say_45 (lv_at hl 0 rfl) ?_
  refine lv_bipush (v := (10 : Int32)) F.1 F.2.1 dX19_say_47 (by decide) ?_
  refine lv_iload_n F.1 F.2.1 dX19_say_49 rfl (lv_at hl 3 rfl) ?_
  replace h := zc_some h
  obtain ⟨r24, z25, hc26, h⟩ := h
  refine zr_callv (zrun_V (As := [.int r20, .int (10 : Int32), .int x2]) (rest := []) zq_2623 zq_2625 zs_X19_set zq_2626 zq_4 hdX19_set (by decide) (T := TX19) (N := 32) rfl (okX19_set l D cy B ids hst N x0 hx0 r20  (10 : Int32)  x2  hr.2.2 hc26) F hr hx0 hl.1 rfl (by decide) dX19_say_50 rfl rfl hroX19_say_X19_set ⟨Nat.zero_le _, Nat.zero_le _⟩) F hA hr (fun H locs hw27 hr => ?_)
  clear hc26
  refine lv_aload_n F.1 F.2.1 dX19_say_53 rfl (lv_at hl 1 rfl) ?_
  refine lv_aload_n F.1 F.2.1 dX19_say_54 rfl (lv_at hl 2 rfl) ?_
  refine lv_iload F.1 F.2.1 dX19_say_55 (lv_at hl 0 rfl) ?_
  replace h := zc_some h
  obtain ⟨r28, z29, hc30, h⟩ := h
  refine zr_callv (zrun_V (As := [.ref (B 12 x1), .int r20]) (rest := []) zq_2773 zq_2775 zs_X19_hostSends zq_2776 zq_4 hdX19_hostSends (by decide) (T := TX19) (N := 32) rfl (okX19_hostSends l D cy B ids hst N x0 hx0 x1 hx1 r20  hr.2.2 hc30) F hr hx0 hl.1 rfl (by decide) dX19_say_57 rfl rfl hroX19_say_X19_hostSends ⟨Nat.zero_le _, Nat.zero_le _⟩) F hA hr (fun H locs hw31 hr => ?_)
  clear hc30
  refine lv_aload_n F.1 F.2.1 dX19_say_60 rfl (lv_at hl 1 rfl) ?_
  refine lv_iload F.1 F.2.1 dX19_say_61 (lv_at hl 0 rfl) ?_
  replace h := zc_some h
  obtain ⟨r32, z33, hc34, h⟩ := h
  refine zr_callv (zrun_V (As := [.int r20]) (rest := []) zq_2545 zq_2547 zs_X19_drop zq_2548 zq_4 hdX19_drop (by decide) (T := TX19) (N := 32) rfl (okX19_drop l D cy B ids hst N x0 hx0 r20  hr.2.2 hc34) F hr hx0 hl.1 rfl (by decide) dX19_say_63 rfl rfl hroX19_say_X19_drop ⟨Nat.zero_le _, Nat.zero_le _⟩) F hA hr (fun H locs hw35 hr => ?_)
  clear hc34
  obtain ⟨rfl, rfl⟩ := zret h
  exact E _ _ _ _ dX19_say_66 trivial hr
end SX19_say
set_option maxRecDepth 100000 in
theorem okX19_say (l : Launch) (D : va_G) (cy : Nat → ClassId) (B : Nat → Nat → Nat) (ids : List (Nat × Nat)) (hst : zSt B ids) (N : Nat) (x0 : Nat) (hx0 : (19, x0) ∈ ids) (x1 : Nat) (hx1 : (12, x1) ∈ ids) (x2 : Int32) (x3 : Int32) (x4 : Int32) (x5 : Int32) {z : St} {r : Int32} {z' : St} (hW : zWf ids z) (h : fX19_say N x0 x1 x2 x3 x4 x5 z = some (r, z')) : zM l yX19_say (zws yX19_say cX19_say 7 none) rmX19_say D cy B ids [.ref (B 19 x0), .ref (B 12 x1), .int x2, .int x3, .int x4, .int x5] none True z z' :=
  zM_of hst hW (by decide +kernel) (Nat.le_of_ble_eq_true rfl) (fun p e s m args below meth c A ls F hA hret hlocks hr hl => bX19_say_0 hst F hA (zEnd_v F hret hlocks) x0 x1 x2 x3 x4 x5 hx0 hx1 hr hl h)
