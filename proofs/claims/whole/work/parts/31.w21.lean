abbrev rmX19_takeFrame : Room := { frames := 0, cells := 0, slots := 0, locals := 0 }
theorem hdX19_takeFrame : yX19_takeFrame.cls ≠ "java/lang/invoke/MethodHandle" ∧ yX19_takeFrame.cls ≠ "java/lang/invoke/VarHandle" ∧ (parseMethodDescriptor yX19_takeFrame.desc).map (fun d => d.parameters.length) = some 1 := by decide +kernel
section SX19_takeFrame
variable {p : Program} {l : Launch} {e : Env} {s : State} {m : MethodId} {args : Array Value} {below : List Frame} {meth : Method} {c : Code} {Q : State → Prop} {D : va_G} {cy : Nat → ClassId} {B : Nat → Nat → Nat} {ids : List (Nat × Nat)} {A : Nat → Prop}
def fX19_takeFrame_15b (N : Nat) (K15 : Nat → Int32 → St → Option (Int32 × St)) (x0 : Nat) (x2 : Int32) (z : St) : Option (Int32 × St) := if ((7) * (zgI z 19 23 x0)) ≤ x2 then (some (0, z)) else (zk (x2 + (7)) 3584 <| zk x2 3584 <| zl (zsA z 188 x0 x2.toNatClampNeg (zgA z 188 x0 (x2 + (7)).toNatClampNeg)) fun z4 => zl (x2 + 1) fun v5 => K15 x0 v5 z4)
def fX19_takeFrame_15 (N : Nat)  : Nat → Nat → Int32 → St → Option (Int32 × St)
  | 0 => fun _ _ _ => none
  | n + 1 => fX19_takeFrame_15b N (fX19_takeFrame_15 N  n)
set_option maxHeartbeats 4000000 in
set_option maxRecDepth 100000 in
theorem bX19_takeFrame_15 (hst : zSt B ids) (F : zFx p m c cX19_takeFrame 3 s args RX19 D cy B ids A) (hA : ∀ q : Nat, s.heap.size ≤ q → A q) {r : Int32} {z' : St} (E : zEnd p l e rmX19_takeFrame s m args below meth c cX19_takeFrame D cy B ids A Q none z' .return_ True) {N : Nat} {K15 : Nat → Int32 → St → Option (Int32 × St)} (hK15 : ∀ (x0 : Nat) (x2 : Int32) (hx0 : (19, x0) ∈ ids) {z : St} {H : Heap} {locs : List Loc} {ls : Array Slot} (hr : zRep D cy B ids A s.heap z H locs) (hl : lv_has ls 3 [(0, .ref (B 19 x0)), (2, .int x2)]), K15 x0 x2 z = some (r, z') → W p l e rmX19_takeFrame s m args below meth c H locs 0 0 Q (F0 m 15 ls [])) (x0 : Nat) (x2 : Int32) (hx0 : (19, x0) ∈ ids) {z : St} {H : Heap} {locs : List Loc} {ls : Array Slot} (hr : zRep D cy B ids A s.heap z H locs) (hl : lv_has ls 3 [(0, .ref (B 19 x0)), (2, .int x2)]) (h : fX19_takeFrame_15b N K15 x0 x2 z = some (r, z')) : W p l e rmX19_takeFrame s m args below meth c H locs 0 0 Q (F0 m 15 ls []) := by
  unfold fX19_takeFrame_15b at h
  refine lv_iload_n F.1 F.2.1 dX19_takeFrame_15 rfl (lv_at hl 1 rfl) ?_
  refine lv_bipush (v := (7)) F.1 F.2.1 dX19_takeFrame_16 (by decide) ?_
  refine lv_aload_n F.1 F.2.1 dX19_takeFrame_18 rfl (lv_at hl 0 rfl) ?_
  refine gf19_171 F hx0 hr dX19_takeFrame_19 ?_
  refine lv_imul F.1 F.2.1 dX19_takeFrame_22 ?_
  refine lv_icmp_ge (tgt := 47) F.1 F.2.1 dX19_takeFrame_23 (by decide) (fun c1 => ?_) (fun c1 => ?_)
  · replace h := zi_t c1 h
    obtain ⟨rfl, rfl⟩ := zret h
    exact E _ _ _ _ dX19_takeFrame_47 trivial hr
  · replace h := zi_f c1 h
    refine lv_aload_n F.1 F.2.1 dX19_takeFrame_26 rfl (lv_at hl 0 rfl) ?_
    refine gf19_124 F hx0 hr dX19_takeFrame_27 ?_
    refine lv_iload_n F.1 F.2.1 dX19_takeFrame_30 rfl (lv_at hl 1 rfl) ?_
    refine lv_aload_n F.1 F.2.1 dX19_takeFrame_31 rfl (lv_at hl 0 rfl) ?_
    refine gf19_124 F hx0 hr dX19_takeFrame_32 ?_
    refine lv_iload_n F.1 F.2.1 dX19_takeFrame_35 rfl (lv_at hl 1 rfl) ?_
    refine lv_bipush (v := (7)) F.1 F.2.1 dX19_takeFrame_36 (by decide) ?_
    refine lv_iadd F.1 F.2.1 dX19_takeFrame_38 ?_
    obtain ⟨c2, h⟩ := zk_some h
    refine zr_iald (k := 188) (by decide) rfl (by decide) F (zal_a F hx0 (j := 22) rfl) hr dX19_takeFrame_39 c2 ?_
    obtain ⟨c3, h⟩ := zk_some h
    refine zr_iast (k := 188) (by decide) rfl (by decide) F (zal_a F hx0 (j := 22) rfl) hr dX19_takeFrame_40 c3 (fun H locs z4 ez4 hr => ?_)
    replace h := zl_sub ez4 h
    clear ez4
    obtain ⟨v5, ev5⟩ : ∃ y : Int32, y = (x2 + 1) := ⟨_, rfl⟩
    replace h := zl_sub ev5 h
    refine lv_iinc (v := v5) (lv' := [(2, .int v5), (0, .ref (B 19 x0))]) F.1 F.2.1 dX19_takeFrame_41 hl (k := 1) rfl (by rw [ev5]; rfl) (by decide) rfl (fun ls hl => ?_)
    refine lv_goto (tgt := 15) F.1 F.2.1 dX19_takeFrame_44 (by decide) ?_
    exact hK15 x0 v5 hx0 hr (lv_sub hl [1, 0] rfl) h
theorem lX19_takeFrame_15 (hst : zSt B ids) (F : zFx p m c cX19_takeFrame 3 s args RX19 D cy B ids A) (hA : ∀ q : Nat, s.heap.size ≤ q → A q) {r : Int32} {z' : St} (E : zEnd p l e rmX19_takeFrame s m args below meth c cX19_takeFrame D cy B ids A Q none z' .return_ True) {N : Nat}  : ∀ (n : Nat) (x0 : Nat) (x2 : Int32) (hx0 : (19, x0) ∈ ids) {z : St} {H : Heap} {locs : List Loc} {ls : Array Slot} (hr : zRep D cy B ids A s.heap z H locs) (hl : lv_has ls 3 [(0, .ref (B 19 x0)), (2, .int x2)]), fX19_takeFrame_15 N  n x0 x2 z = some (r, z') → W p l e rmX19_takeFrame s m args below meth c H locs 0 0 Q (F0 m 15 ls []) := by
  intro n
  induction n with
  | zero => intro x0 x2 hx0 z H locs ls hr hl h; cases h
  | succ n ih => intro x0 x2 hx0 z H locs ls hr hl h; exact bX19_takeFrame_15 hst F hA E ih x0 x2 hx0 hr hl h
def fX19_takeFrame (N : Nat)  (x0 : Nat) (x1 : Int32) (z : St) : Option (Int32 × St) := zl (zsI z 19 23 x0 ((zgI z 19 23 x0) - (1))) fun z1 => zl ((7) * x1) fun v2 => fX19_takeFrame_15 N N x0 v2 z1
set_option maxHeartbeats 4000000 in
set_option maxRecDepth 100000 in
theorem bX19_takeFrame_0 (hst : zSt B ids) (F : zFx p m c cX19_takeFrame 3 s args RX19 D cy B ids A) (hA : ∀ q : Nat, s.heap.size ≤ q → A q) {r : Int32} {z' : St} (E : zEnd p l e rmX19_takeFrame s m args below meth c cX19_takeFrame D cy B ids A Q none z' .return_ True) {N : Nat}  (x0 : Nat) (x1 : Int32) (hx0 : (19, x0) ∈ ids) {z : St} {H : Heap} {locs : List Loc} {ls : Array Slot} (hr : zRep D cy B ids A s.heap z H locs) (hl : lv_has ls 3 [(0, .ref (B 19 x0)), (1, .int x1)]) (h : fX19_takeFrame N x0 x1 z = some (r, z')) : W p l e rmX19_takeFrame s m args below meth c H locs 0 0 Q (F0 m 0 ls []) := by
  unfold fX19_takeFrame at h
  refine lv_aload_n F.1 F.2.1 dX19_takeFrame_0 rfl (lv_at hl 0 rfl) ?_
  refine lv_dup F.1 F.2.1 dX19_takeFrame_1 rfl ?_
  refine gf19_171 F hx0 hr dX19_takeFrame_2 ?_
  refine lv_iconst (v := (1)) F.1 F.2.1 dX19_takeFrame_5 (by decide) ?_
  refine lv_isub F.1 F.2.1 dX19_takeFrame_6 ?_
  refine pf19_171 F hx0 hr dX19_takeFrame_7 ((zgI z 19 23 x0) - (1)) (fun H locs z1 ez1 hr => ?_)
  replace h := zl_sub ez1 h
  clear ez1
  refine lv_bipush (v := (7)) F.1 F.2.1 dX19_takeFrame_10 (by decide) ?_
  refine lv_iload_n F.1 F.2.1 dX19_takeFrame_12 rfl (lv_at hl 1 rfl) ?_
  refine lv_imul F.1 F.2.1 dX19_takeFrame_13 ?_
  refine lv_topi (fun v2 ev2 => ?_)
  replace h := zl_sub ev2 h
  refine lv_istore_n (lv' := [(2, .int v2), (0, .ref (B 19 x0)), (1, .int x1)]) F.1 F.2.1 dX19_takeFrame_14 rfl hl (by decide) rfl (fun ls hl => ?_)
  exact lX19_takeFrame_15 hst F hA E  _ x0 v2 hx0 hr (lv_sub hl [1, 0] rfl) h
end SX19_takeFrame
set_option maxRecDepth 100000 in
theorem okX19_takeFrame (l : Launch) (D : va_G) (cy : Nat → ClassId) (B : Nat → Nat → Nat) (ids : List (Nat × Nat)) (hst : zSt B ids) (N : Nat) (x0 : Nat) (hx0 : (19, x0) ∈ ids) (x1 : Int32) {z : St} {r : Int32} {z' : St} (hW : zWf ids z) (h : fX19_takeFrame N x0 x1 z = some (r, z')) : zM l yX19_takeFrame (zws yX19_takeFrame cX19_takeFrame 3 none) rmX19_takeFrame D cy B ids [.ref (B 19 x0), .int x1] none True z z' :=
  zM_of hst hW (by decide +kernel) (Nat.le_of_ble_eq_true rfl) (fun p e s m args below meth c A ls F hA hret hlocks hr hl => bX19_takeFrame_0 hst F hA (zEnd_v F hret hlocks) x0 x1 hx0 hr hl h)
abbrev rmX19_carry : Room := { frames := 4, cells := 0, slots := 0, locals := 100 }
theorem hdX19_carry : yX19_carry.cls ≠ "java/lang/invoke/MethodHandle" ∧ yX19_carry.cls ≠ "java/lang/invoke/VarHandle" ∧ (parseMethodDescriptor yX19_carry.desc).map (fun d => d.parameters.length) = some 3 := by decide +kernel
theorem hroX19_carry_X19_copyOf : rmX19_copyOf.frames + 1 ≤ rmX19_carry.frames ∧ 8 + (4 + 11) + rmX19_copyOf.locals ≤ rmX19_carry.locals := by decide
theorem hroX19_carry_X19_drop : rmX19_drop.frames + 1 ≤ rmX19_carry.frames ∧ 8 + (2 + 11) + rmX19_drop.locals ≤ rmX19_carry.locals := by decide
theorem hroX19_carry_X19_of : rmX19_of.frames + 1 ≤ rmX19_carry.frames ∧ 8 + (3 + 11) + rmX19_of.locals ≤ rmX19_carry.locals := by decide
theorem hroX19_carry_X19_put : rmX19_put.frames + 1 ≤ rmX19_carry.frames ∧ 8 + (9 + 11) + rmX19_put.locals ≤ rmX19_carry.locals := by decide
theorem hroX19_carry_X19_set : rmX19_set.frames + 1 ≤ rmX19_carry.frames ∧ 8 + (4 + 11) + rmX19_set.locals ≤ rmX19_carry.locals := by decide
section SX19_carry
variable {p : Program} {l : Launch} {e : Env} {s : State} {m : MethodId} {args : Array Value} {below : List Frame} {meth : Method} {c : Code} {Q : State → Prop} {D : va_G} {cy : Nat → ClassId} {B : Nat → Nat → Nat} {ids : List (Nat × Nat)} {A : Nat → Prop}
def fX19_carry_144 (N : Nat) (K54 : Nat → Nat → Int32 → Int32 → Int32 → Int32 → Int32 → St → Option (Int32 × St)) (x0 : Nat) (x1 : Nat) (x2 : Int32) (x3 : Int32) (x5 : Int32) (x6 : Int32) (x7 : Int32) (x8 : Int32) (s0 : Nat) (s1 : Int32) (s2 : Int32) (s3 : Int32) (z : St) : Option (Int32 × St) := zc (fX19_set N s0 s1 s2 s3 z) fun _ z2 => zc (fX19_set N x0 x8 (8) (1) z2) fun _ z6 => zl (zgR z6 18 0 x1) fun y9 => zd y9 fun a10 => zl (zsI z6 12 7 a10 ((zgI z6 12 7 a10) + (1))) fun z11 => zc (fX19_put N x0 x1 x2 (2) (0) x8 z11) fun _ z13 => zc (fX19_drop N x0 x8 z13) fun _ z17 => zl (x7 + x5) fun v20 => K54 x0 x1 x2 x3 x5 x6 v20 z17
set_option maxHeartbeats 4000000 in
set_option maxRecDepth 100000 in
theorem bX19_carry_144 (hst : zSt B ids) (F : zFx p m c cX19_carry 9 s args RX19 D cy B ids A) (hA : ∀ q : Nat, s.heap.size ≤ q → A q) {r : Int32} {z' : St} (E : zEnd p l e rmX19_carry s m args below meth c cX19_carry D cy B ids A Q none z' .return_ True) {N : Nat} {K54 : Nat → Nat → Int32 → Int32 → Int32 → Int32 → Int32 → St → Option (Int32 × St)} (hK54 : ∀ (x0 : Nat) (x1 : Nat) (x2 : Int32) (x3 : Int32) (x5 : Int32) (x6 : Int32) (x7 : Int32) (hx0 : (19, x0) ∈ ids) (hx1 : (18, x1) ∈ ids) {z : St} {H : Heap} {locs : List Loc} {ls : Array Slot} (hr : zRep D cy B ids A s.heap z H locs) (hl : lv_has ls 9 [(0, .ref (B 19 x0)), (1, .ref (B 18 x1)), (2, .int x2), (3, .int x3), (5, .int x5), (6, .int x6), (7, .int x7)]), K54 x0 x1 x2 x3 x5 x6 x7 z = some (r, z') → W p l e rmX19_carry s m args below meth c H locs 0 0 Q (F0 m 54 ls [])) (x0 : Nat) (x1 : Nat) (x2 : Int32) (x3 : Int32) (x5 : Int32) (x6 : Int32) (x7 : Int32) (x8 : Int32) (s0 : Nat) (s1 : Int32) (s2 : Int32) (s3 : Int32) (hx0 : (19, x0) ∈ ids) (hx1 : (18, x1) ∈ ids) (hs0 : (19, s0) ∈ ids) {z : St} {H : Heap} {locs : List Loc} {ls : Array Slot} (hr : zRep D cy B ids A s.heap z H locs) (hl : lv_has ls 9 [(0, .ref (B 19 x0)), (1, .ref (B 18 x1)), (2, .int x2), (3, .int x3), (5, .int x5), (6, .int x6), (7, .int x7), (8, .int x8)]) (h : fX19_carry_144 N K54 x0 x1 x2 x3 x5 x6 x7 x8 s0 s1 s2 s3 z = some (r, z')) : W p l e rmX19_carry s m args below meth c H locs 0 0 Q (F0 m 144 ls [.int s3, .int s2, .int s1, .ref (B 19 s0)]) := by
  unfold fX19_carry_144 at h
  obtain ⟨r1, z2, hc3, h⟩ := zc_some h
  refine zr_callv (zrun_V (As := [.int s1, .int s2, .int s3]) (rest := []) zq_2623 zq_2625 zs_X19_set zq_2626 zq_4 hdX19_set (by decide) (T := TX19) (N := 32) rfl (okX19_set l D cy B ids hst N s0 hs0 s1  s2  s3  hr.2.2 hc3) F hr hs0 hl.1 rfl (by decide) dX19_carry_144 rfl rfl hroX19_carry_X19_set ⟨Nat.zero_le _, Nat.zero_le _⟩) F hA hr (fun H locs hx4 hr => ?_)
  clear hc3
  refine lv_aload_n F.1 F.2.1 dX19_carry_147 rfl (lv_at hl 0 rfl) ?_
  refine lv_iload F.1 F.2.1 dX19_carry_148 (lv_at hl 7 rfl) ?_
  refine lv_bipush (v := (8)) F.1 F.2.1 dX19_carry_150 (by decide) ?_
  refine lv_iconst (v := (1)) F.1 F.2.1 dX19_carry_152 (by decide) ?_
  obtain ⟨r5, z6, hc7, h⟩ := zc_some h
  refine zr_callv (zrun_V (As := [.int x8, .int (8), .int (1)]) (rest := []) zq_2623 zq_2625 zs_X19_set zq_2626 zq_4 hdX19_set (by decide) (T := TX19) (N := 32) rfl (okX19_set l D cy B ids hst N x0 hx0 x8  (8)  (1)  hr.2.2 hc7) F hr hx0 hl.1 rfl (by decide) dX19_carry_153 rfl rfl hroX19_carry_X19_set ⟨Nat.zero_le _, Nat.zero_le _⟩) F hA hr (fun H locs hx8 hr => ?_)
  clear hc7
  refine lv_aload_n F.1 F.2.1 dX19_carry_156 rfl (lv_at hl 1 rfl) ?_
  refine gf19_197 F hx1 hr dX19_carry_157 (fun y9 ey9 => ?_)
  replace h := zl_sub ey9 h
  have hy9 := zal_g hr hx1 (j := 0) rfl ey9
  clear ey9
  refine lv_dup F.1 F.2.1 dX19_carry_160 zrf_cat ?_
  obtain ⟨a10, rfl, h⟩ := zd_some h
  refine gf19_201 F (hy9 _ rfl) hr dX19_carry_161 ?_
  refine lv_iconst (v := (1)) F.1 F.2.1 dX19_carry_164 (by decide) ?_
  refine lv_iadd F.1 F.2.1 dX19_carry_165 ?_
  refine pf19_201 F (hy9 _ rfl) hr dX19_carry_166 ((zgI z6 12 7 a10) + (1)) (fun H locs z11 ez11 hr => ?_)
  replace h := zl_sub ez11 h
  clear ez11
  refine lv_aload_n F.1 F.2.1 dX19_carry_169 rfl (lv_at hl 0 rfl) ?_
  refine lv_aload_n F.1 F.2.1 dX19_carry_170 rfl (lv_at hl 1 rfl) ?_
  refine lv_iload_n F.1 F.2.1 dX19_carry_171 rfl (lv_at hl 2 rfl) ?_
  refine lv_iconst (v := (2)) F.1 F.2.1 dX19_carry_172 (by decide) ?_
  refine lv_iconst (v := (0)) F.1 F.2.1 dX19_carry_173 (by decide) ?_
  refine lv_iload F.1 F.2.1 dX19_carry_174 (lv_at hl 7 rfl) ?_
  obtain ⟨r12, z13, hc14, h⟩ := zc_some h
  refine zr_callv (zrun_V (As := [.ref (B 18 x1), .int x2, .int (2), .int (0), .int x8]) (rest := []) zq_2611 zq_2613 zs_X19_put zq_2614 zq_4 hdX19_put (by decide) (T := TX19) (N := 32) rfl (okX19_put l D cy B ids hst N x0 hx0 x1 hx1 x2  (2)  (0)  x8  hr.2.2 hc14) F hr hx0 hl.1 rfl (by decide) dX19_carry_176 rfl rfl hroX19_carry_X19_put ⟨Nat.zero_le _, Nat.zero_le _⟩) F hA hr (fun H locs hx15 hr => ?_)
  clear hc14
  refine lv_aload_n F.1 F.2.1 dX19_carry_179 rfl (lv_at hl 0 rfl) ?_
  refine lv_iload F.1 F.2.1 dX19_carry_180 (lv_at hl 7 rfl) ?_
  obtain ⟨r16, z17, hc18, h⟩ := zc_some h
  refine zr_callv (zrun_V (As := [.int x8]) (rest := []) zq_2545 zq_2547 zs_X19_drop zq_2548 zq_4 hdX19_drop (by decide) (T := TX19) (N := 32) rfl (okX19_drop l D cy B ids hst N x0 hx0 x8  hr.2.2 hc18) F hr hx0 hl.1 rfl (by decide) dX19_carry_182 rfl rfl hroX19_carry_X19_drop ⟨Nat.zero_le _, Nat.zero_le _⟩) F hA hr (fun H locs hx19 hr => ?_)
  clear hc18
  refine lv_iload F.1 F.2.1 dX19_carry_185 (lv_at hl 6 rfl) ?_
  refine lv_iload F.1 F.2.1 dX19_carry_187 (lv_at hl 4 rfl) ?_
  refine lv_iadd F.1 F.2.1 dX19_carry_189 ?_
  refine lv_topi (fun v20 ev20 => ?_)
  replace h := zl_sub ev20 h
  refine lv_istore (lv' := [(7, .int v20), (0, .ref (B 19 x0)), (1, .ref (B 18 x1)), (2, .int x2), (3, .int x3), (5, .int x5), (6, .int x6), (8, .int x8)]) F.1 F.2.1 dX19_carry_190 hl (by decide) rfl (fun ls hl => ?_)
  refine lv_goto (tgt := 54) F.1 F.2.1 dX19_carry_192 (by decide) ?_
  exact hK54 x0 x1 x2 x3 x5 x6 v20 hx0 hx1 hr (lv_sub hl [1, 2, 3, 4, 5, 6, 0] rfl) h
def fX19_carry_139 (N : Nat) (K54 : Nat → Nat → Int32 → Int32 → Int32 → Int32 → Int32 → St → Option (Int32 × St)) (x0 : Nat) (x1 : Nat) (x2 : Int32) (x3 : Int32) (x5 : Int32) (x6 : Int32) (x7 : Int32) (x8 : Int32) (s0 : Nat) (s1 : Int32) (s2 : Int32) (z : St) : Option (Int32 × St) := fX19_carry_144 N K54 x0 x1 x2 x3 x5 x6 x7 x8 s0 s1 s2 (1) z
set_option maxHeartbeats 4000000 in
set_option maxRecDepth 100000 in
theorem bX19_carry_139 (hst : zSt B ids) (F : zFx p m c cX19_carry 9 s args RX19 D cy B ids A) (hA : ∀ q : Nat, s.heap.size ≤ q → A q) {r : Int32} {z' : St} (E : zEnd p l e rmX19_carry s m args below meth c cX19_carry D cy B ids A Q none z' .return_ True) {N : Nat} {K54 : Nat → Nat → Int32 → Int32 → Int32 → Int32 → Int32 → St → Option (Int32 × St)} (hK54 : ∀ (x0 : Nat) (x1 : Nat) (x2 : Int32) (x3 : Int32) (x5 : Int32) (x6 : Int32) (x7 : Int32) (hx0 : (19, x0) ∈ ids) (hx1 : (18, x1) ∈ ids) {z : St} {H : Heap} {locs : List Loc} {ls : Array Slot} (hr : zRep D cy B ids A s.heap z H locs) (hl : lv_has ls 9 [(0, .ref (B 19 x0)), (1, .ref (B 18 x1)), (2, .int x2), (3, .int x3), (5, .int x5), (6, .int x6), (7, .int x7)]), K54 x0 x1 x2 x3 x5 x6 x7 z = some (r, z') → W p l e rmX19_carry s m args below meth c H locs 0 0 Q (F0 m 54 ls [])) (x0 : Nat) (x1 : Nat) (x2 : Int32) (x3 : Int32) (x5 : Int32) (x6 : Int32) (x7 : Int32) (x8 : Int32) (s0 : Nat) (s1 : Int32) (s2 : Int32) (hx0 : (19, x0) ∈ ids) (hx1 : (18, x1) ∈ ids) (hs0 : (19, s0) ∈ ids) {z : St} {H : Heap} {locs : List Loc} {ls : Array Slot} (hr : zRep D cy B ids A s.heap z H locs) (hl : lv_has ls 9 [(0, .ref (B 19 x0)), (1, .ref (B 18 x1)), (2, .int x2), (3, .int x3), (5, .int x5), (6, .int x6), (7, .int x7), (8, .int x8)]) (h : fX19_carry_139 N K54 x0 x1 x2 x3 x5 x6 x7 x8 s0 s1 s2 z = some (r, z')) : W p l e rmX19_carry s m args below meth c H locs 0 0 Q (F0 m 139 ls [.int s2, .int s1, .ref (B 19 s0)]) := by
  unfold fX19_carry_139 at h
  refine lv_iconst (v := (1)) F.1 F.2.1 dX19_carry_139 (by decide) ?_
  refine lv_goto (tgt := 144) F.1 F.2.1 dX19_carry_140 (by decide) ?_
  exact bX19_carry_144 hst F hA E hK54 x0 x1 x2 x3 x5 x6 x7 x8 s0 s1 s2 (1) hx0 hx1 hs0 hr (lv_sub hl [0, 1, 2, 3, 4, 5, 6, 7] rfl) h
def fX19_carry_110 (N : Nat) (K54 : Nat → Nat → Int32 → Int32 → Int32 → Int32 → Int32 → St → Option (Int32 × St)) (x0 : Nat) (x1 : Nat) (x2 : Int32) (x3 : Int32) (x5 : Int32) (x6 : Int32) (x7 : Int32) (x8 : Int32) (s0 : Nat) (s1 : Int32) (s2 : Int32) (s3 : Int32) (z : St) : Option (Int32 × St) := zc (fX19_set N s0 s1 s2 s3 z) fun _ z2 => zc (fX19_of N x0 x3 (7) z2) fun r5 z6 => if r5 = (1) then (fX19_carry_139 N K54 x0 x1 x2 x3 x5 x6 x7 x8 x0 x8 (7) z6) else (if x6 ≤ (x7 + x5) then (fX19_carry_144 N K54 x0 x1 x2 x3 x5 x6 x7 x8 x0 x8 (7) (0) z6) else (fX19_carry_139 N K54 x0 x1 x2 x3 x5 x6 x7 x8 x0 x8 (7) z6))
set_option maxHeartbeats 4000000 in
set_option maxRecDepth 100000 in
theorem bX19_carry_110 (hst : zSt B ids) (F : zFx p m c cX19_carry 9 s args RX19 D cy B ids A) (hA : ∀ q : Nat, s.heap.size ≤ q → A q) {r : Int32} {z' : St} (E : zEnd p l e rmX19_carry s m args below meth c cX19_carry D cy B ids A Q none z' .return_ True) {N : Nat} {K54 : Nat → Nat → Int32 → Int32 → Int32 → Int32 → Int32 → St → Option (Int32 × St)} (hK54 : ∀ (x0 : Nat) (x1 : Nat) (x2 : Int32) (x3 : Int32) (x5 : Int32) (x6 : Int32) (x7 : Int32) (hx0 : (19, x0) ∈ ids) (hx1 : (18, x1) ∈ ids) {z : St} {H : Heap} {locs : List Loc} {ls : Array Slot} (hr : zRep D cy B ids A s.heap z H locs) (hl : lv_has ls 9 [(0, .ref (B 19 x0)), (1, .ref (B 18 x1)), (2, .int x2), (3, .int x3), (5, .int x5), (6, .int x6), (7, .int x7)]), K54 x0 x1 x2 x3 x5 x6 x7 z = some (r, z') → W p l e rmX19_carry s m args below meth c H locs 0 0 Q (F0 m 54 ls [])) (x0 : Nat) (x1 : Nat) (x2 : Int32) (x3 : Int32) (x5 : Int32) (x6 : Int32) (x7 : Int32) (x8 : Int32) (s0 : Nat) (s1 : Int32) (s2 : Int32) (s3 : Int32) (hx0 : (19, x0) ∈ ids) (hx1 : (18, x1) ∈ ids) (hs0 : (19, s0) ∈ ids) {z : St} {H : Heap} {locs : List Loc} {ls : Array Slot} (hr : zRep D cy B ids A s.heap z H locs) (hl : lv_has ls 9 [(0, .ref (B 19 x0)), (1, .ref (B 18 x1)), (2, .int x2), (3, .int x3), (5, .int x5), (6, .int x6), (7, .int x7), (8, .int x8)]) (h : fX19_carry_110 N K54 x0 x1 x2 x3 x5 x6 x7 x8 s0 s1 s2 s3 z = some (r, z')) : W p l e rmX19_carry s m args below meth c H locs 0 0 Q (F0 m 110 ls [.int s3, .int s2, .int s1, .ref (B 19 s0)]) := by
  unfold fX19_carry_110 at h
  obtain ⟨r1, z2, hc3, h⟩ := zc_some h
  refine zr_callv (zrun_V (As := [.int s1, .int s2, .int s3]) (rest := []) zq_2623 zq_2625 zs_X19_set zq_2626 zq_4 hdX19_set (by decide) (T := TX19) (N := 32) rfl (okX19_set l D cy B ids hst N s0 hs0 s1  s2  s3  hr.2.2 hc3) F hr hs0 hl.1 rfl (by decide) dX19_carry_110 rfl rfl hroX19_carry_X19_set ⟨Nat.zero_le _, Nat.zero_le _⟩) F hA hr (fun H locs hx4 hr => ?_)
  clear hc3
  refine lv_aload_n F.1 F.2.1 dX19_carry_113 rfl (lv_at hl 0 rfl) ?_
  refine lv_iload F.1 F.2.1 dX19_carry_114 (lv_at hl 7 rfl) ?_
  refine lv_bipush (v := (7)) F.1 F.2.1 dX19_carry_116 (by decide) ?_
  refine lv_aload_n F.1 F.2.1 dX19_carry_118 rfl (lv_at hl 0 rfl) ?_
  refine lv_iload_n F.1 F.2.1 dX19_carry_119 rfl (lv_at hl 3 rfl) ?_
  refine lv_bipush (v := (7)) F.1 F.2.1 dX19_carry_120 (by decide) ?_
  obtain ⟨r5, z6, hc7, h⟩ := zc_some h
  refine zr_calli (zrun_V (As := [.int x3, .int (7)]) (rest := [.int (7), .int x8, .ref (B 19 x0)]) zq_2549 zq_2551 zs_X19_of zq_2552 zq_4 hdX19_of (by decide) (T := TX19) (N := 32) rfl (okX19_of l D cy B ids hst N x0 hx0 x3  (7)  hr.2.2 hc7) F hr hx0 hl.1 rfl (Nat.le_of_ble_eq_true rfl) dX19_carry_122 rfl rfl hroX19_carry_X19_of ⟨Nat.zero_le _, Nat.zero_le _⟩) F hA hr (fun H locs hx8 hr => ?_)
  clear hc7
  refine lv_iconst (v := (1)) F.1 F.2.1 dX19_carry_125 (by decide) ?_
  refine lv_icmp_eq (tgt := 139) F.1 F.2.1 dX19_carry_126 (by decide) (fun c9 => ?_) (fun c9 => ?_)
  · replace h := zi_t c9 h
    exact bX19_carry_139 hst F hA E hK54 x0 x1 x2 x3 x5 x6 x7 x8 x0 x8 (7) hx0 hx1 hx0 hr (lv_sub hl [0, 1, 2, 3, 4, 5, 6, 7] rfl) h
  · replace h := zi_f c9 h
    refine lv_iload F.1 F.2.1 dX19_carry_129 (lv_at hl 6 rfl) ?_
    refine lv_iload F.1 F.2.1 dX19_carry_131 (lv_at hl 4 rfl) ?_
    refine lv_iadd F.1 F.2.1 dX19_carry_133 ?_
    refine lv_iload F.1 F.2.1 dX19_carry_134 (lv_at hl 5 rfl) ?_
    refine lv_icmp_ge (tgt := 143) F.1 F.2.1 dX19_carry_136 (by decide) (fun c10 => ?_) (fun c10 => ?_)
    · replace h := zi_t c10 h
      refine lv_iconst (v := (0)) F.1 F.2.1 dX19_carry_143 (by decide) ?_
      exact bX19_carry_144 hst F hA E hK54 x0 x1 x2 x3 x5 x6 x7 x8 x0 x8 (7) (0) hx0 hx1 hx0 hr (lv_sub hl [0, 1, 2, 3, 4, 5, 6, 7] rfl) h
    · replace h := zi_f c10 h
      exact bX19_carry_139 hst F hA E hK54 x0 x1 x2 x3 x5 x6 x7 x8 x0 x8 (7) hx0 hx1 hx0 hr (lv_sub hl [0, 1, 2, 3, 4, 5, 6, 7] rfl) h
def fX19_carry_54b (N : Nat) (K54 : Nat → Nat → Int32 → Int32 → Int32 → Int32 → Int32 → St → Option (Int32 × St)) (x0 : Nat) (x1 : Nat) (x2 : Int32) (x3 : Int32) (x5 : Int32) (x6 : Int32) (x7 : Int32) (z : St) : Option (Int32 × St) := if x6 ≤ x7 then (some (0, z)) else (zc (fX19_copyOf N x0 x3 z) fun r2 z3 => zc (fX19_of N x0 x3 (6) z3) fun r6 z7 => zc (fX19_set N x0 r2 (6) (r6 + x7) z7) fun _ z11 => if (x6 - x7) ≤ x5 then (fX19_carry_110 N K54 x0 x1 x2 x3 x5 x6 x7 r2 x0 r2 (5) (x6 - x7) z11) else (fX19_carry_110 N K54 x0 x1 x2 x3 x5 x6 x7 r2 x0 r2 (5) x5 z11))
def fX19_carry_54 (N : Nat)  : Nat → Nat → Nat → Int32 → Int32 → Int32 → Int32 → Int32 → St → Option (Int32 × St)
  | 0 => fun _ _ _ _ _ _ _ _ => none
  | n + 1 => fX19_carry_54b N (fX19_carry_54 N  n)
set_option maxHeartbeats 4000000 in
set_option maxRecDepth 100000 in
theorem bX19_carry_54 (hst : zSt B ids) (F : zFx p m c cX19_carry 9 s args RX19 D cy B ids A) (hA : ∀ q : Nat, s.heap.size ≤ q → A q) {r : Int32} {z' : St} (E : zEnd p l e rmX19_carry s m args below meth c cX19_carry D cy B ids A Q none z' .return_ True) {N : Nat} {K54 : Nat → Nat → Int32 → Int32 → Int32 → Int32 → Int32 → St → Option (Int32 × St)} (hK54 : ∀ (x0 : Nat) (x1 : Nat) (x2 : Int32) (x3 : Int32) (x5 : Int32) (x6 : Int32) (x7 : Int32) (hx0 : (19, x0) ∈ ids) (hx1 : (18, x1) ∈ ids) {z : St} {H : Heap} {locs : List Loc} {ls : Array Slot} (hr : zRep D cy B ids A s.heap z H locs) (hl : lv_has ls 9 [(0, .ref (B 19 x0)), (1, .ref (B 18 x1)), (2, .int x2), (3, .int x3), (5, .int x5), (6, .int x6), (7, .int x7)]), K54 x0 x1 x2 x3 x5 x6 x7 z = some (r, z') → W p l e rmX19_carry s m args below meth c H locs 0 0 Q (F0 m 54 ls [])) (x0 : Nat) (x1 : Nat) (x2 : Int32) (x3 : Int32) (x5 : Int32) (x6 : Int32) (x7 : Int32) (hx0 : (19, x0) ∈ ids) (hx1 : (18, x1) ∈ ids) {z : St} {H : Heap} {locs : List Loc} {ls : Array Slot} (hr : zRep D cy B ids A s.heap z H locs) (hl : lv_has ls 9 [(0, .ref (B 19 x0)), (1, .ref (B 18 x1)), (2, .int x2), (3, .int x3), (5, .int x5), (6, .int x6), (7, .int x7)]) (h : fX19_carry_54b N K54 x0 x1 x2 x3 x5 x6 x7 z = some (r, z')) : W p l e rmX19_carry s m args below meth c H locs 0 0 Q (F0 m 54 ls []) := by
  unfold fX19_carry_54b at h
  refine lv_iload F.1 F.2.1 dX19_carry_54 (lv_at hl 6 rfl) ?_
  refine lv_iload F.1 F.2.1 dX19_carry_56 (lv_at hl 5 rfl) ?_
  refine lv_icmp_ge (tgt := 195) F.1 F.2.1 dX19_carry_58 (by decide) (fun c1 => ?_) (fun c1 => ?_)
  · replace h := zi_t c1 h
    obtain ⟨rfl, rfl⟩ := zret h
    exact E _ _ _ _ dX19_carry_195 trivial hr
  · replace h := zi_f c1 h
    refine lv_aload_n F.1 F.2.1 dX19_carry_61 rfl (lv_at hl 0 rfl) ?_
    refine lv_iload_n F.1 F.2.1 dX19_carry_62 rfl (lv_at hl 3 rfl) ?_
    obtain ⟨r2, z3, hc4, h⟩ := zc_some h
    refine zr_calli (zrun_V (As := [.int x3]) (rest := []) zq_2619 zq_2621 zs_X19_copyOf zq_2622 zq_4 hdX19_copyOf (by decide) (T := TX19) (N := 32) rfl (okX19_copyOf l D cy B ids hst N x0 hx0 x3  hr.2.2 hc4) F hr hx0 hl.1 rfl (by decide) dX19_carry_63 rfl rfl hroX19_carry_X19_copyOf ⟨Nat.zero_le _, Nat.zero_le _⟩) F hA hr (fun H locs hx5 hr => ?_)
    clear hc4
    refine lv_istore (lv' := [(8, .int r2), (0, .ref (B 19 x0)), (1, .ref (B 18 x1)), (2, .int x2), (3, .int x3), (5, .int x5), (6, .int x6), (7, .int x7)]) F.1 F.2.1 dX19_carry_66 hl (by decide) rfl (fun ls hl => ?_)
    refine lv_aload_n F.1 F.2.1 dX19_carry_68 rfl (lv_at hl 1 rfl) ?_
    refine lv_iload F.1 F.2.1 dX19_carry_69 (lv_at hl 0 rfl) ?_
    refine lv_bipush (v := (6)) F.1 F.2.1 dX19_carry_71 (by decide) ?_
    refine lv_aload_n F.1 F.2.1 dX19_carry_73 rfl (lv_at hl 1 rfl) ?_
    refine lv_iload_n F.1 F.2.1 dX19_carry_74 rfl (lv_at hl 4 rfl) ?_
    refine lv_bipush (v := (6)) F.1 F.2.1 dX19_carry_75 (by decide) ?_
    obtain ⟨r6, z7, hc8, h⟩ := zc_some h
    refine zr_calli (zrun_V (As := [.int x3, .int (6)]) (rest := [.int (6), .int r2, .ref (B 19 x0)]) zq_2549 zq_2551 zs_X19_of zq_2552 zq_4 hdX19_of (by decide) (T := TX19) (N := 32) rfl (okX19_of l D cy B ids hst N x0 hx0 x3  (6)  hr.2.2 hc8) F hr hx0 hl.1 rfl (Nat.le_of_ble_eq_true rfl) dX19_carry_77 rfl rfl hroX19_carry_X19_of ⟨Nat.zero_le _, Nat.zero_le _⟩) F hA hr (fun H locs hx9 hr => ?_)
    clear hc8
    refine lv_iload F.1 F.2.1 dX19_carry_80 (lv_at hl 7 rfl) ?_
    refine lv_iadd F.1 F.2.1 dX19_carry_82 ?_
    obtain ⟨r10, z11, hc12, h⟩ := zc_some h
    refine zr_callv (zrun_V (As := [.int r2, .int (6), .int (r6 + x7)]) (rest := []) zq_2623 zq_2625 zs_X19_set zq_2626 zq_4 hdX19_set (by decide) (T := TX19) (N := 32) rfl (okX19_set l D cy B ids hst N x0 hx0 r2  (6)  (r6 + x7)  hr.2.2 hc12) F hr hx0 hl.1 rfl (by decide) dX19_carry_83 rfl rfl hroX19_carry_X19_set ⟨Nat.zero_le _, Nat.zero_le _⟩) F hA hr (fun H locs hx13 hr => ?_)
    clear hc12
    refine lv_aload_n F.1 F.2.1 dX19_carry_86 rfl (lv_at hl 1 rfl) ?_
    refine lv_iload F.1 F.2.1 dX19_carry_87 (lv_at hl 0 rfl) ?_
    refine lv_iconst (v := (5)) F.1 F.2.1 dX19_carry_89 (by decide) ?_
    refine lv_iload F.1 F.2.1 dX19_carry_90 (lv_at hl 5 rfl) ?_
    refine lv_iload F.1 F.2.1 dX19_carry_92 (lv_at hl 6 rfl) ?_
    refine lv_iload F.1 F.2.1 dX19_carry_94 (lv_at hl 7 rfl) ?_
    refine lv_isub F.1 F.2.1 dX19_carry_96 ?_
    refine lv_icmp_ge (tgt := 105) F.1 F.2.1 dX19_carry_97 (by decide) (fun c14 => ?_) (fun c14 => ?_)
    · replace h := zi_t c14 h
      refine lv_iload F.1 F.2.1 dX19_carry_105 (lv_at hl 6 rfl) ?_
      refine lv_iload F.1 F.2.1 dX19_carry_107 (lv_at hl 7 rfl) ?_
      refine lv_isub F.1 F.2.1 dX19_carry_109 ?_
      exact bX19_carry_110 hst F hA E hK54 x0 x1 x2 x3 x5 x6 x7 r2 x0 r2 (5) (x6 - x7) hx0 hx1 hx0 hr (lv_sub hl [1, 2, 3, 4, 5, 6, 7, 0] rfl) h
    · replace h := zi_f c14 h
      refine lv_iload F.1 F.2.1 dX19_carry_100 (lv_at hl 5 rfl) ?_
      refine lv_goto (tgt := 110) F.1 F.2.1 dX19_carry_102 (by decide) ?_
      exact bX19_carry_110 hst F hA E hK54 x0 x1 x2 x3 x5 x6 x7 r2 x0 r2 (5) x5 hx0 hx1 hx0 hr (lv_sub hl [1, 2, 3, 4, 5, 6, 7, 0] rfl) h
theorem lX19_carry_54 (hst : zSt B ids) (F : zFx p m c cX19_carry 9 s args RX19 D cy B ids A) (hA : ∀ q : Nat, s.heap.size ≤ q → A q) {r : Int32} {z' : St} (E : zEnd p l e rmX19_carry s m args below meth c cX19_carry D cy B ids A Q none z' .return_ True) {N : Nat}  : ∀ (n : Nat) (x0 : Nat) (x1 : Nat) (x2 : Int32) (x3 : Int32) (x5 : Int32) (x6 : Int32) (x7 : Int32) (hx0 : (19, x0) ∈ ids) (hx1 : (18, x1) ∈ ids) {z : St} {H : Heap} {locs : List Loc} {ls : Array Slot} (hr : zRep D cy B ids A s.heap z H locs) (hl : lv_has ls 9 [(0, .ref (B 19 x0)), (1, .ref (B 18 x1)), (2, .int x2), (3, .int x3), (5, .int x5), (6, .int x6), (7, .int x7)]), fX19_carry_54 N  n x0 x1 x2 x3 x5 x6 x7 z = some (r, z') → W p l e rmX19_carry s m args below meth c H locs 0 0 Q (F0 m 54 ls []) := by
  intro n
  induction n with
  | zero => intro x0 x1 x2 x3 x5 x6 x7 hx0 hx1 z H locs ls hr hl h; cases h
  | succ n ih => intro x0 x1 x2 x3 x5 x6 x7 hx0 hx1 z H locs ls hr hl h; exact bX19_carry_54 hst F hA E ih x0 x1 x2 x3 x5 x6 x7 hx0 hx1 hr hl h
def fX19_carry (N : Nat)  (x0 : Nat) (x1 : Nat) (x2 : Int32) (x3 : Int32) (z : St) : Option (Int32 × St) := zl (zgR z 18 2 x1) fun y1 => zd y1 fun a2 => zl ((zgI z 16 1 a2) - (20)) fun v3 => zc (fX19_of N x0 x3 (5) z) fun r4 z5 => if v3 < r4 then (zl ((v3 / (8)) * (8)) fun v9 => zc (fX19_of N x0 x3 (5) z5) fun r10 z11 => fX19_carry_54 N N x0 x1 x2 x3 v9 r10 (0) z11) else (zc (fX19_put N x0 x1 x2 (2) (0) x3 z5) fun _ z15 => some (0, z15))
set_option maxHeartbeats 4000000 in
set_option maxRecDepth 100000 in
theorem bX19_carry_0 (hst : zSt B ids) (F : zFx p m c cX19_carry 9 s args RX19 D cy B ids A) (hA : ∀ q : Nat, s.heap.size ≤ q → A q) {r : Int32} {z' : St} (E : zEnd p l e rmX19_carry s m args below meth c cX19_carry D cy B ids A Q none z' .return_ True) {N : Nat}  (x0 : Nat) (x1 : Nat) (x2 : Int32) (x3 : Int32) (hx0 : (19, x0) ∈ ids) (hx1 : (18, x1) ∈ ids) {z : St} {H : Heap} {locs : List Loc} {ls : Array Slot} (hr : zRep D cy B ids A s.heap z H locs) (hl : lv_has ls 9 [(0, .ref (B 19 x0)), (1, .ref (B 18 x1)), (2, .int x2), (3, .int x3)]) (h : fX19_carry N x0 x1 x2 x3 z = some (r, z')) : W p l e rmX19_carry s m args below meth c H locs 0 0 Q (F0 m 0 ls []) := by
  unfold fX19_carry at h
  refine lv_aload_n F.1 F.2.1 dX19_carry_0 rfl (lv_at hl 1 rfl) ?_
  refine gf19_149 F hx1 hr dX19_carry_1 (fun y1 ey1 => ?_)
  replace h := zl_sub ey1 h
  have hy1 := zal_g hr hx1 (j := 2) rfl ey1
  clear ey1
  obtain ⟨a2, rfl, h⟩ := zd_some h
  refine gf19_191 F (hy1 _ rfl) hr dX19_carry_4 ?_
  refine lv_bipush (v := (20)) F.1 F.2.1 dX19_carry_7 (by decide) ?_
  refine lv_isub F.1 F.2.1 dX19_carry_9 ?_
  refine lv_topi (fun v3 ev3 => ?_)
  replace h := zl_sub ev3 h
  refine lv_istore (lv' := [(4, .int v3), (0, .ref (B 19 x0)), (1, .ref (B 18 x1)), (2, .int x2), (3, .int x3)]) F.1 F.2.1 dX19_carry_10 hl (by decide) rfl (fun ls hl => ?_)
  refine lv_aload_n F.1 F.2.1 dX19_carry_12 rfl (lv_at hl 1 rfl) ?_
  refine lv_iload_n F.1 F.2.1 dX19_carry_13 rfl (lv_at hl 4 rfl) ?_
  refine lv_iconst (v := (5)) F.1 F.2.1 dX19_carry_14 (by decide) ?_
  obtain ⟨r4, z5, hc6, h⟩ := zc_some h
  refine zr_calli (zrun_V (As := [.int x3, .int (5)]) (rest := []) zq_2549 zq_2551 zs_X19_of zq_2552 zq_4 hdX19_of (by decide) (T := TX19) (N := 32) rfl (okX19_of l D cy B ids hst N x0 hx0 x3  (5)  hr.2.2 hc6) F hr hx0 hl.1 rfl (by decide) dX19_carry_15 rfl rfl hroX19_carry_X19_of ⟨Nat.zero_le _, Nat.zero_le _⟩) F hA hr (fun H locs hx7 hr => ?_)
  clear hc6
  refine lv_iload F.1 F.2.1 dX19_carry_18 (lv_at hl 0 rfl) ?_
  refine lv_icmp_gt (tgt := 33) F.1 F.2.1 dX19_carry_20 (by decide) (fun c8 => ?_) (fun c8 => ?_)
  · replace h := zi_t c8 h
    refine lv_iload F.1 F.2.1 dX19_carry_33 (lv_at hl 0 rfl) ?_
    refine lv_bipush (v := (8)) F.1 F.2.1 dX19_carry_35 (by decide) ?_
    refine lv_idiv F.1 F.2.1 dX19_carry_37 (by decide) ?_
    refine lv_bipush (v := (8)) F.1 F.2.1 dX19_carry_38 (by decide) ?_
    refine lv_imul F.1 F.2.1 dX19_carry_40 ?_
    refine lv_topi (fun v9 ev9 => ?_)
    replace h := zl_sub ev9 h
    refine lv_istore (lv' := [(5, .int v9), (4, .int v3), (0, .ref (B 19 x0)), (1, .ref (B 18 x1)), (2, .int x2), (3, .int x3)]) F.1 F.2.1 dX19_carry_41 hl (by decide) rfl (fun ls hl => ?_)
    refine lv_aload_n F.1 F.2.1 dX19_carry_43 rfl (lv_at hl 2 rfl) ?_
    refine lv_iload_n F.1 F.2.1 dX19_carry_44 rfl (lv_at hl 5 rfl) ?_
    refine lv_iconst (v := (5)) F.1 F.2.1 dX19_carry_45 (by decide) ?_
    obtain ⟨r10, z11, hc12, h⟩ := zc_some h
    refine zr_calli (zrun_V (As := [.int x3, .int (5)]) (rest := []) zq_2549 zq_2551 zs_X19_of zq_2552 zq_4 hdX19_of (by decide) (T := TX19) (N := 32) rfl (okX19_of l D cy B ids hst N x0 hx0 x3  (5)  hr.2.2 hc12) F hr hx0 hl.1 rfl (by decide) dX19_carry_46 rfl rfl hroX19_carry_X19_of ⟨Nat.zero_le _, Nat.zero_le _⟩) F hA hr (fun H locs hx13 hr => ?_)
    clear hc12
    refine lv_istore (lv' := [(6, .int r10), (5, .int v9), (4, .int v3), (0, .ref (B 19 x0)), (1, .ref (B 18 x1)), (2, .int x2), (3, .int x3)]) F.1 F.2.1 dX19_carry_49 hl (by decide) rfl (fun ls hl => ?_)
    refine lv_iconst (v := (0)) F.1 F.2.1 dX19_carry_51 (by decide) ?_
    refine lv_istore (lv' := [(7, .int (0)), (6, .int r10), (5, .int v9), (4, .int v3), (0, .ref (B 19 x0)), (1, .ref (B 18 x1)), (2, .int x2), (3, .int x3)]) F.1 F.2.1 dX19_carry_52 hl (by decide) rfl (fun ls hl => ?_)
    exact lX19_carry_54 hst F hA E  _ x0 x1 x2 x3 v9 r10 (0) hx0 hx1 hr (lv_sub hl [4, 5, 6, 7, 2, 1, 0] rfl) h
  · replace h := zi_f c8 h
    refine lv_aload_n F.1 F.2.1 dX19_carry_23 rfl (lv_at hl 1 rfl) ?_
    refine lv_aload_n F.1 F.2.1 dX19_carry_24 rfl (lv_at hl 2 rfl) ?_
    refine lv_iload_n F.1 F.2.1 dX19_carry_25 rfl (lv_at hl 3 rfl) ?_
    refine lv_iconst (v := (2)) F.1 F.2.1 dX19_carry_26 (by decide) ?_
    refine lv_iconst (v := (0)) F.1 F.2.1 dX19_carry_27 (by decide) ?_
    refine lv_iload_n F.1 F.2.1 dX19_carry_28 rfl (lv_at hl 4 rfl) ?_
    obtain ⟨r14, z15, hc16, h⟩ := zc_some h
    refine zr_callv (zrun_V (As := [.ref (B 18 x1), .int x2, .int (2), .int (0), .int x3]) (rest := []) zq_2611 zq_2613 zs_X19_put zq_2614 zq_4 hdX19_put (by decide) (T := TX19) (N := 32) rfl (okX19_put l D cy B ids hst N x0 hx0 x1 hx1 x2  (2)  (0)  x3  hr.2.2 hc16) F hr hx0 hl.1 rfl (by decide) dX19_carry_29 rfl rfl hroX19_carry_X19_put ⟨Nat.zero_le _, Nat.zero_le _⟩) F hA hr (fun H locs hx17 hr => ?_)
    clear hc16
    obtain ⟨rfl, rfl⟩ := zret h
    exact E _ _ _ _ dX19_carry_32 trivial hr
end SX19_carry
set_option maxRecDepth 100000 in
theorem okX19_carry (l : Launch) (D : va_G) (cy : Nat → ClassId) (B : Nat → Nat → Nat) (ids : List (Nat × Nat)) (hst : zSt B ids) (N : Nat) (x0 : Nat) (hx0 : (19, x0) ∈ ids) (x1 : Nat) (hx1 : (18, x1) ∈ ids) (x2 : Int32) (x3 : Int32) {z : St} {r : Int32} {z' : St} (hW : zWf ids z) (h : fX19_carry N x0 x1 x2 x3 z = some (r, z')) : zM l yX19_carry (zws yX19_carry cX19_carry 9 none) rmX19_carry D cy B ids [.ref (B 19 x0), .ref (B 18 x1), .int x2, .int x3] none True z z' :=
  zM_of hst hW (by decide +kernel) (Nat.le_of_ble_eq_true rfl) (fun p e s m args below meth c A ls F hA hret hlocks hr hl => bX19_carry_0 hst F hA (zEnd_v F hret hlocks) x0 x1 x2 x3 hx0 hx1 hr hl h)
abbrev rmX19_knows : Room := { frames := 0, cells := 0, slots := 0, locals := 0 }
theorem hdX19_knows : yX19_knows.cls ≠ "java/lang/invoke/MethodHandle" ∧ yX19_knows.cls ≠ "java/lang/invoke/VarHandle" ∧ (parseMethodDescriptor yX19_knows.desc).map (fun d => d.parameters.length) = some 2 := by decide +kernel
section SX19_knows
variable {p : Program} {l : Launch} {e : Env} {s : State} {m : MethodId} {args : Array Value} {below : List Frame} {meth : Method} {c : Code} {Q : State → Prop} {D : va_G} {cy : Nat → ClassId} {B : Nat → Nat → Nat} {ids : List (Nat × Nat)} {A : Nat → Prop}
def fX19_knows (N : Nat)  (x0 : Nat) (x1 : Nat) (x2 : Int32) (z : St) : Option (Int32 × St) := zk x2 8 <| if (2500) < ((zgI z 19 24 x0) - (zgA z 167 x1 x2.toNatClampNeg)) then (some ((0), z)) else (some ((1), z))
set_option maxHeartbeats 4000000 in
set_option maxRecDepth 100000 in
theorem bX19_knows_0 (hst : zSt B ids) (F : zFx p m c cX19_knows 3 s args RX19 D cy B ids A) (hA : ∀ q : Nat, s.heap.size ≤ q → A q) {r : Int32} {z' : St} (E : zEnd p l e rmX19_knows s m args below meth c cX19_knows D cy B ids A Q (some (.int r)) z' .ireturn (r = 0 ∨ r = 1)) {N : Nat}  (x0 : Nat) (x1 : Nat) (x2 : Int32) (hx0 : (19, x0) ∈ ids) (hx1 : (18, x1) ∈ ids) {z : St} {H : Heap} {locs : List Loc} {ls : Array Slot} (hr : zRep D cy B ids A s.heap z H locs) (hl : lv_has ls 3 [(0, .ref (B 19 x0)), (1, .ref (B 18 x1)), (2, .int x2)]) (h : fX19_knows N x0 x1 x2 z = some (r, z')) : W p l e rmX19_knows s m args below meth c H locs 0 0 Q (F0 m 0 ls []) := by
  unfold fX19_knows at h
  refine lv_aload_n F.1 F.2.1 dX19_knows_0 rfl (lv_at hl 0 rfl) ?_
  refine gf19_143 F hx0 hr dX19_knows_1 ?_
  refine lv_aload_n F.1 F.2.1 dX19_knows_4 rfl (lv_at hl 1 rfl) ?_
  refine gf19_207 F hx1 hr dX19_knows_5 ?_
  refine lv_iload_n F.1 F.2.1 dX19_knows_8 rfl (lv_at hl 2 rfl) ?_
  obtain ⟨c1, h⟩ := zk_some h
  refine zr_iald (k := 167) (by decide) rfl (by decide) F (zal_a F hx1 (j := 6) rfl) hr dX19_knows_9 c1 ?_
  refine lv_isub F.1 F.2.1 dX19_knows_10 ?_
  refine lv_sipush (v := (2500)) F.1 F.2.1 dX19_knows_11 (by decide) ?_
  refine lv_icmp_gt (tgt := 21) F.1 F.2.1 dX19_knows_14 (by decide) (fun c2 => ?_) (fun c2 => ?_)
  · replace h := zi_t c2 h
    refine lv_iconst (v := (0)) F.1 F.2.1 dX19_knows_21 (by decide) ?_
    obtain ⟨rfl, rfl⟩ := zret h
    exact E _ _ _ _ dX19_knows_22 (by decide) hr
  · replace h := zi_f c2 h
    refine lv_iconst (v := (1)) F.1 F.2.1 dX19_knows_17 (by decide) ?_
    refine lv_goto (tgt := 22) F.1 F.2.1 dX19_knows_18 (by decide) ?_
    obtain ⟨rfl, rfl⟩ := zret h
    exact E _ _ _ _ dX19_knows_22 (by decide) hr
end SX19_knows
set_option maxRecDepth 100000 in
theorem okX19_knows (l : Launch) (D : va_G) (cy : Nat → ClassId) (B : Nat → Nat → Nat) (ids : List (Nat × Nat)) (hst : zSt B ids) (N : Nat) (x0 : Nat) (hx0 : (19, x0) ∈ ids) (x1 : Nat) (hx1 : (18, x1) ∈ ids) (x2 : Int32) {z : St} {r : Int32} {z' : St} (hW : zWf ids z) (h : fX19_knows N x0 x1 x2 z = some (r, z')) : zM l yX19_knows (zws yX19_knows cX19_knows 3 (some .boolean)) rmX19_knows D cy B ids [.ref (B 19 x0), .ref (B 18 x1), .int x2] (some (.int r)) (r = 0 ∨ r = 1) z z' :=
  zM_of hst hW (by decide +kernel) (Nat.le_of_ble_eq_true rfl) (fun p e s m args below meth c A ls F hA hret hlocks hr hl => bX19_knows_0 hst F hA (zEnd_z F hret hlocks) x0 x1 x2 hx0 hx1 hr hl h)
abbrev rmX19_ask : Room := { frames := 4, cells := 0, slots := 0, locals := 100 }
theorem hdX19_ask : yX19_ask.cls ≠ "java/lang/invoke/MethodHandle" ∧ yX19_ask.cls ≠ "java/lang/invoke/VarHandle" ∧ (parseMethodDescriptor yX19_ask.desc).map (fun d => d.parameters.length) = some 2 := by decide +kernel
theorem hroX19_ask_X19_put : rmX19_put.frames + 1 ≤ rmX19_ask.frames ∧ 8 + (9 + 11) + rmX19_put.locals ≤ rmX19_ask.locals := by decide
section SX19_ask
variable {p : Program} {l : Launch} {e : Env} {s : State} {m : MethodId} {args : Array Value} {below : List Frame} {meth : Method} {c : Code} {Q : State → Prop} {D : va_G} {cy : Nat → ClassId} {B : Nat → Nat → Nat} {ids : List (Nat × Nat)} {A : Nat → Prop}
def fX19_ask (N : Nat)  (x0 : Nat) (x1 : Nat) (x2 : Int32) (z : St) : Option (Int32 × St) := zl (zgR z 18 2 x1) fun y1 => zd y1 fun a2 => zc (fX19_put N x0 x1 (-1) (0) ((((167772160) + ((zgI z 16 0 a2) <<< ((16) &&& 31))) + x2) + (1)) (-1) z) fun _ z4 => some (0, z4)
set_option maxHeartbeats 4000000 in
set_option maxRecDepth 100000 in
theorem bX19_ask_0 (hst : zSt B ids) (F : zFx p m c cX19_ask 3 s args RX19 D cy B ids A) (hA : ∀ q : Nat, s.heap.size ≤ q → A q) {r : Int32} {z' : St} (E : zEnd p l e rmX19_ask s m args below meth c cX19_ask D cy B ids A Q none z' .return_ True) {N : Nat}  (x0 : Nat) (x1 : Nat) (x2 : Int32) (hx0 : (19, x0) ∈ ids) (hx1 : (18, x1) ∈ ids) {z : St} {H : Heap} {locs : List Loc} {ls : Array Slot} (hr : zRep D cy B ids A s.heap z H locs) (hl : lv_has ls 3 [(0, .ref (B 19 x0)), (1, .ref (B 18 x1)), (2, .int x2)]) (h : fX19_ask N x0 x1 x2 z = some (r, z')) : W p l e rmX19_ask s m args below meth c H locs 0 0 Q (F0 m 0 ls []) := by
  unfold fX19_ask at h
  refine lv_aload_n F.1 F.2.1 dX19_ask_0 rfl (lv_at hl 0 rfl) ?_
  refine lv_aload_n F.1 F.2.1 dX19_ask_1 rfl (lv_at hl 1 rfl) ?_
  refine lv_iconst (v := (-1)) F.1 F.2.1 dX19_ask_2 (by decide) ?_
  refine lv_iconst (v := (0)) F.1 F.2.1 dX19_ask_3 (by decide) ?_
  refine lv_ldc (v := (167772160)) F.1 F.2.1 F.2.2.2.1 (F.2.2.2.2.1 _ zq_2801) dX19_ask_4 ?_
  refine lv_aload_n F.1 F.2.1 dX19_ask_6 rfl (lv_at hl 1 rfl) ?_
  refine gf19_149 F hx1 hr dX19_ask_7 (fun y1 ey1 => ?_)
  replace h := zl_sub ey1 h
  have hy1 := zal_g hr hx1 (j := 2) rfl ey1
  clear ey1
  obtain ⟨a2, rfl, h⟩ := zd_some h
  refine gf19_181 F (hy1 _ rfl) hr dX19_ask_10 ?_
  refine lv_bipush (v := (16)) F.1 F.2.1 dX19_ask_13 (by decide) ?_
  refine lv_ishl F.1 F.2.1 dX19_ask_15 ?_
  refine lv_iadd F.1 F.2.1 dX19_ask_16 ?_
  refine lv_iload_n F.1 F.2.1 dX19_ask_17 rfl (lv_at hl 2 rfl) ?_
  refine lv_iadd F.1 F.2.1 dX19_ask_18 ?_
  refine lv_iconst (v := (1)) F.1 F.2.1 dX19_ask_19 (by decide) ?_
  refine lv_iadd F.1 F.2.1 dX19_ask_20 ?_
  refine lv_iconst (v := (-1)) F.1 F.2.1 dX19_ask_21 (by decide) ?_
  obtain ⟨r3, z4, hc5, h⟩ := zc_some h
  refine zr_callv (zrun_V (As := [.ref (B 18 x1), .int (-1), .int (0), .int ((((167772160) + ((zgI z 16 0 a2) <<< ((16) &&& 31))) + x2) + (1)), .int (-1)]) (rest := []) zq_2611 zq_2613 zs_X19_put zq_2614 zq_4 hdX19_put (by decide) (T := TX19) (N := 32) rfl (okX19_put l D cy B ids hst N x0 hx0 x1 hx1 (-1)  (0)  ((((167772160) + ((zgI z 16 0 a2) <<< ((16) &&& 31))) + x2) + (1))  (-1)  hr.2.2 hc5) F hr hx0 hl.1 rfl (by decide) dX19_ask_22 rfl rfl hroX19_ask_X19_put ⟨Nat.zero_le _, Nat.zero_le _⟩) F hA hr (fun H locs hx6 hr => ?_)
  clear hc5
  obtain ⟨rfl, rfl⟩ := zret h
  exact E _ _ _ _ dX19_ask_25 trivial hr
end SX19_ask
set_option maxRecDepth 100000 in
theorem okX19_ask (l : Launch) (D : va_G) (cy : Nat → ClassId) (B : Nat → Nat → Nat) (ids : List (Nat × Nat)) (hst : zSt B ids) (N : Nat) (x0 : Nat) (hx0 : (19, x0) ∈ ids) (x1 : Nat) (hx1 : (18, x1) ∈ ids) (x2 : Int32) {z : St} {r : Int32} {z' : St} (hW : zWf ids z) (h : fX19_ask N x0 x1 x2 z = some (r, z')) : zM l yX19_ask (zws yX19_ask cX19_ask 3 none) rmX19_ask D cy B ids [.ref (B 19 x0), .ref (B 18 x1), .int x2] none True z z' :=
  zM_of hst hW (by decide +kernel) (Nat.le_of_ble_eq_true rfl) (fun p e s m args below meth c A ls F hA hret hlocks hr hl => bX19_ask_0 hst F hA (zEnd_v F hret hlocks) x0 x1 x2 hx0 hx1 hr hl h)
abbrev rmX19_deliver : Room := { frames := 5, cells := 0, slots := 0, locals := 128 }
theorem hdX19_deliver : yX19_deliver.cls ≠ "java/lang/invoke/MethodHandle" ∧ yX19_deliver.cls ≠ "java/lang/invoke/VarHandle" ∧ (parseMethodDescriptor yX19_deliver.desc).map (fun d => d.parameters.length) = some 3 := by decide +kernel
theorem hroX19_deliver_X18_askingOf : rmX18_askingOf.frames + 1 ≤ rmX19_deliver.frames ∧ 8 + (3 + 11) + rmX18_askingOf.locals ≤ rmX19_deliver.locals := by decide
theorem hroX19_deliver_X18_endAsking : rmX18_endAsking.frames + 1 ≤ rmX19_deliver.frames ∧ 8 + (3 + 11) + rmX18_endAsking.locals ≤ rmX19_deliver.locals := by decide
theorem hroX19_deliver_X18_someWaitFor : rmX18_someWaitFor.frames + 1 ≤ rmX19_deliver.frames ∧ 8 + (3 + 11) + rmX18_someWaitFor.locals ≤ rmX19_deliver.locals := by decide
theorem hroX19_deliver_X18_takeWaiting : rmX18_takeWaiting.frames + 1 ≤ rmX19_deliver.frames ∧ 8 + (4 + 11) + rmX18_takeWaiting.locals ≤ rmX19_deliver.locals := by decide
theorem hroX19_deliver_X19_ask : rmX19_ask.frames + 1 ≤ rmX19_deliver.frames ∧ 8 + (3 + 11) + rmX19_ask.locals ≤ rmX19_deliver.locals := by decide
theorem hroX19_deliver_X19_carry : rmX19_carry.frames + 1 ≤ rmX19_deliver.frames ∧ 8 + (9 + 11) + rmX19_carry.locals ≤ rmX19_deliver.locals := by decide
theorem hroX19_deliver_X19_copyOf : rmX19_copyOf.frames + 1 ≤ rmX19_deliver.frames ∧ 8 + (4 + 11) + rmX19_copyOf.locals ≤ rmX19_deliver.locals := by decide
theorem hroX19_deliver_X19_drop : rmX19_drop.frames + 1 ≤ rmX19_deliver.frames ∧ 8 + (2 + 11) + rmX19_drop.locals ≤ rmX19_deliver.locals := by decide
theorem hroX19_deliver_X19_knows : rmX19_knows.frames + 1 ≤ rmX19_deliver.frames ∧ 8 + (3 + 11) + rmX19_knows.locals ≤ rmX19_deliver.locals := by decide
theorem hroX19_deliver_X19_stir : rmX19_stir.frames + 1 ≤ rmX19_deliver.frames ∧ 8 + (1 + 11) + rmX19_stir.locals ≤ rmX19_deliver.locals := by decide
section SX19_deliver
variable {p : Program} {l : Launch} {e : Env} {s : State} {m : MethodId} {args : Array Value} {below : List Frame} {meth : Method} {c : Code} {Q : State → Prop} {D : va_G} {cy : Nat → ClassId} {B : Nat → Nat → Nat} {ids : List (Nat × Nat)} {A : Nat → Prop}
def fX19_deliver_102 (N : Nat)  (x0 : Nat) (x1 : Nat) (z : St) : Option (Int32 × St) := if (zgI z 18 12 x1) ≤ (16) then (some (0, z)) else (zk (0) 17 <| zl (zgA z 171 x1 (0).toNatClampNeg) fun v3 => zc (fX18_takeWaiting N x1 (0) z) fun r4 z5 => zc (fX19_drop N x0 r4 z5) fun _ z9 => zc (fX19_stir N x0 z9) fun _ z13 => zc (fX18_someWaitFor N x1 v3 z13) fun r16 z17 => if ¬ r16 = 0 then (some (0, z17)) else (zc (fX18_askingOf N x1 v3 z17) fun r21 z22 => zc (fX18_endAsking N x1 r21 z22) fun _ z26 => some (0, z26)))
set_option maxHeartbeats 4000000 in
set_option maxRecDepth 100000 in
theorem bX19_deliver_102 (hst : zSt B ids) (F : zFx p m c cX19_deliver 6 s args RX19 D cy B ids A) (hA : ∀ q : Nat, s.heap.size ≤ q → A q) {r : Int32} {z' : St} (E : zEnd p l e rmX19_deliver s m args below meth c cX19_deliver D cy B ids A Q none z' .return_ True) {N : Nat}  (x0 : Nat) (x1 : Nat) (hx0 : (19, x0) ∈ ids) (hx1 : (18, x1) ∈ ids) {z : St} {H : Heap} {locs : List Loc} {ls : Array Slot} (hr : zRep D cy B ids A s.heap z H locs) (hl : lv_has ls 6 [(0, .ref (B 19 x0)), (1, .ref (B 18 x1))]) (h : fX19_deliver_102 N x0 x1 z = some (r, z')) : W p l e rmX19_deliver s m args below meth c H locs 0 0 Q (F0 m 102 ls []) := by
  unfold fX19_deliver_102 at h
  refine lv_aload_n F.1 F.2.1 dX19_deliver_102 rfl (lv_at hl 1 rfl) ?_
  refine gf19_226 F hx1 hr dX19_deliver_103 ?_
  refine lv_bipush (v := (16)) F.1 F.2.1 dX19_deliver_106 (by decide) ?_
  refine lv_icmp_le (tgt := 151) F.1 F.2.1 dX19_deliver_108 (by decide) (fun c1 => ?_) (fun c1 => ?_)
  · replace h := zi_t c1 h
    obtain ⟨rfl, rfl⟩ := zret h
    exact E _ _ _ _ dX19_deliver_151 trivial hr
  · replace h := zi_f c1 h
    refine lv_aload_n F.1 F.2.1 dX19_deliver_111 rfl (lv_at hl 1 rfl) ?_
    refine gf19_229 F hx1 hr dX19_deliver_112 ?_
    refine lv_iconst (v := (0)) F.1 F.2.1 dX19_deliver_115 (by decide) ?_
    obtain ⟨c2, h⟩ := zk_some h
    refine zr_iald (k := 171) (by decide) rfl (by decide) F (zal_a F hx1 (j := 11) rfl) hr dX19_deliver_116 c2 ?_
    refine lv_topi (fun v3 ev3 => ?_)
    replace h := zl_sub ev3 h
    refine lv_istore (lv' := [(5, .int v3), (0, .ref (B 19 x0)), (1, .ref (B 18 x1))]) F.1 F.2.1 dX19_deliver_117 hl (by decide) rfl (fun ls hl => ?_)
    refine lv_aload_n F.1 F.2.1 dX19_deliver_119 rfl (lv_at hl 1 rfl) ?_
    refine lv_aload_n F.1 F.2.1 dX19_deliver_120 rfl (lv_at hl 2 rfl) ?_
    refine lv_iconst (v := (0)) F.1 F.2.1 dX19_deliver_121 (by decide) ?_
    obtain ⟨r4, z5, hc6, h⟩ := zc_some h
    refine zr_calli (zrun_VN (As := [.int (0)]) (rest := [.ref (B 19 x0)]) zn_2603 zq_2605 zs_X18_takeWaiting zq_2606 zq_25 hdX18_takeWaiting (by decide) (T := TX18) (N := 13) rfl (okX18_takeWaiting l D cy B ids hst N x1 hx1 (0)  hr.2.2 hc6) F hr hx1 hl.1 rfl (Nat.le_of_ble_eq_true rfl) dX19_deliver_122 rfl rfl hroX19_deliver_X18_takeWaiting ⟨Nat.zero_le _, Nat.zero_le _⟩) F hA hr (fun H locs hx7 hr => ?_)
    clear hc6
    obtain ⟨r8, z9, hc10, h⟩ := zc_some h
    refine zr_callv (zrun_V (As := [.int r4]) (rest := []) zq_2545 zq_2547 zs_X19_drop zq_2548 zq_4 hdX19_drop (by decide) (T := TX19) (N := 32) rfl (okX19_drop l D cy B ids hst N x0 hx0 r4  hr.2.2 hc10) F hr hx0 hl.1 rfl (by decide) dX19_deliver_125 rfl rfl hroX19_deliver_X19_drop ⟨Nat.zero_le _, Nat.zero_le _⟩) F hA hr (fun H locs hx11 hr => ?_)
    clear hc10
    refine lv_aload_n F.1 F.2.1 dX19_deliver_128 rfl (lv_at hl 1 rfl) ?_
    obtain ⟨r12, z13, hc14, h⟩ := zc_some h
    refine zr_callv (zrun_V (As := []) (rest := []) zq_2394 zq_2396 zs_X19_stir zq_2397 zq_4 hdX19_stir (by decide) (T := TX19) (N := 32) rfl (okX19_stir l D cy B ids hst N x0 hx0 hr.2.2 hc14) F hr hx0 hl.1 rfl (by decide) dX19_deliver_129 rfl rfl hroX19_deliver_X19_stir ⟨Nat.zero_le _, Nat.zero_le _⟩) F hA hr (fun H locs hx15 hr => ?_)
    clear hc14
    refine lv_aload_n F.1 F.2.1 dX19_deliver_132 rfl (lv_at hl 2 rfl) ?_
    refine lv_iload F.1 F.2.1 dX19_deliver_133 (lv_at hl 0 rfl) ?_
    obtain ⟨r16, z17, hc18, h⟩ := zc_some h
    refine zr_calli (zrun_VN (As := [.int v3]) (rest := []) zn_2793 zq_2795 zs_X18_someWaitFor zq_2796 zq_25 hdX18_someWaitFor (by decide) (T := TX18) (N := 13) rfl (okX18_someWaitFor l D cy B ids hst N x1 hx1 v3  hr.2.2 hc18) F hr hx1 hl.1 rfl (by decide) dX19_deliver_135 rfl rfl hroX19_deliver_X18_someWaitFor ⟨Nat.zero_le _, Nat.zero_le _⟩) F hA hr (fun H locs hx19 hr => ?_)
    clear hc18
    refine lv_if_ne (tgt := 151) F.1 F.2.1 dX19_deliver_138 (by decide) (fun c20 => ?_) (fun c20 => ?_)
    · replace h := zi_t c20 h
      obtain ⟨rfl, rfl⟩ := zret h
      exact E _ _ _ _ dX19_deliver_151 trivial hr
    · replace h := zi_f (fun q => q c20) h
      refine lv_aload_n F.1 F.2.1 dX19_deliver_141 rfl (lv_at hl 2 rfl) ?_
      refine lv_aload_n F.1 F.2.1 dX19_deliver_142 rfl (lv_at hl 2 rfl) ?_
      refine lv_iload F.1 F.2.1 dX19_deliver_143 (lv_at hl 0 rfl) ?_
      obtain ⟨r21, z22, hc23, h⟩ := zc_some h
      refine zr_calli (zrun_VN (As := [.int v3]) (rest := [.ref (B 18 x1)]) zn_2591 zq_2593 zs_X18_askingOf zq_2594 zq_25 hdX18_askingOf (by decide) (T := TX18) (N := 13) rfl (okX18_askingOf l D cy B ids hst N x1 hx1 v3  hr.2.2 hc23) F hr hx1 hl.1 rfl (Nat.le_of_ble_eq_true rfl) dX19_deliver_145 rfl rfl hroX19_deliver_X18_askingOf ⟨Nat.zero_le _, Nat.zero_le _⟩) F hA hr (fun H locs hx24 hr => ?_)
      clear hc23
      obtain ⟨r25, z26, hc27, h⟩ := zc_some h
      refine zr_callv (zrun_VN (As := [.int r21]) (rest := []) zn_2595 zq_2597 zs_X18_endAsking zq_2598 zq_25 hdX18_endAsking (by decide) (T := TX18) (N := 13) rfl (okX18_endAsking l D cy B ids hst N x1 hx1 r21  hr.2.2 hc27) F hr hx1 hl.1 rfl (by decide) dX19_deliver_148 rfl rfl hroX19_deliver_X18_endAsking ⟨Nat.zero_le _, Nat.zero_le _⟩) F hA hr (fun H locs hx28 hr => ?_)
      clear hc27
      obtain ⟨rfl, rfl⟩ := zret h
      exact E _ _ _ _ dX19_deliver_151 trivial hr
def fX19_deliver (N : Nat)  (x0 : Nat) (x1 : Nat) (x2 : Int32) (x3 : Int32) (z : St) : Option (Int32 × St) := zc (fX19_knows N x0 x1 x2 z) fun r1 z2 => if r1 = 0 then (zc (fX18_someWaitFor N x1 x2 z2) fun r6 z7 => zc (fX19_copyOf N x0 x3 z7) fun r10 z11 => zk (zgI z7 18 12 x1) 17 <| zl (zsA z11 170 x1 (zgI z7 18 12 x1).toNatClampNeg r10) fun z15 => zk (zgI z15 18 12 x1) 17 <| zl (zsA z15 171 x1 (zgI z15 18 12 x1).toNatClampNeg x2) fun z17 => zl (zsI z17 18 12 x1 ((zgI z17 18 12 x1) + (1))) fun z18 => if ¬ r6 = 0 then (fX19_deliver_102 N x0 x1 z18) else (zk (zgI z18 18 9 x1) 8 <| zl (zsA z18 168 x1 (zgI z18 18 9 x1).toNatClampNeg x2) fun z21 => zk (zgI z21 18 9 x1) 8 <| zl (zsA z21 169 x1 (zgI z21 18 9 x1).toNatClampNeg (zgI z21 19 24 x0)) fun z23 => zl (zsI z23 18 9 x1 ((zgI z23 18 9 x1) + (1))) fun z24 => zc (fX19_ask N x0 x1 x2 z24) fun _ z26 => fX19_deliver_102 N x0 x1 z26)) else (zc (fX19_carry N x0 x1 x2 x3 z2) fun _ z30 => some (0, z30))
set_option maxHeartbeats 4000000 in
set_option maxRecDepth 100000 in
theorem bX19_deliver_0 (hst : zSt B ids) (F : zFx p m c cX19_deliver 6 s args RX19 D cy B ids A) (hA : ∀ q : Nat, s.heap.size ≤ q → A q) {r : Int32} {z' : St} (E : zEnd p l e rmX19_deliver s m args below meth c cX19_deliver D cy B ids A Q none z' .return_ True) {N : Nat}  (x0 : Nat) (x1 : Nat) (x2 : Int32) (x3 : Int32) (hx0 : (19, x0) ∈ ids) (hx1 : (18, x1) ∈ ids) {z : St} {H : Heap} {locs : List Loc} {ls : Array Slot} (hr : zRep D cy B ids A s.heap z H locs) (hl : lv_has ls 6 [(0, .ref (B 19 x0)), (1, .ref (B 18 x1)), (2, .int x2), (3, .int x3)]) (h : fX19_deliver N x0 x1 x2 x3 z = some (r, z')) : W p l e rmX19_deliver s m args below meth c H locs 0 0 Q (F0 m 0 ls []) := by
  unfold fX19_deliver at h
  refine lv_aload_n F.1 F.2.1 dX19_deliver_0 rfl (lv_at hl 0 rfl) ?_
  refine lv_aload_n F.1 F.2.1 dX19_deliver_1 rfl (lv_at hl 1 rfl) ?_
  refine lv_iload_n F.1 F.2.1 dX19_deliver_2 rfl (lv_at hl 2 rfl) ?_
  obtain ⟨r1, z2, hc3, h⟩ := zc_some h
  refine zr_calli (zrun_V (As := [.ref (B 18 x1), .int x2]) (rest := []) zq_2789 zq_2791 zs_X19_knows zq_2792 zq_4 hdX19_knows (by decide) (T := TX19) (N := 32) rfl (okX19_knows l D cy B ids hst N x0 hx0 x1 hx1 x2  hr.2.2 hc3) F hr hx0 hl.1 rfl (by decide) dX19_deliver_3 rfl rfl hroX19_deliver_X19_knows ⟨Nat.zero_le _, Nat.zero_le _⟩) F hA hr (fun H locs hx4 hr => ?_)
  clear hc3
  refine lv_if_eq (tgt := 17) F.1 F.2.1 dX19_deliver_6 (by decide) (fun c5 => ?_) (fun c5 => ?_)
  · replace h := zi_t c5 h
    refine lv_aload_n F.1 F.2.1 dX19_deliver_17 rfl (lv_at hl 1 rfl) ?_
    refine lv_iload_n F.1 F.2.1 dX19_deliver_18 rfl (lv_at hl 2 rfl) ?_
    obtain ⟨r6, z7, hc8, h⟩ := zc_some h
    refine zr_calli (zrun_VN (As := [.int x2]) (rest := []) zn_2793 zq_2795 zs_X18_someWaitFor zq_2796 zq_25 hdX18_someWaitFor (by decide) (T := TX18) (N := 13) rfl (okX18_someWaitFor l D cy B ids hst N x1 hx1 x2  hr.2.2 hc8) F hr hx1 hl.1 rfl (by decide) dX19_deliver_19 rfl rfl hroX19_deliver_X18_someWaitFor ⟨Nat.zero_le _, Nat.zero_le _⟩) F hA hr (fun H locs hx9 hr => ?_)
    clear hc8
    refine lv_istore (lv' := [(4, .int r6), (0, .ref (B 19 x0)), (1, .ref (B 18 x1)), (2, .int x2), (3, .int x3)]) F.1 F.2.1 dX19_deliver_22 hl (by decide) rfl (fun ls hl => ?_)
    refine lv_aload_n F.1 F.2.1 dX19_deliver_24 rfl (lv_at hl 2 rfl) ?_
    refine gf19_223 F hx1 hr dX19_deliver_25 ?_
    refine lv_aload_n F.1 F.2.1 dX19_deliver_28 rfl (lv_at hl 2 rfl) ?_
    refine gf19_226 F hx1 hr dX19_deliver_29 ?_
    refine lv_aload_n F.1 F.2.1 dX19_deliver_32 rfl (lv_at hl 1 rfl) ?_
    refine lv_iload_n F.1 F.2.1 dX19_deliver_33 rfl (lv_at hl 4 rfl) ?_
    obtain ⟨r10, z11, hc12, h⟩ := zc_some h
    refine zr_calli (zrun_V (As := [.int x3]) (rest := [.int (zgI z7 18 12 x1), .ref (B 170 x1)]) zq_2619 zq_2621 zs_X19_copyOf zq_2622 zq_4 hdX19_copyOf (by decide) (T := TX19) (N := 32) rfl (okX19_copyOf l D cy B ids hst N x0 hx0 x3  hr.2.2 hc12) F hr hx0 hl.1 rfl (Nat.le_of_ble_eq_true rfl) dX19_deliver_34 rfl rfl hroX19_deliver_X19_copyOf ⟨Nat.zero_le _, Nat.zero_le _⟩) F hA hr (fun H locs hx13 hr => ?_)
    clear hc12
    obtain ⟨c14, h⟩ := zk_some h
    refine zr_iast (k := 170) (by decide) rfl (by decide) F (zal_a F hx1 (j := 10) rfl) hr dX19_deliver_37 c14 (fun H locs z15 ez15 hr => ?_)
    replace h := zl_sub ez15 h
    clear ez15
    refine lv_aload_n F.1 F.2.1 dX19_deliver_38 rfl (lv_at hl 2 rfl) ?_
    refine gf19_229 F hx1 hr dX19_deliver_39 ?_
    refine lv_aload_n F.1 F.2.1 dX19_deliver_42 rfl (lv_at hl 2 rfl) ?_
    refine gf19_226 F hx1 hr dX19_deliver_43 ?_
    refine lv_iload_n F.1 F.2.1 dX19_deliver_46 rfl (lv_at hl 3 rfl) ?_
    obtain ⟨c16, h⟩ := zk_some h
    refine zr_iast (k := 171) (by decide) rfl (by decide) F (zal_a F hx1 (j := 11) rfl) hr dX19_deliver_47 c16 (fun H locs z17 ez17 hr => ?_)
    replace h := zl_sub ez17 h
    clear ez17
    refine lv_aload_n F.1 F.2.1 dX19_deliver_48 rfl (lv_at hl 2 rfl) ?_
    refine lv_dup F.1 F.2.1 dX19_deliver_49 rfl ?_
    refine gf19_226 F hx1 hr dX19_deliver_50 ?_
    refine lv_iconst (v := (1)) F.1 F.2.1 dX19_deliver_53 (by decide) ?_
    refine lv_iadd F.1 F.2.1 dX19_deliver_54 ?_
    refine pf19_226 F hx1 hr dX19_deliver_55 ((zgI z17 18 12 x1) + (1)) (fun H locs z18 ez18 hr => ?_)
    replace h := zl_sub ez18 h
    clear ez18
    refine lv_iload F.1 F.2.1 dX19_deliver_58 (lv_at hl 0 rfl) ?_
    refine lv_if_ne (tgt := 102) F.1 F.2.1 dX19_deliver_60 (by decide) (fun c19 => ?_) (fun c19 => ?_)
    · replace h := zi_t c19 h
      exact bX19_deliver_102 hst F hA E  x0 x1 hx0 hx1 hr (lv_sub hl [1, 2] rfl) h
    · replace h := zi_f (fun q => q c19) h
      refine lv_aload_n F.1 F.2.1 dX19_deliver_63 rfl (lv_at hl 2 rfl) ?_
      refine gf19_232 F hx1 hr dX19_deliver_64 ?_
      refine lv_aload_n F.1 F.2.1 dX19_deliver_67 rfl (lv_at hl 2 rfl) ?_
      refine gf19_235 F hx1 hr dX19_deliver_68 ?_
      refine lv_iload_n F.1 F.2.1 dX19_deliver_71 rfl (lv_at hl 3 rfl) ?_
      obtain ⟨c20, h⟩ := zk_some h
      refine zr_iast (k := 168) (by decide) rfl (by decide) F (zal_a F hx1 (j := 7) rfl) hr dX19_deliver_72 c20 (fun H locs z21 ez21 hr => ?_)
      replace h := zl_sub ez21 h
      clear ez21
      refine lv_aload_n F.1 F.2.1 dX19_deliver_73 rfl (lv_at hl 2 rfl) ?_
      refine gf19_238 F hx1 hr dX19_deliver_74 ?_
      refine lv_aload_n F.1 F.2.1 dX19_deliver_77 rfl (lv_at hl 2 rfl) ?_
      refine gf19_235 F hx1 hr dX19_deliver_78 ?_
      refine lv_aload_n F.1 F.2.1 dX19_deliver_81 rfl (lv_at hl 1 rfl) ?_
      refine gf19_143 F hx0 hr dX19_deliver_82 ?_
      obtain ⟨c22, h⟩ := zk_some h
      refine zr_iast (k := 169) (by decide) rfl (by decide) F (zal_a F hx1 (j := 8) rfl) hr dX19_deliver_85 c22 (fun H locs z23 ez23 hr => ?_)
      replace h := zl_sub ez23 h
      clear ez23
      refine lv_aload_n F.1 F.2.1 dX19_deliver_86 rfl (lv_at hl 2 rfl) ?_
      refine lv_dup F.1 F.2.1 dX19_deliver_87 rfl ?_
      refine gf19_235 F hx1 hr dX19_deliver_88 ?_
      refine lv_iconst (v := (1)) F.1 F.2.1 dX19_deliver_91 (by decide) ?_
      refine lv_iadd F.1 F.2.1 dX19_deliver_92 ?_
      refine pf19_235 F hx1 hr dX19_deliver_93 ((zgI z23 18 9 x1) + (1)) (fun H locs z24 ez24 hr => ?_)
      replace h := zl_sub ez24 h
      clear ez24
      refine lv_aload_n F.1 F.2.1 dX19_deliver_96 rfl (lv_at hl 1 rfl) ?_
      refine lv_aload_n F.1 F.2.1 dX19_deliver_97 rfl (lv_at hl 2 rfl) ?_
      refine lv_iload_n F.1 F.2.1 dX19_deliver_98 rfl (lv_at hl 3 rfl) ?_
      obtain ⟨r25, z26, hc27, h⟩ := zc_some h
      refine zr_callv (zrun_V (As := [.ref (B 18 x1), .int x2]) (rest := []) zq_2797 zq_2799 zs_X19_ask zq_2800 zq_4 hdX19_ask (by decide) (T := TX19) (N := 32) rfl (okX19_ask l D cy B ids hst N x0 hx0 x1 hx1 x2  hr.2.2 hc27) F hr hx0 hl.1 rfl (by decide) dX19_deliver_99 rfl rfl hroX19_deliver_X19_ask ⟨Nat.zero_le _, Nat.zero_le _⟩) F hA hr (fun H locs hx28 hr => ?_)
      clear hc27
      exact bX19_deliver_102 hst F hA E  x0 x1 hx0 hx1 hr (lv_sub hl [1, 2] rfl) h
  · replace h := zi_f c5 h
    refine lv_aload_n F.1 F.2.1 dX19_deliver_9 rfl (lv_at hl 0 rfl) ?_
    refine lv_aload_n F.1 F.2.1 dX19_deliver_10 rfl (lv_at hl 1 rfl) ?_
    refine lv_iload_n F.1 F.2.1 dX19_deliver_11 rfl (lv_at hl 2 rfl) ?_
    refine lv_iload_n F.1 F.2.1 dX19_deliver_12 rfl (lv_at hl 3 rfl) ?_
    obtain ⟨r29, z30, hc31, h⟩ := zc_some h
    refine zr_callv (zrun_V (As := [.ref (B 18 x1), .int x2, .int x3]) (rest := []) zq_2607 zq_2609 zs_X19_carry zq_2610 zq_4 hdX19_carry (by decide) (T := TX19) (N := 32) rfl (okX19_carry l D cy B ids hst N x0 hx0 x1 hx1 x2  x3  hr.2.2 hc31) F hr hx0 hl.1 rfl (by decide) dX19_deliver_13 rfl rfl hroX19_deliver_X19_carry ⟨Nat.zero_le _, Nat.zero_le _⟩) F hA hr (fun H locs hx32 hr => ?_)
    clear hc31
    obtain ⟨rfl, rfl⟩ := zret h
    exact E _ _ _ _ dX19_deliver_16 trivial hr
end SX19_deliver
set_option maxRecDepth 100000 in
theorem okX19_deliver (l : Launch) (D : va_G) (cy : Nat → ClassId) (B : Nat → Nat → Nat) (ids : List (Nat × Nat)) (hst : zSt B ids) (N : Nat) (x0 : Nat) (hx0 : (19, x0) ∈ ids) (x1 : Nat) (hx1 : (18, x1) ∈ ids) (x2 : Int32) (x3 : Int32) {z : St} {r : Int32} {z' : St} (hW : zWf ids z) (h : fX19_deliver N x0 x1 x2 x3 z = some (r, z')) : zM l yX19_deliver (zws yX19_deliver cX19_deliver 6 none) rmX19_deliver D cy B ids [.ref (B 19 x0), .ref (B 18 x1), .int x2, .int x3] none True z z' :=
  zM_of hst hW (by decide +kernel) (Nat.le_of_ble_eq_true rfl) (fun p e s m args below meth c A ls F hA hret hlocks hr hl => bX19_deliver_0 hst F hA (zEnd_v F hret hlocks) x0 x1 x2 x3 hx0 hx1 hr hl h)
abbrev rmX19_firstWaiting : Room := { frames := 1, cells := 0, slots := 0, locals := 23 }
theorem hdX19_firstWaiting : yX19_firstWaiting.cls ≠ "java/lang/invoke/MethodHandle" ∧ yX19_firstWaiting.cls ≠ "java/lang/invoke/VarHandle" ∧ (parseMethodDescriptor yX19_firstWaiting.desc).map (fun d => d.parameters.length) = some 2 := by decide +kernel
theorem hroX19_firstWaiting_X18_takeWaiting : rmX18_takeWaiting.frames + 1 ≤ rmX19_firstWaiting.frames ∧ 8 + (4 + 11) + rmX18_takeWaiting.locals ≤ rmX19_firstWaiting.locals := by decide
section SX19_firstWaiting
variable {p : Program} {l : Launch} {e : Env} {s : State} {m : MethodId} {args : Array Value} {below : List Frame} {meth : Method} {c : Code} {Q : State → Prop} {D : va_G} {cy : Nat → ClassId} {B : Nat → Nat → Nat} {ids : List (Nat × Nat)} {A : Nat → Prop}
def fX19_firstWaiting_2b (N : Nat) (K2 : Nat → Int32 → Int32 → St → Option (Int32 × St)) (x1 : Nat) (x2 : Int32) (x3 : Int32) (z : St) : Option (Int32 × St) := if (zgI z 18 12 x1) ≤ x3 then (some ((-1), z)) else (zk x3 17 <| if ¬ (zgA z 171 x1 x3.toNatClampNeg) = x2 then (zl (x3 + 1) fun v4 => K2 x1 x2 v4 z) else (zc (fX18_takeWaiting N x1 x3 z) fun r5 z6 => some (r5, z6)))
def fX19_firstWaiting_2 (N : Nat)  : Nat → Nat → Int32 → Int32 → St → Option (Int32 × St)
  | 0 => fun _ _ _ _ => none
  | n + 1 => fX19_firstWaiting_2b N (fX19_firstWaiting_2 N  n)
set_option maxHeartbeats 4000000 in
set_option maxRecDepth 100000 in
theorem bX19_firstWaiting_2 (hst : zSt B ids) (F : zFx p m c cX19_firstWaiting 4 s args RX19 D cy B ids A) (hA : ∀ q : Nat, s.heap.size ≤ q → A q) {r : Int32} {z' : St} (E : zEnd p l e rmX19_firstWaiting s m args below meth c cX19_firstWaiting D cy B ids A Q (some (.int r)) z' .ireturn True) {N : Nat} {K2 : Nat → Int32 → Int32 → St → Option (Int32 × St)} (hK2 : ∀ (x1 : Nat) (x2 : Int32) (x3 : Int32) (hx1 : (18, x1) ∈ ids) {z : St} {H : Heap} {locs : List Loc} {ls : Array Slot} (hr : zRep D cy B ids A s.heap z H locs) (hl : lv_has ls 4 [(1, .ref (B 18 x1)), (2, .int x2), (3, .int x3)]), K2 x1 x2 x3 z = some (r, z') → W p l e rmX19_firstWaiting s m args below meth c H locs 0 0 Q (F0 m 2 ls [])) (x1 : Nat) (x2 : Int32) (x3 : Int32) (hx1 : (18, x1) ∈ ids) {z : St} {H : Heap} {locs : List Loc} {ls : Array Slot} (hr : zRep D cy B ids A s.heap z H locs) (hl : lv_has ls 4 [(1, .ref (B 18 x1)), (2, .int x2), (3, .int x3)]) (h : fX19_firstWaiting_2b N K2 x1 x2 x3 z = some (r, z')) : W p l e rmX19_firstWaiting s m args below meth c H locs 0 0 Q (F0 m 2 ls []) := by
  unfold fX19_firstWaiting_2b at h
  refine lv_iload_n F.1 F.2.1 dX19_firstWaiting_2 rfl (lv_at hl 2 rfl) ?_
  refine lv_aload_n F.1 F.2.1 dX19_firstWaiting_3 rfl (lv_at hl 0 rfl) ?_
  refine gf19_226 F hx1 hr dX19_firstWaiting_4 ?_
  refine lv_icmp_ge (tgt := 32) F.1 F.2.1 dX19_firstWaiting_7 (by decide) (fun c1 => ?_) (fun c1 => ?_)
  · replace h := zi_t c1 h
    refine lv_iconst (v := (-1)) F.1 F.2.1 dX19_firstWaiting_32 (by decide) ?_
    obtain ⟨rfl, rfl⟩ := zret h
    exact E _ _ _ _ dX19_firstWaiting_33 trivial hr
  · replace h := zi_f c1 h
    refine lv_aload_n F.1 F.2.1 dX19_firstWaiting_10 rfl (lv_at hl 0 rfl) ?_
    refine gf19_229 F hx1 hr dX19_firstWaiting_11 ?_
    refine lv_iload_n F.1 F.2.1 dX19_firstWaiting_14 rfl (lv_at hl 2 rfl) ?_
    obtain ⟨c2, h⟩ := zk_some h
    refine zr_iald (k := 171) (by decide) rfl (by decide) F (zal_a F hx1 (j := 11) rfl) hr dX19_firstWaiting_15 c2 ?_
    refine lv_iload_n F.1 F.2.1 dX19_firstWaiting_16 rfl (lv_at hl 1 rfl) ?_
    refine lv_icmp_ne (tgt := 26) F.1 F.2.1 dX19_firstWaiting_17 (by decide) (fun c3 => ?_) (fun c3 => ?_)
    · replace h := zi_t c3 h
      obtain ⟨v4, ev4⟩ : ∃ y : Int32, y = (x3 + 1) := ⟨_, rfl⟩
      replace h := zl_sub ev4 h
      refine lv_iinc (v := v4) (lv' := [(3, .int v4), (1, .ref (B 18 x1)), (2, .int x2)]) F.1 F.2.1 dX19_firstWaiting_26 hl (k := 2) rfl (by rw [ev4]; rfl) (by decide) rfl (fun ls hl => ?_)
      refine lv_goto (tgt := 2) F.1 F.2.1 dX19_firstWaiting_29 (by decide) ?_
      exact hK2 x1 x2 v4 hx1 hr (lv_sub hl [1, 2, 0] rfl) h
    · replace h := zi_f (fun q => q c3) h
      refine lv_aload_n F.1 F.2.1 dX19_firstWaiting_20 rfl (lv_at hl 0 rfl) ?_
      refine lv_iload_n F.1 F.2.1 dX19_firstWaiting_21 rfl (lv_at hl 2 rfl) ?_
      obtain ⟨r5, z6, hc7, h⟩ := zc_some h
      refine zr_calli (zrun_VN (As := [.int x3]) (rest := []) zn_2603 zq_2605 zs_X18_takeWaiting zq_2606 zq_25 hdX18_takeWaiting (by decide) (T := TX18) (N := 13) rfl (okX18_takeWaiting l D cy B ids hst N x1 hx1 x3  hr.2.2 hc7) F hr hx1 hl.1 rfl (by decide) dX19_firstWaiting_22 rfl rfl hroX19_firstWaiting_X18_takeWaiting ⟨Nat.zero_le _, Nat.zero_le _⟩) F hA hr (fun H locs hx8 hr => ?_)
      clear hc7
      obtain ⟨rfl, rfl⟩ := zret h
      exact E _ _ _ _ dX19_firstWaiting_25 trivial hr
theorem lX19_firstWaiting_2 (hst : zSt B ids) (F : zFx p m c cX19_firstWaiting 4 s args RX19 D cy B ids A) (hA : ∀ q : Nat, s.heap.size ≤ q → A q) {r : Int32} {z' : St} (E : zEnd p l e rmX19_firstWaiting s m args below meth c cX19_firstWaiting D cy B ids A Q (some (.int r)) z' .ireturn True) {N : Nat}  : ∀ (n : Nat) (x1 : Nat) (x2 : Int32) (x3 : Int32) (hx1 : (18, x1) ∈ ids) {z : St} {H : Heap} {locs : List Loc} {ls : Array Slot} (hr : zRep D cy B ids A s.heap z H locs) (hl : lv_has ls 4 [(1, .ref (B 18 x1)), (2, .int x2), (3, .int x3)]), fX19_firstWaiting_2 N  n x1 x2 x3 z = some (r, z') → W p l e rmX19_firstWaiting s m args below meth c H locs 0 0 Q (F0 m 2 ls []) := by
  intro n
  induction n with
  | zero => intro x1 x2 x3 hx1 z H locs ls hr hl h; cases h
  | succ n ih => intro x1 x2 x3 hx1 z H locs ls hr hl h; exact bX19_firstWaiting_2 hst F hA E ih x1 x2 x3 hx1 hr hl h
def fX19_firstWaiting (N : Nat)  (x0 : Nat) (x1 : Nat) (x2 : Int32) (z : St) : Option (Int32 × St) := fX19_firstWaiting_2 N N x1 x2 (0) z
set_option maxHeartbeats 4000000 in
set_option maxRecDepth 100000 in
theorem bX19_firstWaiting_0 (hst : zSt B ids) (F : zFx p m c cX19_firstWaiting 4 s args RX19 D cy B ids A) (hA : ∀ q : Nat, s.heap.size ≤ q → A q) {r : Int32} {z' : St} (E : zEnd p l e rmX19_firstWaiting s m args below meth c cX19_firstWaiting D cy B ids A Q (some (.int r)) z' .ireturn True) {N : Nat}  (x0 : Nat) (x1 : Nat) (x2 : Int32) (hx0 : (19, x0) ∈ ids) (hx1 : (18, x1) ∈ ids) {z : St} {H : Heap} {locs : List Loc} {ls : Array Slot} (hr : zRep D cy B ids A s.heap z H locs) (hl : lv_has ls 4 [(0, .ref (B 19 x0)), (1, .ref (B 18 x1)), (2, .int x2)]) (h : fX19_firstWaiting N x0 x1 x2 z = some (r, z')) : W p l e rmX19_firstWaiting s m args below meth c H locs 0 0 Q (F0 m 0 ls []) := by
  unfold fX19_firstWaiting at h
  refine lv_iconst (v := (0)) F.1 F.2.1 dX19_firstWaiting_0 (by decide) ?_
  refine lv_istore_n (lv' := [(3, .int (0)), (0, .ref (B 19 x0)), (1, .ref (B 18 x1)), (2, .int x2)]) F.1 F.2.1 dX19_firstWaiting_1 rfl hl (by decide) rfl (fun ls hl => ?_)
  exact lX19_firstWaiting_2 hst F hA E  _ x1 x2 (0) hx1 hr (lv_sub hl [2, 3, 0] rfl) h
end SX19_firstWaiting
set_option maxRecDepth 100000 in
theorem okX19_firstWaiting (l : Launch) (D : va_G) (cy : Nat → ClassId) (B : Nat → Nat → Nat) (ids : List (Nat × Nat)) (hst : zSt B ids) (N : Nat) (x0 : Nat) (hx0 : (19, x0) ∈ ids) (x1 : Nat) (hx1 : (18, x1) ∈ ids) (x2 : Int32) {z : St} {r : Int32} {z' : St} (hW : zWf ids z) (h : fX19_firstWaiting N x0 x1 x2 z = some (r, z')) : zM l yX19_firstWaiting (zws yX19_firstWaiting cX19_firstWaiting 4 (some .int)) rmX19_firstWaiting D cy B ids [.ref (B 19 x0), .ref (B 18 x1), .int x2] (some (.int r)) True z z' :=
  zM_of hst hW (by decide +kernel) (Nat.le_of_ble_eq_true rfl) (fun p e s m args below meth c A ls F hA hret hlocks hr hl => bX19_firstWaiting_0 hst F hA (zEnd_i F hret hlocks) x0 x1 x2 hx0 hx1 hr hl h)
abbrev rmX19_isOwn : Room := { frames := 1, cells := 0, slots := 0, locals := 20 }
theorem hdX19_isOwn : yX19_isOwn.cls ≠ "java/lang/invoke/MethodHandle" ∧ yX19_isOwn.cls ≠ "java/lang/invoke/VarHandle" ∧ (parseMethodDescriptor yX19_isOwn.desc).map (fun d => d.parameters.length) = some 2 := by decide +kernel
theorem hroX19_isOwn_X18_address : rmX18_address.frames + 1 ≤ rmX19_isOwn.frames ∧ 8 + (1 + 11) + rmX18_address.locals ≤ rmX19_isOwn.locals := by decide
section SX19_isOwn
variable {p : Program} {l : Launch} {e : Env} {s : State} {m : MethodId} {args : Array Value} {below : List Frame} {meth : Method} {c : Code} {Q : State → Prop} {D : va_G} {cy : Nat → ClassId} {B : Nat → Nat → Nat} {ids : List (Nat × Nat)} {A : Nat → Prop}
def fX19_isOwn_2b (N : Nat) (K2 : Nat → Int32 → Int32 → St → Option (Int32 × St)) (x1 : Nat) (x2 : Int32) (x3 : Int32) (z : St) : Option (Int32 × St) := if (zgI z 12 3 x1) ≤ x3 then (some ((0), z)) else (zk x3 6 <| zl (zgQ z 147 x1 x3.toNatClampNeg) fun y3 => zd y3 fun a4 => zc (fX18_address N a4 z) fun r5 z6 => if ¬ r5 = x2 then (zl (x3 + 1) fun v10 => K2 x1 x2 v10 z6) else (some ((1), z6)))
def fX19_isOwn_2 (N : Nat)  : Nat → Nat → Int32 → Int32 → St → Option (Int32 × St)
  | 0 => fun _ _ _ _ => none
  | n + 1 => fX19_isOwn_2b N (fX19_isOwn_2 N  n)
set_option maxHeartbeats 4000000 in
set_option maxRecDepth 100000 in
theorem bX19_isOwn_2 (hst : zSt B ids) (F : zFx p m c cX19_isOwn 4 s args RX19 D cy B ids A) (hA : ∀ q : Nat, s.heap.size ≤ q → A q) {r : Int32} {z' : St} (E : zEnd p l e rmX19_isOwn s m args below meth c cX19_isOwn D cy B ids A Q (some (.int r)) z' .ireturn (r = 0 ∨ r = 1)) {N : Nat} {K2 : Nat → Int32 → Int32 → St → Option (Int32 × St)} (hK2 : ∀ (x1 : Nat) (x2 : Int32) (x3 : Int32) (hx1 : (12, x1) ∈ ids) {z : St} {H : Heap} {locs : List Loc} {ls : Array Slot} (hr : zRep D cy B ids A s.heap z H locs) (hl : lv_has ls 4 [(1, .ref (B 12 x1)), (2, .int x2), (3, .int x3)]), K2 x1 x2 x3 z = some (r, z') → W p l e rmX19_isOwn s m args below meth c H locs 0 0 Q (F0 m 2 ls [])) (x1 : Nat) (x2 : Int32) (x3 : Int32) (hx1 : (12, x1) ∈ ids) {z : St} {H : Heap} {locs : List Loc} {ls : Array Slot} (hr : zRep D cy B ids A s.heap z H locs) (hl : lv_has ls 4 [(1, .ref (B 12 x1)), (2, .int x2), (3, .int x3)]) (h : fX19_isOwn_2b N K2 x1 x2 x3 z = some (r, z')) : W p l e rmX19_isOwn s m args below meth c H locs 0 0 Q (F0 m 2 ls []) := by
  unfold fX19_isOwn_2b at h
  refine lv_iload_n F.1 F.2.1 dX19_isOwn_2 rfl (lv_at hl 2 rfl) ?_
  refine lv_aload_n F.1 F.2.1 dX19_isOwn_3 rfl (lv_at hl 0 rfl) ?_
  refine gf19_273 F hx1 hr dX19_isOwn_4 ?_
  refine lv_icmp_ge (tgt := 31) F.1 F.2.1 dX19_isOwn_7 (by decide) (fun c1 => ?_) (fun c1 => ?_)
  · replace h := zi_t c1 h
    refine lv_iconst (v := (0)) F.1 F.2.1 dX19_isOwn_31 (by decide) ?_
    obtain ⟨rfl, rfl⟩ := zret h
    exact E _ _ _ _ dX19_isOwn_32 (by decide) hr
  · replace h := zi_f c1 h
    refine lv_aload_n F.1 F.2.1 dX19_isOwn_10 rfl (lv_at hl 0 rfl) ?_
    refine gf19_276 F hx1 hr dX19_isOwn_11 ?_
    refine lv_iload_n F.1 F.2.1 dX19_isOwn_14 rfl (lv_at hl 2 rfl) ?_
    obtain ⟨c2, h⟩ := zk_some h
    refine zr_aaldv (k := 147) (by decide) rfl rfl (zlen_d (by decide)) F (zal_a F hx1 (j := 2) rfl) hr dX19_isOwn_15 c2 (fun y3 ey3 => ?_)
    replace h := zl_sub ey3 h
    have hy3 := zal_q hr (zal_a F hx1 (j := 2) rfl) rfl ey3
    clear ey3
    obtain ⟨a4, rfl, h⟩ := zd_some h
    obtain ⟨r5, z6, hc7, h⟩ := zc_some h
    refine zr_calli (zrun_VN (As := []) (rest := []) zn_2520 zq_2522 zs_X18_address zq_2523 zq_25 hdX18_address (by decide) (T := TX18) (N := 13) rfl (okX18_address l D cy B ids hst N a4 (hy3 _ rfl) hr.2.2 hc7) F hr (hy3 _ rfl) hl.1 rfl (by decide) dX19_isOwn_16 rfl rfl hroX19_isOwn_X18_address ⟨Nat.zero_le _, Nat.zero_le _⟩) F hA hr (fun H locs hx8 hr => ?_)
    clear hc7
    refine lv_iload_n F.1 F.2.1 dX19_isOwn_19 rfl (lv_at hl 1 rfl) ?_
    refine lv_icmp_ne (tgt := 25) F.1 F.2.1 dX19_isOwn_20 (by decide) (fun c9 => ?_) (fun c9 => ?_)
    · replace h := zi_t c9 h
      obtain ⟨v10, ev10⟩ : ∃ y : Int32, y = (x3 + 1) := ⟨_, rfl⟩
      replace h := zl_sub ev10 h
      refine lv_iinc (v := v10) (lv' := [(3, .int v10), (1, .ref (B 12 x1)), (2, .int x2)]) F.1 F.2.1 dX19_isOwn_25 hl (k := 2) rfl (by rw [ev10]; rfl) (by decide) rfl (fun ls hl => ?_)
      refine lv_goto (tgt := 2) F.1 F.2.1 dX19_isOwn_28 (by decide) ?_
      exact hK2 x1 x2 v10 hx1 hr (lv_sub hl [1, 2, 0] rfl) h
    · replace h := zi_f (fun q => q c9) h
      refine lv_iconst (v := (1)) F.1 F.2.1 dX19_isOwn_23 (by decide) ?_
      obtain ⟨rfl, rfl⟩ := zret h
      exact E _ _ _ _ dX19_isOwn_24 (by decide) hr
theorem lX19_isOwn_2 (hst : zSt B ids) (F : zFx p m c cX19_isOwn 4 s args RX19 D cy B ids A) (hA : ∀ q : Nat, s.heap.size ≤ q → A q) {r : Int32} {z' : St} (E : zEnd p l e rmX19_isOwn s m args below meth c cX19_isOwn D cy B ids A Q (some (.int r)) z' .ireturn (r = 0 ∨ r = 1)) {N : Nat}  : ∀ (n : Nat) (x1 : Nat) (x2 : Int32) (x3 : Int32) (hx1 : (12, x1) ∈ ids) {z : St} {H : Heap} {locs : List Loc} {ls : Array Slot} (hr : zRep D cy B ids A s.heap z H locs) (hl : lv_has ls 4 [(1, .ref (B 12 x1)), (2, .int x2), (3, .int x3)]), fX19_isOwn_2 N  n x1 x2 x3 z = some (r, z') → W p l e rmX19_isOwn s m args below meth c H locs 0 0 Q (F0 m 2 ls []) := by
  intro n
  induction n with
  | zero => intro x1 x2 x3 hx1 z H locs ls hr hl h; cases h
  | succ n ih => intro x1 x2 x3 hx1 z H locs ls hr hl h; exact bX19_isOwn_2 hst F hA E ih x1 x2 x3 hx1 hr hl h
def fX19_isOwn (N : Nat)  (x0 : Nat) (x1 : Nat) (x2 : Int32) (z : St) : Option (Int32 × St) := fX19_isOwn_2 N N x1 x2 (0) z
set_option maxHeartbeats 4000000 in
set_option maxRecDepth 100000 in
theorem bX19_isOwn_0 (hst : zSt B ids) (F : zFx p m c cX19_isOwn 4 s args RX19 D cy B ids A) (hA : ∀ q : Nat, s.heap.size ≤ q → A q) {r : Int32} {z' : St} (E : zEnd p l e rmX19_isOwn s m args below meth c cX19_isOwn D cy B ids A Q (some (.int r)) z' .ireturn (r = 0 ∨ r = 1)) {N : Nat}  (x0 : Nat) (x1 : Nat) (x2 : Int32) (hx0 : (19, x0) ∈ ids) (hx1 : (12, x1) ∈ ids) {z : St} {H : Heap} {locs : List Loc} {ls : Array Slot} (hr : zRep D cy B ids A s.heap z H locs) (hl : lv_has ls 4 [(0, .ref (B 19 x0)), (1, .ref (B 12 x1)), (2, .int x2)]) (h : fX19_isOwn N x0 x1 x2 z = some (r, z')) : W p l e rmX19_isOwn s m args below meth c H locs 0 0 Q (F0 m 0 ls []) := by
  unfold fX19_isOwn at h
  refine lv_iconst (v := (0)) F.1 F.2.1 dX19_isOwn_0 (by decide) ?_
  refine lv_istore_n (lv' := [(3, .int (0)), (0, .ref (B 19 x0)), (1, .ref (B 12 x1)), (2, .int x2)]) F.1 F.2.1 dX19_isOwn_1 rfl hl (by decide) rfl (fun ls hl => ?_)
  exact lX19_isOwn_2 hst F hA E  _ x1 x2 (0) hx1 hr (lv_sub hl [2, 3, 0] rfl) h
end SX19_isOwn
set_option maxRecDepth 100000 in
theorem okX19_isOwn (l : Launch) (D : va_G) (cy : Nat → ClassId) (B : Nat → Nat → Nat) (ids : List (Nat × Nat)) (hst : zSt B ids) (N : Nat) (x0 : Nat) (hx0 : (19, x0) ∈ ids) (x1 : Nat) (hx1 : (12, x1) ∈ ids) (x2 : Int32) {z : St} {r : Int32} {z' : St} (hW : zWf ids z) (h : fX19_isOwn N x0 x1 x2 z = some (r, z')) : zM l yX19_isOwn (zws yX19_isOwn cX19_isOwn 4 (some .boolean)) rmX19_isOwn D cy B ids [.ref (B 19 x0), .ref (B 12 x1), .int x2] (some (.int r)) (r = 0 ∨ r = 1) z z' :=
  zM_of hst hW (by decide +kernel) (Nat.le_of_ble_eq_true rfl) (fun p e s m args below meth c A ls F hA hret hlocks hr hl => bX19_isOwn_0 hst F hA (zEnd_z F hret hlocks) x0 x1 x2 hx0 hx1 hr hl h)
abbrev rmX19_act : Room := { frames := 2, cells := 0, slots := 0, locals := 43 }
theorem hdX19_act : yX19_act.cls ≠ "java/lang/invoke/MethodHandle" ∧ yX19_act.cls ≠ "java/lang/invoke/VarHandle" ∧ (parseMethodDescriptor yX19_act.desc).map (fun d => d.parameters.length) = some 5 := by decide +kernel
theorem hroX19_act_X14_become : rmX14_become.frames + 1 ≤ rmX19_act.frames ∧ 8 + (3 + 11) + rmX14_become.locals ≤ rmX19_act.locals := by decide
theorem hroX19_act_X19_isOwn : rmX19_isOwn.frames + 1 ≤ rmX19_act.frames ∧ 8 + (4 + 11) + rmX19_isOwn.locals ≤ rmX19_act.locals := by decide
section SX19_act
variable {p : Program} {l : Launch} {e : Env} {s : State} {m : MethodId} {args : Array Value} {below : List Frame} {meth : Method} {c : Code} {Q : State → Prop} {D : va_G} {cy : Nat → ClassId} {B : Nat → Nat → Nat} {ids : List (Nat × Nat)} {A : Nat → Prop}
def fX19_act_100 (N : Nat) (K3 : Nat → Nat → Int32 → Int32 → Int32 → Int32 → Int32 → St → Option (Int32 × St)) (x0 : Nat) (x1 : Nat) (x2 : Int32) (x3 : Int32) (x4 : Int32) (x5 : Int32) (x6 : Int32) (z : St) : Option (Int32 × St) := zl (x6 + 1) fun v1 => K3 x0 x1 x2 x3 x4 x5 v1 z
set_option maxHeartbeats 4000000 in
set_option maxRecDepth 100000 in
theorem bX19_act_100 (hst : zSt B ids) (F : zFx p m c cX19_act 8 s args RX19 D cy B ids A) (hA : ∀ q : Nat, s.heap.size ≤ q → A q) {r : Int32} {z' : St} (E : zEnd p l e rmX19_act s m args below meth c cX19_act D cy B ids A Q none z' .return_ True) {N : Nat} {K3 : Nat → Nat → Int32 → Int32 → Int32 → Int32 → Int32 → St → Option (Int32 × St)} (hK3 : ∀ (x0 : Nat) (x1 : Nat) (x2 : Int32) (x3 : Int32) (x4 : Int32) (x5 : Int32) (x6 : Int32) (hx0 : (19, x0) ∈ ids) (hx1 : (12, x1) ∈ ids) {z : St} {H : Heap} {locs : List Loc} {ls : Array Slot} (hr : zRep D cy B ids A s.heap z H locs) (hl : lv_has ls 8 [(0, .ref (B 19 x0)), (1, .ref (B 12 x1)), (2, .int x2), (3, .int x3), (4, .int x4), (5, .int x5), (6, .int x6)]), K3 x0 x1 x2 x3 x4 x5 x6 z = some (r, z') → W p l e rmX19_act s m args below meth c H locs 0 0 Q (F0 m 3 ls [])) (x0 : Nat) (x1 : Nat) (x2 : Int32) (x3 : Int32) (x4 : Int32) (x5 : Int32) (x6 : Int32) (hx0 : (19, x0) ∈ ids) (hx1 : (12, x1) ∈ ids) {z : St} {H : Heap} {locs : List Loc} {ls : Array Slot} (hr : zRep D cy B ids A s.heap z H locs) (hl : lv_has ls 8 [(0, .ref (B 19 x0)), (1, .ref (B 12 x1)), (2, .int x2), (3, .int x3), (4, .int x4), (5, .int x5), (6, .int x6)]) (h : fX19_act_100 N K3 x0 x1 x2 x3 x4 x5 x6 z = some (r, z')) : W p l e rmX19_act s m args below meth c H locs 0 0 Q (F0 m 100 ls []) := by
  unfold fX19_act_100 at h
  obtain ⟨v1, ev1⟩ : ∃ y : Int32, y = (x6 + 1) := ⟨_, rfl⟩
  replace h := zl_sub ev1 h
  refine lv_iinc (v := v1) (lv' := [(6, .int v1), (0, .ref (B 19 x0)), (1, .ref (B 12 x1)), (2, .int x2), (3, .int x3), (4, .int x4), (5, .int x5)]) F.1 F.2.1 dX19_act_100 hl (k := 6) rfl (by rw [ev1]; rfl) (by decide) rfl (fun ls hl => ?_)
  refine lv_goto (tgt := 3) F.1 F.2.1 dX19_act_103 (by decide) ?_
  exact hK3 x0 x1 x2 x3 x4 x5 v1 hx0 hx1 hr (lv_sub hl [1, 2, 3, 4, 5, 6, 0] rfl) h
def fX19_act_3b (N : Nat) (K3 : Nat → Nat → Int32 → Int32 → Int32 → Int32 → Int32 → St → Option (Int32 × St)) (x0 : Nat) (x1 : Nat) (x2 : Int32) (x3 : Int32) (x4 : Int32) (x5 : Int32) (x6 : Int32) (z : St) : Option (Int32 × St) := if ¬ (zgI z 12 1 x1) = 0 then (some (0, z)) else (if (6) ≤ x6 then (some (0, z)) else (zk x6 6 <| zl (zgQ z 158 x1 x6.toNatClampNeg) fun y4 => zd y4 fun a5 => zl (zgR z 13 4 a5) fun y6 => zk x6 6 <| zl (zgQ z 158 x1 x6.toNatClampNeg) fun y8 => zd y8 fun a9 => if (zgI z 13 3 a9) = 0 then (fX19_act_100 N K3 x0 x1 x2 x3 x4 x5 x6 z) else (zd y6 fun a11 => if ¬ (zgI z 14 0 a11) = (2) then (fX19_act_100 N K3 x0 x1 x2 x3 x4 x5 x6 z) else (zc (fX19_isOwn N x0 x1 x2 z) fun r13 z14 => if r13 = 0 then (fX19_act_100 N K3 x0 x1 x2 x3 x4 x5 x6 z14) else (if ¬ (zgI z14 14 2 a11) = x4 then (fX19_act_100 N K3 x0 x1 x2 x3 x4 x5 x6 z14) else (if ¬ (zgI z14 14 3 a11) = x3 then (fX19_act_100 N K3 x0 x1 x2 x3 x4 x5 x6 z14) else (if ¬ (zgI z14 14 4 a11) = x5 then (fX19_act_100 N K3 x0 x1 x2 x3 x4 x5 x6 z14) else (zc (fX14_become N a11 (11) (zgI z14 19 24 x0) z14) fun _ z22 => fX19_act_100 N K3 x0 x1 x2 x3 x4 x5 x6 z22))))))))
def fX19_act_3 (N : Nat)  : Nat → Nat → Nat → Int32 → Int32 → Int32 → Int32 → Int32 → St → Option (Int32 × St)
  | 0 => fun _ _ _ _ _ _ _ _ => none
  | n + 1 => fX19_act_3b N (fX19_act_3 N  n)
set_option maxHeartbeats 4000000 in
set_option maxRecDepth 100000 in
theorem bX19_act_3 (hst : zSt B ids) (F : zFx p m c cX19_act 8 s args RX19 D cy B ids A) (hA : ∀ q : Nat, s.heap.size ≤ q → A q) {r : Int32} {z' : St} (E : zEnd p l e rmX19_act s m args below meth c cX19_act D cy B ids A Q none z' .return_ True) {N : Nat} {K3 : Nat → Nat → Int32 → Int32 → Int32 → Int32 → Int32 → St → Option (Int32 × St)} (hK3 : ∀ (x0 : Nat) (x1 : Nat) (x2 : Int32) (x3 : Int32) (x4 : Int32) (x5 : Int32) (x6 : Int32) (hx0 : (19, x0) ∈ ids) (hx1 : (12, x1) ∈ ids) {z : St} {H : Heap} {locs : List Loc} {ls : Array Slot} (hr : zRep D cy B ids A s.heap z H locs) (hl : lv_has ls 8 [(0, .ref (B 19 x0)), (1, .ref (B 12 x1)), (2, .int x2), (3, .int x3), (4, .int x4), (5, .int x5), (6, .int x6)]), K3 x0 x1 x2 x3 x4 x5 x6 z = some (r, z') → W p l e rmX19_act s m args below meth c H locs 0 0 Q (F0 m 3 ls [])) (x0 : Nat) (x1 : Nat) (x2 : Int32) (x3 : Int32) (x4 : Int32) (x5 : Int32) (x6 : Int32) (hx0 : (19, x0) ∈ ids) (hx1 : (12, x1) ∈ ids) {z : St} {H : Heap} {locs : List Loc} {ls : Array Slot} (hr : zRep D cy B ids A s.heap z H locs) (hl : lv_has ls 8 [(0, .ref (B 19 x0)), (1, .ref (B 12 x1)), (2, .int x2), (3, .int x3), (4, .int x4), (5, .int x5), (6, .int x6)]) (h : fX19_act_3b N K3 x0 x1 x2 x3 x4 x5 x6 z = some (r, z')) : W p l e rmX19_act s m args below meth c H locs 0 0 Q (F0 m 3 ls []) := by
  unfold fX19_act_3b at h
  refine lv_aload_n F.1 F.2.1 dX19_act_3 rfl (lv_at hl 1 rfl) ?_
  refine gf19_298 F hx1 hr dX19_act_4 ?_
  refine lv_if_ne (tgt := 106) F.1 F.2.1 dX19_act_7 (by decide) (fun c1 => ?_) (fun c1 => ?_)
  · replace h := zi_t c1 h
    obtain ⟨rfl, rfl⟩ := zret h
    exact E _ _ _ _ dX19_act_106 trivial hr
  · replace h := zi_f (fun q => q c1) h
    refine lv_iload F.1 F.2.1 dX19_act_10 (lv_at hl 6 rfl) ?_
    refine lv_bipush (v := (6)) F.1 F.2.1 dX19_act_12 (by decide) ?_
    refine lv_icmp_ge (tgt := 106) F.1 F.2.1 dX19_act_14 (by decide) (fun c2 => ?_) (fun c2 => ?_)
    · replace h := zi_t c2 h
      obtain ⟨rfl, rfl⟩ := zret h
      exact E _ _ _ _ dX19_act_106 trivial hr
    · replace h := zi_f c2 h
      refine lv_aload_n F.1 F.2.1 dX19_act_17 rfl (lv_at hl 1 rfl) ?_
      refine gf19_340 F hx1 hr dX19_act_18 ?_
      refine lv_iload F.1 F.2.1 dX19_act_21 (lv_at hl 6 rfl) ?_
      obtain ⟨c3, h⟩ := zk_some h
      refine zr_aaldv (k := 158) (by decide) rfl rfl (zlen_d (by decide)) F (zal_a F hx1 (j := 28) rfl) hr dX19_act_23 c3 (fun y4 ey4 => ?_)
      replace h := zl_sub ey4 h
      have hy4 := zal_q hr (zal_a F hx1 (j := 28) rfl) rfl ey4
      clear ey4
      obtain ⟨a5, rfl, h⟩ := zd_some h
      refine gf19_344 F (hy4 _ rfl) hr dX19_act_24 (fun y6 ey6 => ?_)
      replace h := zl_sub ey6 h
      have hy6 := zal_g hr (hy4 _ rfl) (j := 4) rfl ey6
      clear ey6
      refine zr_astore (lv' := [(7, va_rf (Option.map (B 14) y6)), (0, .ref (B 19 x0)), (1, .ref (B 12 x1)), (2, .int x2), (3, .int x3), (4, .int x4), (5, .int x5), (6, .int x6)]) F.1 F.2.1 dX19_act_27 hl (by decide) rfl (fun ls hl => ?_)
      refine lv_aload_n F.1 F.2.1 dX19_act_29 rfl (lv_at hl 2 rfl) ?_
      refine gf19_340 F hx1 hr dX19_act_30 ?_
      refine lv_iload F.1 F.2.1 dX19_act_33 (lv_at hl 7 rfl) ?_
      obtain ⟨c7, h⟩ := zk_some h
      refine zr_aaldv (k := 158) (by decide) rfl rfl (zlen_d (by decide)) F (zal_a F hx1 (j := 28) rfl) hr dX19_act_35 c7 (fun y8 ey8 => ?_)
      replace h := zl_sub ey8 h
      have hy8 := zal_q hr (zal_a F hx1 (j := 28) rfl) rfl ey8
      clear ey8
      obtain ⟨a9, rfl, h⟩ := zd_some h
      refine gf19_350 F (hy8 _ rfl) hr dX19_act_36 ?_
      refine lv_if_eq (tgt := 100) F.1 F.2.1 dX19_act_39 (by decide) (fun c10 => ?_) (fun c10 => ?_)
      · replace h := zi_t c10 h
        exact bX19_act_100 hst F hA E hK3 x0 x1 x2 x3 x4 x5 x6 hx0 hx1 hr (lv_sub hl [1, 2, 3, 4, 5, 6, 7] rfl) h
      · replace h := zi_f c10 h
        refine zr_aload F.1 F.2.1 dX19_act_42 (lv_at hl 0 rfl) ?_
        obtain ⟨a11, rfl, h⟩ := zd_some h
        refine gf19_353 F (hy6 _ rfl) hr dX19_act_44 ?_
        refine lv_iconst (v := (2)) F.1 F.2.1 dX19_act_47 (by decide) ?_
        refine lv_icmp_ne (tgt := 100) F.1 F.2.1 dX19_act_48 (by decide) (fun c12 => ?_) (fun c12 => ?_)
        · replace h := zi_t c12 h
          exact bX19_act_100 hst F hA E hK3 x0 x1 x2 x3 x4 x5 x6 hx0 hx1 hr (lv_sub hl [1, 2, 3, 4, 5, 6, 7] rfl) h
        · replace h := zi_f (fun q => q c12) h
          refine lv_aload_n F.1 F.2.1 dX19_act_51 rfl (lv_at hl 1 rfl) ?_
          refine lv_aload_n F.1 F.2.1 dX19_act_52 rfl (lv_at hl 2 rfl) ?_
          refine lv_iload_n F.1 F.2.1 dX19_act_53 rfl (lv_at hl 3 rfl) ?_
          obtain ⟨r13, z14, hc15, h⟩ := zc_some h
          refine zr_calli (zrun_V (As := [.ref (B 12 x1), .int x2]) (rest := []) zq_2627 zq_2629 zs_X19_isOwn zq_2630 zq_4 hdX19_isOwn (by decide) (T := TX19) (N := 32) rfl (okX19_isOwn l D cy B ids hst N x0 hx0 x1 hx1 x2  hr.2.2 hc15) F hr hx0 hl.1 rfl (by decide) dX19_act_54 rfl rfl hroX19_act_X19_isOwn ⟨Nat.zero_le _, Nat.zero_le _⟩) F hA hr (fun H locs hx16 hr => ?_)
          clear hc15
          refine lv_if_eq (tgt := 100) F.1 F.2.1 dX19_act_57 (by decide) (fun c17 => ?_) (fun c17 => ?_)
          · replace h := zi_t c17 h
            exact bX19_act_100 hst F hA E hK3 x0 x1 x2 x3 x4 x5 x6 hx0 hx1 hr (lv_sub hl [1, 2, 3, 4, 5, 6, 7] rfl) h
          · replace h := zi_f c17 h
            refine lv_aload F.1 F.2.1 dX19_act_60 (lv_at hl 0 rfl) ?_
            refine gf19_358 F (hy6 _ rfl) hr dX19_act_62 ?_
            refine lv_iload F.1 F.2.1 dX19_act_65 (lv_at hl 5 rfl) ?_
            refine lv_icmp_ne (tgt := 100) F.1 F.2.1 dX19_act_67 (by decide) (fun c18 => ?_) (fun c18 => ?_)
            · replace h := zi_t c18 h
              exact bX19_act_100 hst F hA E hK3 x0 x1 x2 x3 x4 x5 x6 hx0 hx1 hr (lv_sub hl [1, 2, 3, 4, 5, 6, 7] rfl) h
            · replace h := zi_f (fun q => q c18) h
              refine lv_aload F.1 F.2.1 dX19_act_70 (lv_at hl 0 rfl) ?_
              refine gf19_361 F (hy6 _ rfl) hr dX19_act_72 ?_
              refine lv_iload_n F.1 F.2.1 dX19_act_75 rfl (lv_at hl 4 rfl) ?_
              refine lv_icmp_ne (tgt := 100) F.1 F.2.1 dX19_act_76 (by decide) (fun c19 => ?_) (fun c19 => ?_)
              · replace h := zi_t c19 h
                exact bX19_act_100 hst F hA E hK3 x0 x1 x2 x3 x4 x5 x6 hx0 hx1 hr (lv_sub hl [1, 2, 3, 4, 5, 6, 7] rfl) h
              · replace h := zi_f (fun q => q c19) h
                refine lv_aload F.1 F.2.1 dX19_act_79 (lv_at hl 0 rfl) ?_
                refine gf19_364 F (hy6 _ rfl) hr dX19_act_81 ?_
                refine lv_iload F.1 F.2.1 dX19_act_84 (lv_at hl 6 rfl) ?_
                refine lv_icmp_ne (tgt := 100) F.1 F.2.1 dX19_act_86 (by decide) (fun c20 => ?_) (fun c20 => ?_)
                · replace h := zi_t c20 h
                  exact bX19_act_100 hst F hA E hK3 x0 x1 x2 x3 x4 x5 x6 hx0 hx1 hr (lv_sub hl [1, 2, 3, 4, 5, 6, 7] rfl) h
                · replace h := zi_f (fun q => q c20) h
                  refine lv_aload F.1 F.2.1 dX19_act_89 (lv_at hl 0 rfl) ?_
                  refine lv_bipush (v := (11)) F.1 F.2.1 dX19_act_91 (by decide) ?_
                  refine lv_aload_n F.1 F.2.1 dX19_act_93 rfl (lv_at hl 1 rfl) ?_
                  refine gf19_143 F hx0 hr dX19_act_94 ?_
                  obtain ⟨r21, z22, hc23, h⟩ := zc_some h
                  refine zr_callv (zrun_VN (As := [.int (11), .int (zgI z14 19 24 x0)]) (rest := []) zn_2643 zq_2645 zs_X14_become zq_2646 zq_21 hdX14_become (by decide) (T := TX14) (N := 47) rfl (okX14_become l D cy B ids hst N a11 (hy6 _ rfl) (11)  (zgI z14 19 24 x0)  hr.2.2 hc23) F hr (hy6 _ rfl) hl.1 rfl (by decide) dX19_act_97 rfl rfl hroX19_act_X14_become ⟨Nat.zero_le _, Nat.zero_le _⟩) F hA hr (fun H locs hx24 hr => ?_)
                  clear hc23
                  exact bX19_act_100 hst F hA E hK3 x0 x1 x2 x3 x4 x5 x6 hx0 hx1 hr (lv_sub hl [1, 2, 3, 4, 5, 6, 7] rfl) h
theorem lX19_act_3 (hst : zSt B ids) (F : zFx p m c cX19_act 8 s args RX19 D cy B ids A) (hA : ∀ q : Nat, s.heap.size ≤ q → A q) {r : Int32} {z' : St} (E : zEnd p l e rmX19_act s m args below meth c cX19_act D cy B ids A Q none z' .return_ True) {N : Nat}  : ∀ (n : Nat) (x0 : Nat) (x1 : Nat) (x2 : Int32) (x3 : Int32) (x4 : Int32) (x5 : Int32) (x6 : Int32) (hx0 : (19, x0) ∈ ids) (hx1 : (12, x1) ∈ ids) {z : St} {H : Heap} {locs : List Loc} {ls : Array Slot} (hr : zRep D cy B ids A s.heap z H locs) (hl : lv_has ls 8 [(0, .ref (B 19 x0)), (1, .ref (B 12 x1)), (2, .int x2), (3, .int x3), (4, .int x4), (5, .int x5), (6, .int x6)]), fX19_act_3 N  n x0 x1 x2 x3 x4 x5 x6 z = some (r, z') → W p l e rmX19_act s m args below meth c H locs 0 0 Q (F0 m 3 ls []) := by
  intro n
  induction n with
  | zero => intro x0 x1 x2 x3 x4 x5 x6 hx0 hx1 z H locs ls hr hl h; cases h
  | succ n ih => intro x0 x1 x2 x3 x4 x5 x6 hx0 hx1 z H locs ls hr hl h; exact bX19_act_3 hst F hA E ih x0 x1 x2 x3 x4 x5 x6 hx0 hx1 hr hl h
def fX19_act (N : Nat)  (x0 : Nat) (x1 : Nat) (x2 : Int32) (x3 : Int32) (x4 : Int32) (x5 : Int32) (z : St) : Option (Int32 × St) := fX19_act_3 N N x0 x1 x2 x3 x4 x5 (0) z
set_option maxHeartbeats 4000000 in
set_option maxRecDepth 100000 in
theorem bX19_act_0 (hst : zSt B ids) (F : zFx p m c cX19_act 8 s args RX19 D cy B ids A) (hA : ∀ q : Nat, s.heap.size ≤ q → A q) {r : Int32} {z' : St} (E : zEnd p l e rmX19_act s m args below meth c cX19_act D cy B ids A Q none z' .return_ True) {N : Nat}  (x0 : Nat) (x1 : Nat) (x2 : Int32) (x3 : Int32) (x4 : Int32) (x5 : Int32) (hx0 : (19, x0) ∈ ids) (hx1 : (12, x1) ∈ ids) {z : St} {H : Heap} {locs : List Loc} {ls : Array Slot} (hr : zRep D cy B ids A s.heap z H locs) (hl : lv_has ls 8 [(0, .ref (B 19 x0)), (1, .ref (B 12 x1)), (2, .int x2), (3, .int x3), (4, .int x4), (5, .int x5)]) (h : fX19_act N x0 x1 x2 x3 x4 x5 z = some (r, z')) : W p l e rmX19_act s m args below meth c H locs 0 0 Q (F0 m 0 ls []) := by
  unfold fX19_act at h
  refine lv_iconst (v := (0)) F.1 F.2.1 dX19_act_0 (by decide) ?_
  refine lv_istore (lv' := [(6, .int (0)), (0, .ref (B 19 x0)), (1, .ref (B 12 x1)), (2, .int x2), (3, .int x3), (4, .int x4), (5, .int x5)]) F.1 F.2.1 dX19_act_1 hl (by decide) rfl (fun ls hl => ?_)
  exact lX19_act_3 hst F hA E  _ x0 x1 x2 x3 x4 x5 (0) hx0 hx1 hr (lv_sub hl [1, 2, 3, 4, 5, 6, 0] rfl) h
end SX19_act
set_option maxRecDepth 100000 in
theorem okX19_act (l : Launch) (D : va_G) (cy : Nat → ClassId) (B : Nat → Nat → Nat) (ids : List (Nat × Nat)) (hst : zSt B ids) (N : Nat) (x0 : Nat) (hx0 : (19, x0) ∈ ids) (x1 : Nat) (hx1 : (12, x1) ∈ ids) (x2 : Int32) (x3 : Int32) (x4 : Int32) (x5 : Int32) {z : St} {r : Int32} {z' : St} (hW : zWf ids z) (h : fX19_act N x0 x1 x2 x3 x4 x5 z = some (r, z')) : zM l yX19_act (zws yX19_act cX19_act 8 none) rmX19_act D cy B ids [.ref (B 19 x0), .ref (B 12 x1), .int x2, .int x3, .int x4, .int x5] none True z z' :=
  zM_of hst hW (by decide +kernel) (Nat.le_of_ble_eq_true rfl) (fun p e s m args below meth c A ls F hA hret hlocks hr hl => bX19_act_0 hst F hA (zEnd_v F hret hlocks) x0 x1 x2 x3 x4 x5 hx0 hx1 hr hl h)
abbrev rmX19_isAddress : Room := { frames := 0, cells := 0, slots := 0, locals := 0 }
theorem hdX19_isAddress : yX19_isAddress.cls ≠ "java/lang/invoke/MethodHandle" ∧ yX19_isAddress.cls ≠ "java/lang/invoke/VarHandle" ∧ (parseMethodDescriptor yX19_isAddress.desc).map (fun d => d.parameters.length) = some 1 := by decide +kernel
section SX19_isAddress
variable {p : Program} {l : Launch} {e : Env} {s : State} {m : MethodId} {args : Array Value} {below : List Frame} {meth : Method} {c : Code} {Q : State → Prop} {D : va_G} {cy : Nat → ClassId} {B : Nat → Nat → Nat} {ids : List (Nat × Nat)} {A : Nat → Prop}
def fX19_isAddress (N : Nat)  (x0 : Nat) (x1 : Int32) (z : St) : Option (Int32 × St) := zl (x1 &&& (65535)) fun v1 => if ¬ (((x1).toUInt32 >>> (((24)).toUInt32 &&& Int32.toUInt32 31)).toInt32) = (10) then (some ((0), z)) else (if (zgI z 19 21 x0) ≤ ((x1 >>> ((16) &&& 31)) &&& (255)) then (some ((0), z)) else (if v1 < (1) then (some ((0), z)) else (if (8) < v1 then (some ((0), z)) else (some ((1), z)))))
set_option maxHeartbeats 4000000 in
set_option maxRecDepth 100000 in
theorem bX19_isAddress_0 (hst : zSt B ids) (F : zFx p m c cX19_isAddress 3 s args RX19 D cy B ids A) (hA : ∀ q : Nat, s.heap.size ≤ q → A q) {r : Int32} {z' : St} (E : zEnd p l e rmX19_isAddress s m args below meth c cX19_isAddress D cy B ids A Q (some (.int r)) z' .ireturn (r = 0 ∨ r = 1)) {N : Nat}  (x0 : Nat) (x1 : Int32) (hx0 : (19, x0) ∈ ids) {z : St} {H : Heap} {locs : List Loc} {ls : Array Slot} (hr : zRep D cy B ids A s.heap z H locs) (hl : lv_has ls 3 [(0, .ref (B 19 x0)), (1, .int x1)]) (h : fX19_isAddress N x0 x1 z = some (r, z')) : W p l e rmX19_isAddress s m args below meth c H locs 0 0 Q (F0 m 0 ls []) := by
  unfold fX19_isAddress at h
  refine lv_iload_n F.1 F.2.1 dX19_isAddress_0 rfl (lv_at hl 1 rfl) ?_
  refine lv_ldcw (v := (65535)) F.1 F.2.1 F.2.2.2.1 (F.2.2.2.2.1 _ zq_2784) dX19_isAddress_1 ?_
  refine lv_iand F.1 F.2.1 dX19_isAddress_4 ?_
  refine lv_topi (fun v1 ev1 => ?_)
  replace h := zl_sub ev1 h
  refine lv_istore_n (lv' := [(2, .int v1), (0, .ref (B 19 x0)), (1, .int x1)]) F.1 F.2.1 dX19_isAddress_5 rfl hl (by decide) rfl (fun ls hl => ?_)
  refine lv_iload_n F.1 F.2.1 dX19_isAddress_6 rfl (lv_at hl 2 rfl) ?_
  refine lv_bipush (v := (24)) F.1 F.2.1 dX19_isAddress_7 (by decide) ?_
  refine lv_iushr F.1 F.2.1 dX19_isAddress_9 rfl ?_
  refine lv_bipush (v := (10)) F.1 F.2.1 dX19_isAddress_10 (by decide) ?_
  refine lv_icmp_ne (tgt := 45) F.1 F.2.1 dX19_isAddress_12 (by decide) (fun c2 => ?_) (fun c2 => ?_)
  · replace h := zi_t c2 h
    refine lv_iconst (v := (0)) F.1 F.2.1 dX19_isAddress_45 (by decide) ?_
    obtain ⟨rfl, rfl⟩ := zret h
    exact E _ _ _ _ dX19_isAddress_46 (by decide) hr
  · replace h := zi_f (fun q => q c2) h
    refine lv_iload_n F.1 F.2.1 dX19_isAddress_15 rfl (lv_at hl 2 rfl) ?_
    refine lv_bipush (v := (16)) F.1 F.2.1 dX19_isAddress_16 (by decide) ?_
    refine lv_ishr F.1 F.2.1 dX19_isAddress_18 ?_
    refine lv_sipush (v := (255)) F.1 F.2.1 dX19_isAddress_19 (by decide) ?_
    refine lv_iand F.1 F.2.1 dX19_isAddress_22 ?_
    refine lv_aload_n F.1 F.2.1 dX19_isAddress_23 rfl (lv_at hl 1 rfl) ?_
    refine gf19_270 F hx0 hr dX19_isAddress_24 ?_
    refine lv_icmp_ge (tgt := 45) F.1 F.2.1 dX19_isAddress_27 (by decide) (fun c3 => ?_) (fun c3 => ?_)
    · replace h := zi_t c3 h
      refine lv_iconst (v := (0)) F.1 F.2.1 dX19_isAddress_45 (by decide) ?_
      obtain ⟨rfl, rfl⟩ := zret h
      exact E _ _ _ _ dX19_isAddress_46 (by decide) hr
    · replace h := zi_f c3 h
      refine lv_iload_n F.1 F.2.1 dX19_isAddress_30 rfl (lv_at hl 0 rfl) ?_
      refine lv_iconst (v := (1)) F.1 F.2.1 dX19_isAddress_31 (by decide) ?_
      refine lv_icmp_lt (tgt := 45) F.1 F.2.1 dX19_isAddress_32 (by decide) (fun c4 => ?_) (fun c4 => ?_)
      · replace h := zi_t c4 h
        refine lv_iconst (v := (0)) F.1 F.2.1 dX19_isAddress_45 (by decide) ?_
        obtain ⟨rfl, rfl⟩ := zret h
        exact E _ _ _ _ dX19_isAddress_46 (by decide) hr
      · replace h := zi_f c4 h
        refine lv_iload_n F.1 F.2.1 dX19_isAddress_35 rfl (lv_at hl 0 rfl) ?_
        refine lv_bipush (v := (8)) F.1 F.2.1 dX19_isAddress_36 (by decide) ?_
        refine lv_icmp_gt (tgt := 45) F.1 F.2.1 dX19_isAddress_38 (by decide) (fun c5 => ?_) (fun c5 => ?_)
        · replace h := zi_t c5 h
          refine lv_iconst (v := (0)) F.1 F.2.1 dX19_isAddress_45 (by decide) ?_
          obtain ⟨rfl, rfl⟩ := zret h
          exact E _ _ _ _ dX19_isAddress_46 (by decide) hr
        · replace h := zi_f c5 h
          refine lv_iconst (v := (1)) F.1 F.2.1 dX19_isAddress_41 (by decide) ?_
          refine lv_goto (tgt := 46) F.1 F.2.1 dX19_isAddress_42 (by decide) ?_
          obtain ⟨rfl, rfl⟩ := zret h
          exact E _ _ _ _ dX19_isAddress_46 (by decide) hr
end SX19_isAddress
set_option maxRecDepth 100000 in
theorem okX19_isAddress (l : Launch) (D : va_G) (cy : Nat → ClassId) (B : Nat → Nat → Nat) (ids : List (Nat × Nat)) (hst : zSt B ids) (N : Nat) (x0 : Nat) (hx0 : (19, x0) ∈ ids) (x1 : Int32) {z : St} {r : Int32} {z' : St} (hW : zWf ids z) (h : fX19_isAddress N x0 x1 z = some (r, z')) : zM l yX19_isAddress (zws yX19_isAddress cX19_isAddress 3 (some .boolean)) rmX19_isAddress D cy B ids [.ref (B 19 x0), .int x1] (some (.int r)) (r = 0 ∨ r = 1) z z' :=
  zM_of hst hW (by decide +kernel) (Nat.le_of_ble_eq_true rfl) (fun p e s m args below meth c A ls F hA hret hlocks hr hl => bX19_isAddress_0 hst F hA (zEnd_z F hret hlocks) x0 x1 hx0 hr hl h)
