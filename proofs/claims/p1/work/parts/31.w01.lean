abbrev rmX0_goOnFrom : Room := { frames := 2, cells := 0, slots := 0, locals := 44 }
theorem hdX0_goOnFrom : yX0_goOnFrom.cls ≠ "java/lang/invoke/MethodHandle" ∧ yX0_goOnFrom.cls ≠ "java/lang/invoke/VarHandle" ∧ (parseMethodDescriptor yX0_goOnFrom.desc).map (fun d => d.parameters.length) = some 1 := by decide +kernel
theorem hroX0_goOnFrom_X0_friendOf : rmX0_friendOf.frames + 1 ≤ rmX0_goOnFrom.frames ∧ 8 + (1 + 11) + rmX0_friendOf.locals ≤ rmX0_goOnFrom.locals := by decide
theorem hroX0_goOnFrom_X0_netOfEntry : rmX0_netOfEntry.frames + 1 ≤ rmX0_goOnFrom.frames ∧ 8 + (1 + 11) + rmX0_netOfEntry.locals ≤ rmX0_goOnFrom.locals := by decide
theorem hroX0_goOnFrom_X0_tellsOfFriend : rmX0_tellsOfFriend.frames + 1 ≤ rmX0_goOnFrom.frames ∧ 8 + (5 + 11) + rmX0_tellsOfFriend.locals ≤ rmX0_goOnFrom.locals := by decide
theorem hroX0_goOnFrom_X0_tollOf : rmX0_tollOf.frames + 1 ≤ rmX0_goOnFrom.frames ∧ 8 + (1 + 11) + rmX0_tollOf.locals ≤ rmX0_goOnFrom.locals := by decide
section SX0_goOnFrom
variable {p : Program} {l : Launch} {e : Env} {s : State} {m : MethodId} {args : Array Value} {below : List Frame} {meth : Method} {c : Code} {Q : State → Prop} {D : va_G} {cy : Nat → ClassId} {B : Nat → Nat → Nat} {ids : List (Nat × Nat)} {A : Nat → Prop}
def fX0_goOnFrom_167 (N : Nat) (K2 : Nat → Int32 → Int32 → St → Option (Int32 × St)) (x0 : Nat) (x1 : Int32) (x2 : Int32) (z : St) : Option (Int32 × St) := zl (x2 + 1) fun v1 => K2 x0 x1 v1 z
set_option maxHeartbeats 4000000 in
set_option maxRecDepth 100000 in
theorem bX0_goOnFrom_167 (hst : zSt B ids) (F : zFx p m c cX0_goOnFrom 8 s args RX0 D cy B ids A) (hA : ∀ q : Nat, s.heap.size ≤ q → A q) {r : Int32} {z' : St} (E : zEnd p l e rmX0_goOnFrom s m args below meth c cX0_goOnFrom D cy B ids A Q none z' .return_ True) {N : Nat} {K2 : Nat → Int32 → Int32 → St → Option (Int32 × St)} (hK2 : ∀ (x0 : Nat) (x1 : Int32) (x2 : Int32) (hx0 : (0, x0) ∈ ids) {z : St} {H : Heap} {locs : List Loc} {ls : Array Slot} (hr : zRep D cy B ids A s.heap z H locs) (hl : lv_has ls 8 [(0, .ref (B 0 x0)), (1, .int x1), (2, .int x2)]), K2 x0 x1 x2 z = some (r, z') → W p l e rmX0_goOnFrom s m args below meth c H locs 0 0 Q (F0 m 2 ls [])) (x0 : Nat) (x1 : Int32) (x2 : Int32) (hx0 : (0, x0) ∈ ids) {z : St} {H : Heap} {locs : List Loc} {ls : Array Slot} (hr : zRep D cy B ids A s.heap z H locs) (hl : lv_has ls 8 [(0, .ref (B 0 x0)), (1, .int x1), (2, .int x2)]) (h : fX0_goOnFrom_167 N K2 x0 x1 x2 z = some (r, z')) : W p l e rmX0_goOnFrom s m args below meth c H locs 0 0 Q (F0 m 167 ls []) := by
  unfold fX0_goOnFrom_167 at h
  obtain ⟨v1, ev1⟩ : ∃ y : Int32, y = (x2 + 1) := ⟨_, rfl⟩
  replace h := zl_sub ev1 h
  refine lv_iinc (v := v1) (lv' := [(2, .int v1), (0, .ref (B 0 x0)), (1, .int x1)]) F.1 F.2.1 dX0_goOnFrom_167 hl (k := 2) rfl (by rw [ev1]; rfl) (by decide) rfl (fun ls hl => ?_)
  refine lv_goto (tgt := 2) F.1 F.2.1 dX0_goOnFrom_170 (by decide) ?_
  exact hK2 x0 x1 v1 hx0 hr (lv_sub hl [1, 2, 0] rfl) h
def fX0_goOnFrom_149 (N : Nat) (K2 : Nat → Int32 → Int32 → St → Option (Int32 × St)) (x0 : Nat) (x1 : Int32) (x2 : Int32) (x4 : Int32) (x6 : Int32) (x7 : Int32) (z : St) : Option (Int32 × St) := zk x4 16 <| zl (zsA z 109 x0 (Int32.toNatClampNeg x4) x6) fun z2 => zk x4 16 <| zl (zsA z2 111 x0 (Int32.toNatClampNeg x4) x7) fun z4 => fX0_goOnFrom_167 N K2 x0 x1 x2 z4
set_option maxHeartbeats 4000000 in
set_option maxRecDepth 100000 in
theorem bX0_goOnFrom_149 (hst : zSt B ids) (F : zFx p m c cX0_goOnFrom 8 s args RX0 D cy B ids A) (hA : ∀ q : Nat, s.heap.size ≤ q → A q) {r : Int32} {z' : St} (E : zEnd p l e rmX0_goOnFrom s m args below meth c cX0_goOnFrom D cy B ids A Q none z' .return_ True) {N : Nat} {K2 : Nat → Int32 → Int32 → St → Option (Int32 × St)} (hK2 : ∀ (x0 : Nat) (x1 : Int32) (x2 : Int32) (hx0 : (0, x0) ∈ ids) {z : St} {H : Heap} {locs : List Loc} {ls : Array Slot} (hr : zRep D cy B ids A s.heap z H locs) (hl : lv_has ls 8 [(0, .ref (B 0 x0)), (1, .int x1), (2, .int x2)]), K2 x0 x1 x2 z = some (r, z') → W p l e rmX0_goOnFrom s m args below meth c H locs 0 0 Q (F0 m 2 ls [])) (x0 : Nat) (x1 : Int32) (x2 : Int32) (x4 : Int32) (x6 : Int32) (x7 : Int32) (hx0 : (0, x0) ∈ ids) {z : St} {H : Heap} {locs : List Loc} {ls : Array Slot} (hr : zRep D cy B ids A s.heap z H locs) (hl : lv_has ls 8 [(0, .ref (B 0 x0)), (1, .int x1), (2, .int x2), (4, .int x4), (6, .int x6), (7, .int x7)]) (h : fX0_goOnFrom_149 N K2 x0 x1 x2 x4 x6 x7 z = some (r, z')) : W p l e rmX0_goOnFrom s m args below meth c H locs 0 0 Q (F0 m 149 ls []) := by
  unfold fX0_goOnFrom_149 at h
  refine lv_aload_n F.1 F.2.1 dX0_goOnFrom_149 rfl (lv_at hl 0 rfl) ?_
  refine gf0_42 F hx0 hr dX0_goOnFrom_150 ?_
  refine lv_iload F.1 F.2.1 dX0_goOnFrom_153 (lv_at hl 3 rfl) ?_
  refine lv_iload F.1 F.2.1 dX0_goOnFrom_155 (lv_at hl 4 rfl) ?_
  replace h := zk_some h
  obtain ⟨c1, h⟩ := h
  refine zr_iast (k := 109) (by decide) rfl (by decide) F (zal_a F hx0 (j := 13) rfl) hr dX0_goOnFrom_157 c1 (fun H locs z2 ez2 hr => ?_)
  replace h := zl_sub ez2 h
  clear ez2
  refine lv_aload_n F.1 F.2.1 dX0_goOnFrom_158 rfl (lv_at hl 0 rfl) ?_
  refine gf0_49 F hx0 hr dX0_goOnFrom_159 ?_
  refine lv_iload F.1 F.2.1 dX0_goOnFrom_162 (lv_at hl 3 rfl) ?_
  refine lv_iload F.1 F.2.1 dX0_goOnFrom_164 (lv_at hl 5 rfl) ?_
  replace h := zk_some h
  obtain ⟨c3, h⟩ := h
  refine zr_iast (k := 111) (by decide) rfl (by decide) F (zal_a F hx0 (j := 15) rfl) hr dX0_goOnFrom_166 c3 (fun H locs z4 ez4 hr => ?_)
  replace h := zl_sub ez4 h
  clear ez4
  exact bX0_goOnFrom_167 hst F hA E hK2 x0 x1 x2 hx0 hr (lv_sub hl [0, 1, 2] rfl) h
def fX0_goOnFrom_108 (N : Nat) (K2 : Nat → Int32 → Int32 → St → Option (Int32 × St)) (x0 : Nat) (x1 : Int32) (x2 : Int32) (x4 : Int32) (x6 : Int32) (s0 : Int32) (z : St) : Option (Int32 × St) := zk x4 16 <| if (zgA z 109 x0 (Int32.toNatClampNeg x4)) < x6 then (fX0_goOnFrom_167 N K2 x0 x1 x2 z) else (zk x4 16 <| if ¬ x6 = (zgA z 109 x0 (Int32.toNatClampNeg x4)) then (fX0_goOnFrom_149 N K2 x0 x1 x2 x4 x6 s0 z) else (zk x4 16 <| if s0 < (zgA z 111 x0 (Int32.toNatClampNeg x4)) then (fX0_goOnFrom_149 N K2 x0 x1 x2 x4 x6 s0 z) else (fX0_goOnFrom_167 N K2 x0 x1 x2 z)))
set_option maxHeartbeats 4000000 in
set_option maxRecDepth 100000 in
theorem bX0_goOnFrom_108 (hst : zSt B ids) (F : zFx p m c cX0_goOnFrom 8 s args RX0 D cy B ids A) (hA : ∀ q : Nat, s.heap.size ≤ q → A q) {r : Int32} {z' : St} (E : zEnd p l e rmX0_goOnFrom s m args below meth c cX0_goOnFrom D cy B ids A Q none z' .return_ True) {N : Nat} {K2 : Nat → Int32 → Int32 → St → Option (Int32 × St)} (hK2 : ∀ (x0 : Nat) (x1 : Int32) (x2 : Int32) (hx0 : (0, x0) ∈ ids) {z : St} {H : Heap} {locs : List Loc} {ls : Array Slot} (hr : zRep D cy B ids A s.heap z H locs) (hl : lv_has ls 8 [(0, .ref (B 0 x0)), (1, .int x1), (2, .int x2)]), K2 x0 x1 x2 z = some (r, z') → W p l e rmX0_goOnFrom s m args below meth c H locs 0 0 Q (F0 m 2 ls [])) (x0 : Nat) (x1 : Int32) (x2 : Int32) (x4 : Int32) (x6 : Int32) (s0 : Int32) (hx0 : (0, x0) ∈ ids) {z : St} {H : Heap} {locs : List Loc} {ls : Array Slot} (hr : zRep D cy B ids A s.heap z H locs) (hl : lv_has ls 8 [(0, .ref (B 0 x0)), (1, .int x1), (2, .int x2), (4, .int x4), (6, .int x6)]) (h : fX0_goOnFrom_108 N K2 x0 x1 x2 x4 x6 s0 z = some (r, z')) : W p l e rmX0_goOnFrom s m args below meth c H locs 0 0 Q (F0 m 108 ls [.int s0]) := by
  unfold fX0_goOnFrom_108 at h
  refine lv_istore (lv' := [(7, .int s0), (0, .ref (B 0 x0)), (1, .int x1), (2, .int x2), (4, .int x4), (6, .int x6)]) F.1 F.2.1 dX0_goOnFrom_108 hl (by decide) rfl (fun ls hl => ?_)
  refine lv_iload F.1 F.2.1 dX0_goOnFrom_110 (lv_at hl 5 rfl) ?_
  refine lv_aload_n F.1 F.2.1 dX0_goOnFrom_112 rfl (lv_at hl 1 rfl) ?_
  refine gf0_42 F hx0 hr dX0_goOnFrom_113 ?_
  refine lv_iload F.1 F.2.1 dX0_goOnFrom_116 (lv_at hl 4 rfl) ?_
  replace h := zk_some h
  obtain ⟨c1, h⟩ := h
  refine zr_iald (k := 109) (by decide) rfl (by decide) F (zal_a F hx0 (j := 13) rfl) hr dX0_goOnFrom_118 c1 ?_
  refine lv_icmp_gt (tgt := 167) F.1 F.2.1 dX0_goOnFrom_119 (by decide) (fun c2 => ?_) (fun c2 => ?_)
  · replace h := zi_t c2 h
    exact bX0_goOnFrom_167 hst F hA E hK2 x0 x1 x2 hx0 hr (lv_sub hl [1, 2, 3] rfl) h
  · replace h := zi_f c2 h
    refine lv_iload F.1 F.2.1 dX0_goOnFrom_122 (lv_at hl 5 rfl) ?_
    refine lv_aload_n F.1 F.2.1 dX0_goOnFrom_124 rfl (lv_at hl 1 rfl) ?_
    refine gf0_42 F hx0 hr dX0_goOnFrom_125 ?_
    refine lv_iload F.1 F.2.1 dX0_goOnFrom_128 (lv_at hl 4 rfl) ?_
    replace h := zk_some h
    obtain ⟨c3, h⟩ := h
    refine zr_iald (k := 109) (by decide) rfl (by decide) F (zal_a F hx0 (j := 13) rfl) hr dX0_goOnFrom_130 c3 ?_
    refine lv_icmp_ne (tgt := 149) F.1 F.2.1 dX0_goOnFrom_131 (by decide) (fun c4 => ?_) (fun c4 => ?_)
    · replace h := zi_t c4 h
      exact bX0_goOnFrom_149 hst F hA E hK2 x0 x1 x2 x4 x6 s0 hx0 hr (lv_sub hl [1, 2, 3, 4, 5, 0] rfl) h
    · replace h := zi_f (fun q => q c4) h
      refine lv_iload F.1 F.2.1 dX0_goOnFrom_134 (lv_at hl 0 rfl) ?_
      refine lv_aload_n F.1 F.2.1 dX0_goOnFrom_136 rfl (lv_at hl 1 rfl) ?_
      refine gf0_49 F hx0 hr dX0_goOnFrom_137 ?_
      refine lv_iload F.1 F.2.1 dX0_goOnFrom_140 (lv_at hl 4 rfl) ?_
      replace h := zk_some h
      obtain ⟨c5, h⟩ := h
      refine zr_iald (k := 111) (by decide) rfl (by decide) F (zal_a F hx0 (j := 15) rfl) hr dX0_goOnFrom_142 c5 ?_
      refine lv_icmp_lt (tgt := 149) F.1 F.2.1 dX0_goOnFrom_143 (by decide) (fun c6 => ?_) (fun c6 => ?_)
      · replace h := zi_t c6 h
        exact bX0_goOnFrom_149 hst F hA E hK2 x0 x1 x2 x4 x6 s0 hx0 hr (lv_sub hl [1, 2, 3, 4, 5, 0] rfl) h
      · replace h := zi_f c6 h
        refine lv_goto (tgt := 167) F.1 F.2.1 dX0_goOnFrom_146 (by decide) ?_
        exact bX0_goOnFrom_167 hst F hA E hK2 x0 x1 x2 hx0 hr (lv_sub hl [1, 2, 3] rfl) h
def fX0_goOnFrom_2b (N : Nat) (K2 : Nat → Int32 → Int32 → St → Option (Int32 × St)) (x0 : Nat) (x1 : Int32) (x2 : Int32) (z : St) : Option (Int32 × St) := zk x1 16 <| if (zgA z 102 x0 (Int32.toNatClampNeg x1)) ≤ x2 then (some (0, z)) else (zk x1 16 <| zk x2 24 <| zl (zgA z 104 (x0 * 16 + (Int32.toNatClampNeg x1)) (Int32.toNatClampNeg x2)) fun v5 => zc (fX0_friendOf N v5 z) fun r6 z7 => zc (fX0_netOfEntry N v5 z7) fun r10 z11 => if r6 < 0 then (fX0_goOnFrom_167 N K2 x0 x1 x2 z11) else (if (16 : Int32) ≤ r6 then (fX0_goOnFrom_167 N K2 x0 x1 x2 z11) else (zk r6 16 <| if ¬ (zgA z11 110 x0 (Int32.toNatClampNeg r6)) = 0 then (fX0_goOnFrom_167 N K2 x0 x1 x2 z11) else (zc (fX0_tellsOfFriend N x0 r6 x1 r10 z11) fun r18 z19 => if ¬ r18 = 0 then (zk x1 16 <| zc (fX0_tollOf N v5 z19) fun r24 z25 => zl ((zgA z19 109 x0 (Int32.toNatClampNeg x1)) + r24) fun v28 => if ¬ x1 = (zgI z25 0 0 x0) then (zk x1 16 <| fX0_goOnFrom_108 N K2 x0 x1 x2 r6 v28 (zgA z25 111 x0 (Int32.toNatClampNeg x1)) z25) else (fX0_goOnFrom_108 N K2 x0 x1 x2 r6 v28 ((r10 * (16 : Int32)) + r6) z25)) else (fX0_goOnFrom_167 N K2 x0 x1 x2 z19)))))
def fX0_goOnFrom_2 (N : Nat)  : Nat → Nat → Int32 → Int32 → St → Option (Int32 × St)
  | 0 => fun _ _ _ _ => none
  | n + 1 => fX0_goOnFrom_2b N (fX0_goOnFrom_2 N  n)
set_option maxHeartbeats 4000000 in
set_option maxRecDepth 100000 in
theorem bX0_goOnFrom_2 (hst : zSt B ids) (F : zFx p m c cX0_goOnFrom 8 s args RX0 D cy B ids A) (hA : ∀ q : Nat, s.heap.size ≤ q → A q) {r : Int32} {z' : St} (E : zEnd p l e rmX0_goOnFrom s m args below meth c cX0_goOnFrom D cy B ids A Q none z' .return_ True) {N : Nat} {K2 : Nat → Int32 → Int32 → St → Option (Int32 × St)} (hK2 : ∀ (x0 : Nat) (x1 : Int32) (x2 : Int32) (hx0 : (0, x0) ∈ ids) {z : St} {H : Heap} {locs : List Loc} {ls : Array Slot} (hr : zRep D cy B ids A s.heap z H locs) (hl : lv_has ls 8 [(0, .ref (B 0 x0)), (1, .int x1), (2, .int x2)]), K2 x0 x1 x2 z = some (r, z') → W p l e rmX0_goOnFrom s m args below meth c H locs 0 0 Q (F0 m 2 ls [])) (x0 : Nat) (x1 : Int32) (x2 : Int32) (hx0 : (0, x0) ∈ ids) {z : St} {H : Heap} {locs : List Loc} {ls : Array Slot} (hr : zRep D cy B ids A s.heap z H locs) (hl : lv_has ls 8 [(0, .ref (B 0 x0)), (1, .int x1), (2, .int x2)]) (h : fX0_goOnFrom_2b N K2 x0 x1 x2 z = some (r, z')) : W p l e rmX0_goOnFrom s m args below meth c H locs 0 0 Q (F0 m 2 ls []) := by
  unfold fX0_goOnFrom_2b at h
  refine lv_iload_n F.1 F.2.1 dX0_goOnFrom_2 rfl (lv_at hl 2 rfl) ?_
  refine lv_aload_n F.1 F.2.1 dX0_goOnFrom_3 rfl (lv_at hl 0 rfl) ?_
  refine gf0_18 F hx0 hr dX0_goOnFrom_4 ?_
  refine lv_iload_n F.1 F.2.1 dX0_goOnFrom_7 rfl (lv_at hl 1 rfl) ?_
  replace h := zk_some h
  obtain ⟨c1, h⟩ := h
  refine zr_iald (k := 102) (by decide) rfl (by decide) F (zal_a F hx0 (j := 3) rfl) hr dX0_goOnFrom_8 c1 ?_
  refine lv_icmp_ge (tgt := 173) F.1 F.2.1 dX0_goOnFrom_9 (by decide) (fun c2 => ?_) (fun c2 => ?_)
  · replace h := zi_t c2 h
    obtain ⟨rfl, rfl⟩ := zret h
    exact E _ _ _ _ dX0_goOnFrom_173 trivial hr
  · replace h := zi_f c2 h
    refine lv_aload_n F.1 F.2.1 dX0_goOnFrom_12 rfl (lv_at hl 0 rfl) ?_
    refine gf0_23 F hx0 hr dX0_goOnFrom_13 ?_
    refine lv_iload_n F.1 F.2.1 dX0_goOnFrom_16 rfl (lv_at hl 1 rfl) ?_
    replace h := zk_some h
    obtain ⟨c3, h⟩ := h
    refine zr_rald (k := 103) (by decide) rfl (by decide) rfl F (zal_a F hx0 (j := 4) rfl) hr dX0_goOnFrom_17 c3 ?_
    refine lv_iload_n F.1 F.2.1 dX0_goOnFrom_18 rfl (lv_at hl 2 rfl) ?_
    replace h := zk_some h
    obtain ⟨c4, h⟩ := h
    refine zr_iald (k := 104) (by decide) rfl (by decide) F (zal_w F (zal_a F hx0 (j := 4) rfl) (k := 103) rfl c3) hr dX0_goOnFrom_19 c4 ?_
    refine lv_topi (fun v5 ev5 => ?_)
    replace h := zl_sub ev5 h
    refine lv_istore_n (lv' := [(3, .int v5), (0, .ref (B 0 x0)), (1, .int x1), (2, .int x2)]) F.1 F.2.1 dX0_goOnFrom_20 rfl hl (by decide) rfl (fun ls hl => ?_)
    refine lv_iload_n F.1 F.2.1 dX0_goOnFrom_21 rfl (lv_at hl 0 rfl) ?_
    replace h := zc_some h
    obtain ⟨r6, z7, hc8, h⟩ := h
    refine zr_calli (zrun_S (As := [.int v5]) (rest := []) zq_1548 zq_1549 zq_1550 zq_11 hdX0_friendOf (okX0_friendOf l D cy B ids hst N v5  hr.2.2 hc8) F hr hl.1 rfl (by decide) dX0_goOnFrom_22 rfl rfl hroX0_goOnFrom_X0_friendOf ⟨Nat.zero_le _, Nat.zero_le _⟩) F hA hr (fun H locs hw9 hr => ?_)
    clear hc8
    refine lv_istore (lv' := [(4, .int r6), (3, .int v5), (0, .ref (B 0 x0)), (1, .int x1), (2, .int x2)]) F.1 F.2.1 dX0_goOnFrom_25 hl (by decide) rfl (fun ls hl => ?_)
    refine lv_iload_n F.1 F.2.1 dX0_goOnFrom_27 rfl (lv_at hl 1 rfl) ?_
    replace h := zc_some h
    obtain ⟨r10, z11, hc12, h⟩ := h
    refine zr_calli (zrun_S (As := [.int v5]) (rest := []) zq_1551 zq_1552 zq_1553 zq_11 hdX0_netOfEntry (okX0_netOfEntry l D cy B ids hst N v5  hr.2.2 hc12) F hr hl.1 rfl (by decide) dX0_goOnFrom_28 rfl rfl hroX0_goOnFrom_X0_netOfEntry ⟨Nat.zero_le _, Nat.zero_le _⟩) F hA hr (fun H locs hw13 hr => ?_)
    clear hc12
    refine lv_istore (lv' := [(5, .int r10), (4, .int r6), (3, .int v5), (0, .ref (B 0 x0)), (1, .int x1), (2, .int x2)]) F.1 F.2.1 dX0_goOnFrom_31 hl (by decide) rfl (fun ls hl => ?_)
    refine lv_iload F.1 F.2.1 dX0_goOnFrom_33 (lv_at hl 1 rfl) ?_
    refine lv_if_lt (tgt := 167) F.1 F.2.1 dX0_goOnFrom_35 (by decide) (fun c14 => ?_) (fun c14 => ?_)
    · replace h := zi_t c14 h
      exact bX0_goOnFrom_167 hst F hA E hK2 x0 x1 x2 hx0 hr (lv_sub hl [3, 4, 5] rfl) h
    · replace h := zi_f c14 h
      refine lv_iload F.1 F.2.1 dX0_goOnFrom_38 (lv_at hl 1 rfl) ?_
      refine lv_bipush (v := (16 : Int32)) F.1 F.2.1 dX0_goOnFrom_40 (by decide) ?_
      refine lv_icmp_ge (tgt := 167) F.1 F.2.1 dX0_goOnFrom_42 (by decide) (fun c15 => ?_) (fun c15 => ?_)
      · replace h := zi_t c15 h
        exact bX0_goOnFrom_167 hst F hA E hK2 x0 x1 x2 hx0 hr (lv_sub hl [3, 4, 5] rfl) h
      · replace h := zi_f c15 h
        refine lv_aload_n F.1 F.2.1 dX0_goOnFrom_45 rfl (lv_at hl 3 rfl) ?_
        refine gf0_45 F hx0 hr dX0_goOnFrom_46 ?_
        refine lv_iload F.1 F.2.1 dX0_goOnFrom_49 (lv_at hl 1 rfl) ?_
        replace h := zk_some h
        obtain ⟨c16, h⟩ := h
        refine zr_zald (k := 110) (by decide) rfl (by decide) F (zal_a F hx0 (j := 14) rfl) hr dX0_goOnFrom_51 c16 ?_
        refine lv_if_ne (tgt := 167) F.1 F.2.1 dX0_goOnFrom_52 (by decide) (fun c17 => ?_) (fun c17 => ?_)
        · replace h := zi_t c17 h
          exact bX0_goOnFrom_167 hst F hA E hK2 x0 x1 x2 hx0 hr (lv_sub hl [3, 4, 5] rfl) h
        · replace h := zi_f (fun q => q c17) h
          refine lv_aload_n F.1 F.2.1 dX0_goOnFrom_55 rfl (lv_at hl 3 rfl) ?_
          refine lv_iload F.1 F.2.1 dX0_goOnFrom_56 (lv_at hl 1 rfl) ?_
          refine lv_iload_n F.1 F.2.1 dX0_goOnFrom_58 rfl (lv_at hl 4 rfl) ?_
          refine lv_iload F.1 F.2.1 dX0_goOnFrom_59 (lv_at hl 0 rfl) ?_
          replace h := zc_some h
          obtain ⟨r18, z19, hc20, h⟩ := h
          refine zr_calli (zrun_V (As := [.int r6, .int x1, .int r10]) (rest := []) zq_1570 zq_1572 zs_X0_tellsOfFriend zq_1573 zq_11 hdX0_tellsOfFriend (by decide) (T := TX0) (N := 16) rfl (okX0_tellsOfFriend l D cy B ids hst N x0 hx0 r6  x1  r10  hr.2.2 hc20) F hr hx0 hl.1 rfl (by decide) dX0_goOnFrom_61 rfl rfl hroX0_goOnFrom_X0_tellsOfFriend ⟨Nat.zero_le _, Nat.zero_le _⟩) F hA hr (fun H locs hw21 hr => ?_)
          clear hc20
          refine lv_if_ne (tgt := 70) F.1 F.2.1 dX0_goOnFrom_64 (by decide) (fun c22 => ?_) (fun c22 => ?_)
          · replace h := zi_t c22 h
            refine lv_aload_n F.1 F.2.1 dX0_goOnFrom_70 rfl (lv_at hl 3 rfl) ?_
            refine gf0_42 F hx0 hr dX0_goOnFrom_71 ?_
            refine lv_iload_n F.1 F.2.1 dX0_goOnFrom_74 rfl (lv_at hl 4 rfl) ?_
            replace h := zk_some h
            obtain ⟨c23, h⟩ := h
            refine zr_iald (k := 109) (by decide) rfl (by decide) F (zal_a F hx0 (j := 13) rfl) hr dX0_goOnFrom_75 c23 ?_
            refine lv_iload_n F.1 F.2.1 dX0_goOnFrom_76 rfl (lv_at hl 2 rfl) ?_
            replace h := zc_some h
            obtain ⟨r24, z25, hc26, h⟩ := h
            refine zr_calli (zrun_S (As := [.int v5]) (rest := [.int (zgA z19 109 x0 (Int32.toNatClampNeg x1))]) zq_1554 zq_1555 zq_1556 zq_11 hdX0_tollOf (okX0_tollOf l D cy B ids hst N v5  hr.2.2 hc26) F hr hl.1 rfl (Nat.le_of_ble_eq_true rfl) dX0_goOnFrom_77 rfl rfl hroX0_goOnFrom_X0_tollOf ⟨Nat.zero_le _, Nat.zero_le _⟩) F hA hr (fun H locs hw27 hr => ?_)
            clear hc26
            refine lv_iadd F.1 F.2.1 dX0_goOnFrom_80 ?_
            refine lv_topi (fun v28 ev28 => ?_)
            replace h := zl_sub ev28 h
            refine lv_istore (lv' := [(6, .int v28), (5, .int r10), (4, .int r6), (3, .int v5), (0, .ref (B 0 x0)), (1, .int x1), (2, .int x2)]) F.1 F.2.1 dX0_goOnFrom_81 hl (by decide) rfl (fun ls hl => ?_)
            refine lv_iload_n F.1 F.2.1 dX0_goOnFrom_83 rfl (lv_at hl 5 rfl) ?_
            refine lv_aload_n F.1 F.2.1 dX0_goOnFrom_84 rfl (lv_at hl 4 rfl) ?_
            refine gf0_52 F hx0 hr dX0_goOnFrom_85 ?_
            refine lv_icmp_ne (tgt := 102) F.1 F.2.1 dX0_goOnFrom_88 (by decide) (fun c29 => ?_) (fun c29 => ?_)
            · replace h := zi_t c29 h
              refine lv_aload_n F.1 F.2.1 dX0_goOnFrom_102 rfl (lv_at hl 4 rfl) ?_
              refine gf0_49 F hx0 hr dX0_goOnFrom_103 ?_
              refine lv_iload_n F.1 F.2.1 dX0_goOnFrom_106 rfl (lv_at hl 5 rfl) ?_
              replace h := zk_some h
              obtain ⟨c30, h⟩ := h
              refine zr_iald (k := 111) (by decide) rfl (by decide) F (zal_a F hx0 (j := 15) rfl) hr dX0_goOnFrom_107 c30 ?_
              exact bX0_goOnFrom_108 hst F hA E hK2 x0 x1 x2 r6 v28 (zgA z25 111 x0 (Int32.toNatClampNeg x1)) hx0 hr (lv_sub hl [4, 5, 6, 2, 0] rfl) h
            · replace h := zi_f (fun q => q c29) h
              refine lv_iload F.1 F.2.1 dX0_goOnFrom_91 (lv_at hl 1 rfl) ?_
              refine lv_bipush (v := (16 : Int32)) F.1 F.2.1 dX0_goOnFrom_93 (by decide) ?_
              refine lv_imul F.1 F.2.1 dX0_goOnFrom_95 ?_
              refine lv_iload F.1 F.2.1 dX0_goOnFrom_96 (lv_at hl 2 rfl) ?_
              refine lv_iadd F.1 F.2.1 dX0_goOnFrom_98 ?_
              refine lv_goto (tgt := 108) F.1 F.2.1 dX0_goOnFrom_99 (by decide) ?_
              exact bX0_goOnFrom_108 hst F hA E hK2 x0 x1 x2 r6 v28 ((r10 * (16 : Int32)) + r6) hx0 hr (lv_sub hl [4, 5, 6, 2, 0] rfl) h
          · replace h := zi_f (fun q => q c22) h
            refine lv_goto (tgt := 167) F.1 F.2.1 dX0_goOnFrom_67 (by decide) ?_
            exact bX0_goOnFrom_167 hst F hA E hK2 x0 x1 x2 hx0 hr (lv_sub hl [3, 4, 5] rfl) h
theorem lX0_goOnFrom_2 (hst : zSt B ids) (F : zFx p m c cX0_goOnFrom 8 s args RX0 D cy B ids A) (hA : ∀ q : Nat, s.heap.size ≤ q → A q) {r : Int32} {z' : St} (E : zEnd p l e rmX0_goOnFrom s m args below meth c cX0_goOnFrom D cy B ids A Q none z' .return_ True) {N : Nat}  : ∀ (n : Nat) (x0 : Nat) (x1 : Int32) (x2 : Int32) (hx0 : (0, x0) ∈ ids) {z : St} {H : Heap} {locs : List Loc} {ls : Array Slot} (hr : zRep D cy B ids A s.heap z H locs) (hl : lv_has ls 8 [(0, .ref (B 0 x0)), (1, .int x1), (2, .int x2)]), fX0_goOnFrom_2 N  n x0 x1 x2 z = some (r, z') → W p l e rmX0_goOnFrom s m args below meth c H locs 0 0 Q (F0 m 2 ls []) := by
  intro n
  induction n with
  | zero => intro x0 x1 x2 hx0 z H locs ls hr hl h; cases h
  | succ n ih => intro x0 x1 x2 hx0 z H locs ls hr hl h; exact bX0_goOnFrom_2 hst F hA E ih x0 x1 x2 hx0 hr hl h
def fX0_goOnFrom (N : Nat)  (x0 : Nat) (x1 : Int32) (z : St) : Option (Int32 × St) := fX0_goOnFrom_2 N N x0 x1 (0 : Int32) z
set_option maxHeartbeats 4000000 in
set_option maxRecDepth 100000 in
theorem bX0_goOnFrom_0 (hst : zSt B ids) (F : zFx p m c cX0_goOnFrom 8 s args RX0 D cy B ids A) (hA : ∀ q : Nat, s.heap.size ≤ q → A q) {r : Int32} {z' : St} (E : zEnd p l e rmX0_goOnFrom s m args below meth c cX0_goOnFrom D cy B ids A Q none z' .return_ True) {N : Nat}  (x0 : Nat) (x1 : Int32) (hx0 : (0, x0) ∈ ids) {z : St} {H : Heap} {locs : List Loc} {ls : Array Slot} (hr : zRep D cy B ids A s.heap z H locs) (hl : lv_has ls 8 [(0, .ref (B 0 x0)), (1, .int x1)]) (h : fX0_goOnFrom N x0 x1 z = some (r, z')) : W p l e rmX0_goOnFrom s m args below meth c H locs 0 0 Q (F0 m 0 ls []) := by
  unfold fX0_goOnFrom at h
  refine lv_iconst (v := (0 : Int32)) F.1 F.2.1 dX0_goOnFrom_0 (by decide) ?_
  refine lv_istore_n (lv' := [(2, .int (0 : Int32)), (0, .ref (B 0 x0)), (1, .int x1)]) F.1 F.2.1 dX0_goOnFrom_1 rfl hl (by decide) rfl (fun ls hl => ?_)
  exact lX0_goOnFrom_2 hst F hA E  _ x0 x1 (0 : Int32) hx0 hr (lv_sub hl [1, 2, 0] rfl) h
end SX0_goOnFrom
set_option maxRecDepth 100000 in
theorem okX0_goOnFrom (l : Launch) (D : va_G) (cy : Nat → ClassId) (B : Nat → Nat → Nat) (ids : List (Nat × Nat)) (hst : zSt B ids) (N : Nat) (x0 : Nat) (hx0 : (0, x0) ∈ ids) (x1 : Int32) {z : St} {r : Int32} {z' : St} (hW : zWf ids z) (h : fX0_goOnFrom N x0 x1 z = some (r, z')) : zM l yX0_goOnFrom (zws yX0_goOnFrom cX0_goOnFrom 8 none) rmX0_goOnFrom D cy B ids [.ref (B 0 x0), .int x1] none True z z' :=
  zM_of hst hW (by decide +kernel) (Nat.le_of_ble_eq_true rfl) (fun p e s m args below meth c A ls F hA hret hlocks hr hl => bX0_goOnFrom_0 hst F hA (zEnd_v F hret hlocks) x0 x1 hx0 hr hl h)
abbrev rmX0_findDistances : Room := { frames := 3, cells := 0, slots := 0, locals := 71 }
theorem hdX0_findDistances : yX0_findDistances.cls ≠ "java/lang/invoke/MethodHandle" ∧ yX0_findDistances.cls ≠ "java/lang/invoke/VarHandle" ∧ (parseMethodDescriptor yX0_findDistances.desc).map (fun d => d.parameters.length) = some 0 := by decide +kernel
theorem hroX0_findDistances_X0_goOnFrom : rmX0_goOnFrom.frames + 1 ≤ rmX0_findDistances.frames ∧ 8 + (8 + 11) + rmX0_goOnFrom.locals ≤ rmX0_findDistances.locals := by decide
section SX0_findDistances
variable {p : Program} {l : Launch} {e : Env} {s : State} {m : MethodId} {args : Array Value} {below : List Frame} {meth : Method} {c : Code} {Q : State → Prop} {D : va_G} {cy : Nat → ClassId} {B : Nat → Nat → Nat} {ids : List (Nat × Nat)} {A : Nat → Prop}
def fX0_findDistances_108 (N : Nat) (K48 : Nat → Int32 → St → Option (Int32 × St)) (K58 : Nat → Int32 → Int32 → Int32 → St → Option (Int32 × St)) (x0 : Nat) (x1 : Int32) (x2 : Int32) (x3 : Int32) (z : St) : Option (Int32 × St) := zl (x3 + 1) fun v1 => K58 x0 x1 x2 v1 z
set_option maxHeartbeats 4000000 in
set_option maxRecDepth 100000 in
theorem bX0_findDistances_108 (hst : zSt B ids) (F : zFx p m c cX0_findDistances 4 s args RX0 D cy B ids A) (hA : ∀ q : Nat, s.heap.size ≤ q → A q) {r : Int32} {z' : St} (E : zEnd p l e rmX0_findDistances s m args below meth c cX0_findDistances D cy B ids A Q none z' .return_ True) {N : Nat} {K48 : Nat → Int32 → St → Option (Int32 × St)} {K58 : Nat → Int32 → Int32 → Int32 → St → Option (Int32 × St)} (hK48 : ∀ (x0 : Nat) (x1 : Int32) (hx0 : (0, x0) ∈ ids) {z : St} {H : Heap} {locs : List Loc} {ls : Array Slot} (hr : zRep D cy B ids A s.heap z H locs) (hl : lv_has ls 4 [(0, .ref (B 0 x0)), (1, .int x1)]), K48 x0 x1 z = some (r, z') → W p l e rmX0_findDistances s m args below meth c H locs 0 0 Q (F0 m 48 ls [])) (hK58 : ∀ (x0 : Nat) (x1 : Int32) (x2 : Int32) (x3 : Int32) (hx0 : (0, x0) ∈ ids) {z : St} {H : Heap} {locs : List Loc} {ls : Array Slot} (hr : zRep D cy B ids A s.heap z H locs) (hl : lv_has ls 4 [(0, .ref (B 0 x0)), (1, .int x1), (2, .int x2), (3, .int x3)]), K58 x0 x1 x2 x3 z = some (r, z') → W p l e rmX0_findDistances s m args below meth c H locs 0 0 Q (F0 m 58 ls [])) (x0 : Nat) (x1 : Int32) (x2 : Int32) (x3 : Int32) (hx0 : (0, x0) ∈ ids) {z : St} {H : Heap} {locs : List Loc} {ls : Array Slot} (hr : zRep D cy B ids A s.heap z H locs) (hl : lv_has ls 4 [(0, .ref (B 0 x0)), (1, .int x1), (2, .int x2), (3, .int x3)]) (h : fX0_findDistances_108 N K48 K58 x0 x1 x2 x3 z = some (r, z')) : W p l e rmX0_findDistances s m args below meth c H locs 0 0 Q (F0 m 108 ls []) := by
  unfold fX0_findDistances_108 at h
  obtain ⟨v1, ev1⟩ : ∃ y : Int32, y = (x3 + 1) := ⟨_, rfl⟩
  replace h := zl_sub ev1 h
  refine lv_iinc (v := v1) (lv' := [(3, .int v1), (0, .ref (B 0 x0)), (1, .int x1), (2, .int x2)]) F.1 F.2.1 dX0_findDistances_108 hl (k := 3) rfl (by rw [ev1]; rfl) (by decide) rfl (fun ls hl => ?_)
  refine lv_goto (tgt := 58) F.1 F.2.1 dX0_findDistances_111 (by decide) ?_
  exact hK58 x0 x1 x2 v1 hx0 hr (lv_sub hl [1, 2, 3, 0] rfl) h
def fX0_findDistances_106 (N : Nat) (K48 : Nat → Int32 → St → Option (Int32 × St)) (K58 : Nat → Int32 → Int32 → Int32 → St → Option (Int32 × St)) (x0 : Nat) (x1 : Int32) (x3 : Int32) (z : St) : Option (Int32 × St) := fX0_findDistances_108 N K48 K58 x0 x1 x3 x3 z
set_option maxHeartbeats 4000000 in
set_option maxRecDepth 100000 in
theorem bX0_findDistances_106 (hst : zSt B ids) (F : zFx p m c cX0_findDistances 4 s args RX0 D cy B ids A) (hA : ∀ q : Nat, s.heap.size ≤ q → A q) {r : Int32} {z' : St} (E : zEnd p l e rmX0_findDistances s m args below meth c cX0_findDistances D cy B ids A Q none z' .return_ True) {N : Nat} {K48 : Nat → Int32 → St → Option (Int32 × St)} {K58 : Nat → Int32 → Int32 → Int32 → St → Option (Int32 × St)} (hK48 : ∀ (x0 : Nat) (x1 : Int32) (hx0 : (0, x0) ∈ ids) {z : St} {H : Heap} {locs : List Loc} {ls : Array Slot} (hr : zRep D cy B ids A s.heap z H locs) (hl : lv_has ls 4 [(0, .ref (B 0 x0)), (1, .int x1)]), K48 x0 x1 z = some (r, z') → W p l e rmX0_findDistances s m args below meth c H locs 0 0 Q (F0 m 48 ls [])) (hK58 : ∀ (x0 : Nat) (x1 : Int32) (x2 : Int32) (x3 : Int32) (hx0 : (0, x0) ∈ ids) {z : St} {H : Heap} {locs : List Loc} {ls : Array Slot} (hr : zRep D cy B ids A s.heap z H locs) (hl : lv_has ls 4 [(0, .ref (B 0 x0)), (1, .int x1), (2, .int x2), (3, .int x3)]), K58 x0 x1 x2 x3 z = some (r, z') → W p l e rmX0_findDistances s m args below meth c H locs 0 0 Q (F0 m 58 ls [])) (x0 : Nat) (x1 : Int32) (x3 : Int32) (hx0 : (0, x0) ∈ ids) {z : St} {H : Heap} {locs : List Loc} {ls : Array Slot} (hr : zRep D cy B ids A s.heap z H locs) (hl : lv_has ls 4 [(0, .ref (B 0 x0)), (1, .int x1), (3, .int x3)]) (h : fX0_findDistances_106 N K48 K58 x0 x1 x3 z = some (r, z')) : W p l e rmX0_findDistances s m args below meth c H locs 0 0 Q (F0 m 106 ls []) := by
  unfold fX0_findDistances_106 at h
  refine lv_iload_n F.1 F.2.1 dX0_findDistances_106 rfl (lv_at hl 2 rfl) ?_
  refine lv_istore_n (lv' := [(2, .int x3), (0, .ref (B 0 x0)), (1, .int x1), (3, .int x3)]) F.1 F.2.1 dX0_findDistances_107 rfl hl (by decide) rfl (fun ls hl => ?_)
  exact bX0_findDistances_108 hst F hA E hK48 hK58 x0 x1 x3 x3 hx0 hr (lv_sub hl [1, 2, 0, 3] rfl) h
def fX0_findDistances_58b (N : Nat) (K48 : Nat → Int32 → St → Option (Int32 × St)) (K58 : Nat → Int32 → Int32 → Int32 → St → Option (Int32 × St)) (x0 : Nat) (x1 : Int32) (x2 : Int32) (x3 : Int32) (z : St) : Option (Int32 × St) := if (16 : Int32) ≤ x3 then (if 0 ≤ x2 then (zk x2 16 <| zl (zsA z 110 x0 (Int32.toNatClampNeg x2) (vp_nar .boolean (1 : Int32))) fun z4 => zc (fX0_goOnFrom N x0 x2 z4) fun _ z6 => zl (x1 + 1) fun v9 => K48 x0 v9 z6) else (some (0, z))) else (zk x3 16 <| if ¬ (zgA z 110 x0 (Int32.toNatClampNeg x3)) = 0 then (fX0_findDistances_108 N K48 K58 x0 x1 x2 x3 z) else (zk x3 16 <| if ¬ (zgA z 109 x0 (Int32.toNatClampNeg x3)) = (1000000000 : Int32) then (if x2 < 0 then (fX0_findDistances_106 N K48 K58 x0 x1 x3 z) else (zk x3 16 <| zk x2 16 <| if (zgA z 109 x0 (Int32.toNatClampNeg x2)) ≤ (zgA z 109 x0 (Int32.toNatClampNeg x3)) then (fX0_findDistances_108 N K48 K58 x0 x1 x2 x3 z) else (fX0_findDistances_106 N K48 K58 x0 x1 x3 z))) else (fX0_findDistances_108 N K48 K58 x0 x1 x2 x3 z)))
def fX0_findDistances_58 (N : Nat) (K48 : Nat → Int32 → St → Option (Int32 × St)) : Nat → Nat → Int32 → Int32 → Int32 → St → Option (Int32 × St)
  | 0 => fun _ _ _ _ _ => none
  | n + 1 => fX0_findDistances_58b N K48 (fX0_findDistances_58 N K48 n)
set_option maxHeartbeats 4000000 in
set_option maxRecDepth 100000 in
theorem bX0_findDistances_58 (hst : zSt B ids) (F : zFx p m c cX0_findDistances 4 s args RX0 D cy B ids A) (hA : ∀ q : Nat, s.heap.size ≤ q → A q) {r : Int32} {z' : St} (E : zEnd p l e rmX0_findDistances s m args below meth c cX0_findDistances D cy B ids A Q none z' .return_ True) {N : Nat} {K48 : Nat → Int32 → St → Option (Int32 × St)} {K58 : Nat → Int32 → Int32 → Int32 → St → Option (Int32 × St)} (hK48 : ∀ (x0 : Nat) (x1 : Int32) (hx0 : (0, x0) ∈ ids) {z : St} {H : Heap} {locs : List Loc} {ls : Array Slot} (hr : zRep D cy B ids A s.heap z H locs) (hl : lv_has ls 4 [(0, .ref (B 0 x0)), (1, .int x1)]), K48 x0 x1 z = some (r, z') → W p l e rmX0_findDistances s m args below meth c H locs 0 0 Q (F0 m 48 ls [])) (hK58 : ∀ (x0 : Nat) (x1 : Int32) (x2 : Int32) (x3 : Int32) (hx0 : (0, x0) ∈ ids) {z : St} {H : Heap} {locs : List Loc} {ls : Array Slot} (hr : zRep D cy B ids A s.heap z H locs) (hl : lv_has ls 4 [(0, .ref (B 0 x0)), (1, .int x1), (2, .int x2), (3, .int x3)]), K58 x0 x1 x2 x3 z = some (r, z') → W p l e rmX0_findDistances s m args below meth c H locs 0 0 Q (F0 m 58 ls [])) (x0 : Nat) (x1 : Int32) (x2 : Int32) (x3 : Int32) (hx0 : (0, x0) ∈ ids) {z : St} {H : Heap} {locs : List Loc} {ls : Array Slot} (hr : zRep D cy B ids A s.heap z H locs) (hl : lv_has ls 4 [(0, .ref (B 0 x0)), (1, .int x1), (2, .int x2), (3, .int x3)]) (h : fX0_findDistances_58b N K48 K58 x0 x1 x2 x3 z = some (r, z')) : W p l e rmX0_findDistances s m args below meth c H locs 0 0 Q (F0 m 58 ls []) := by
  unfold fX0_findDistances_58b at h
  refine lv_iload_n F.1 F.2.1 dX0_findDistances_58 rfl (lv_at hl 3 rfl) ?_
  refine lv_bipush (v := (16 : Int32)) F.1 F.2.1 dX0_findDistances_59 (by decide) ?_
  refine lv_icmp_ge (tgt := 114) F.1 F.2.1 dX0_findDistances_61 (by decide) (fun c1 => ?_) (fun c1 => ?_)
  · replace h := zi_t c1 h
    refine lv_iload_n F.1 F.2.1 dX0_findDistances_114 rfl (lv_at hl 2 rfl) ?_
    refine lv_if_ge (tgt := 121) F.1 F.2.1 dX0_findDistances_115 (by decide) (fun c2 => ?_) (fun c2 => ?_)
    · replace h := zi_t c2 h
      refine lv_aload_n F.1 F.2.1 dX0_findDistances_121 rfl (lv_at hl 0 rfl) ?_
      refine gf0_45 F hx0 hr dX0_findDistances_122 ?_
      refine lv_iload_n F.1 F.2.1 dX0_findDistances_125 rfl (lv_at hl 2 rfl) ?_
      refine lv_iconst (v := (1 : Int32)) F.1 F.2.1 dX0_findDistances_126 (by decide) ?_
      replace h := zk_some h
      obtain ⟨c3, h⟩ := h
      refine zr_zast (k := 110) (by decide) rfl (by decide) F (zal_a F hx0 (j := 14) rfl) hr dX0_findDistances_127 c3 (fun H locs z4 ez4 hr => ?_)
      replace h := zl_sub ez4 h
      clear ez4
      refine lv_aload_n F.1 F.2.1 dX0_findDistances_128 rfl (lv_at hl 0 rfl) ?_
      refine lv_iload_n F.1 F.2.1 dX0_findDistances_129 rfl (lv_at hl 2 rfl) ?_
      replace h := zc_some h
      obtain ⟨r5, z6, hc7, h⟩ := h
      refine zr_callv (zrun_V (As := [.int x2]) (rest := []) zq_1566 zq_1568 zs_X0_goOnFrom zq_1569 zq_11 hdX0_goOnFrom (by decide) (T := TX0) (N := 16) rfl (okX0_goOnFrom l D cy B ids hst N x0 hx0 x2  hr.2.2 hc7) F hr hx0 hl.1 rfl (by decide) dX0_findDistances_130 rfl rfl hroX0_findDistances_X0_goOnFrom ⟨Nat.zero_le _, Nat.zero_le _⟩) F hA hr (fun H locs hw8 hr => ?_)
      clear hc7
      obtain ⟨v9, ev9⟩ : ∃ y : Int32, y = (x1 + 1) := ⟨_, rfl⟩
      replace h := zl_sub ev9 h
      refine lv_iinc (v := v9) (lv' := [(1, .int v9), (0, .ref (B 0 x0)), (2, .int x2), (3, .int x3)]) F.1 F.2.1 dX0_findDistances_133 hl (k := 1) rfl (by rw [ev9]; rfl) (by decide) rfl (fun ls hl => ?_)
      refine lv_goto (tgt := 48) F.1 F.2.1 dX0_findDistances_136 (by decide) ?_
      exact hK48 x0 v9 hx0 hr (lv_sub hl [1, 0] rfl) h
    · replace h := zi_f c2 h
      refine lv_goto (tgt := 139) F.1 F.2.1 dX0_findDistances_118 (by decide) ?_
      obtain ⟨rfl, rfl⟩ := zret h
      exact E _ _ _ _ dX0_findDistances_139 trivial hr
  · replace h := zi_f c1 h
    refine lv_aload_n F.1 F.2.1 dX0_findDistances_64 rfl (lv_at hl 0 rfl) ?_
    refine gf0_45 F hx0 hr dX0_findDistances_65 ?_
    refine lv_iload_n F.1 F.2.1 dX0_findDistances_68 rfl (lv_at hl 3 rfl) ?_
    replace h := zk_some h
    obtain ⟨c10, h⟩ := h
    refine zr_zald (k := 110) (by decide) rfl (by decide) F (zal_a F hx0 (j := 14) rfl) hr dX0_findDistances_69 c10 ?_
    refine lv_if_ne (tgt := 108) F.1 F.2.1 dX0_findDistances_70 (by decide) (fun c11 => ?_) (fun c11 => ?_)
    · replace h := zi_t c11 h
      exact bX0_findDistances_108 hst F hA E hK48 hK58 x0 x1 x2 x3 hx0 hr (lv_sub hl [0, 1, 2, 3] rfl) h
    · replace h := zi_f (fun q => q c11) h
      refine lv_aload_n F.1 F.2.1 dX0_findDistances_73 rfl (lv_at hl 0 rfl) ?_
      refine gf0_42 F hx0 hr dX0_findDistances_74 ?_
      refine lv_iload_n F.1 F.2.1 dX0_findDistances_77 rfl (lv_at hl 3 rfl) ?_
      replace h := zk_some h
      obtain ⟨c12, h⟩ := h
      refine zr_iald (k := 109) (by decide) rfl (by decide) F (zal_a F hx0 (j := 13) rfl) hr dX0_findDistances_78 c12 ?_
      refine lv_ldc (v := (1000000000)) F.1 F.2.1 F.2.2.2.1 (F.2.2.2.2.1 _ zq_1565) dX0_findDistances_79 ?_
      refine lv_icmp_ne (tgt := 87) F.1 F.2.1 dX0_findDistances_81 (by decide) (fun c13 => ?_) (fun c13 => ?_)
      · replace h := zi_t c13 h
        refine lv_iload_n F.1 F.2.1 dX0_findDistances_87 rfl (lv_at hl 2 rfl) ?_
        refine lv_if_lt (tgt := 106) F.1 F.2.1 dX0_findDistances_88 (by decide) (fun c14 => ?_) (fun c14 => ?_)
        · replace h := zi_t c14 h
          exact bX0_findDistances_106 hst F hA E hK48 hK58 x0 x1 x3 hx0 hr (lv_sub hl [0, 1, 3] rfl) h
        · replace h := zi_f c14 h
          refine lv_aload_n F.1 F.2.1 dX0_findDistances_91 rfl (lv_at hl 0 rfl) ?_
          refine gf0_42 F hx0 hr dX0_findDistances_92 ?_
          refine lv_iload_n F.1 F.2.1 dX0_findDistances_95 rfl (lv_at hl 3 rfl) ?_
          replace h := zk_some h
          obtain ⟨c15, h⟩ := h
          refine zr_iald (k := 109) (by decide) rfl (by decide) F (zal_a F hx0 (j := 13) rfl) hr dX0_findDistances_96 c15 ?_
          refine lv_aload_n F.1 F.2.1 dX0_findDistances_97 rfl (lv_at hl 0 rfl) ?_
          refine gf0_42 F hx0 hr dX0_findDistances_98 ?_
          refine lv_iload_n F.1 F.2.1 dX0_findDistances_101 rfl (lv_at hl 2 rfl) ?_
          replace h := zk_some h
          obtain ⟨c16, h⟩ := h
          refine zr_iald (k := 109) (by decide) rfl (by decide) F (zal_a F hx0 (j := 13) rfl) hr dX0_findDistances_102 c16 ?_
          refine lv_icmp_ge (tgt := 108) F.1 F.2.1 dX0_findDistances_103 (by decide) (fun c17 => ?_) (fun c17 => ?_)
          · replace h := zi_t c17 h
            exact bX0_findDistances_108 hst F hA E hK48 hK58 x0 x1 x2 x3 hx0 hr (lv_sub hl [0, 1, 2, 3] rfl) h
          · replace h := zi_f c17 h
            exact bX0_findDistances_106 hst F hA E hK48 hK58 x0 x1 x3 hx0 hr (lv_sub hl [0, 1, 3] rfl) h
      · replace h := zi_f (fun q => q c13) h
        refine lv_goto (tgt := 108) F.1 F.2.1 dX0_findDistances_84 (by decide) ?_
        exact bX0_findDistances_108 hst F hA E hK48 hK58 x0 x1 x2 x3 hx0 hr (lv_sub hl [0, 1, 2, 3] rfl) h
theorem lX0_findDistances_58 (hst : zSt B ids) (F : zFx p m c cX0_findDistances 4 s args RX0 D cy B ids A) (hA : ∀ q : Nat, s.heap.size ≤ q → A q) {r : Int32} {z' : St} (E : zEnd p l e rmX0_findDistances s m args below meth c cX0_findDistances D cy B ids A Q none z' .return_ True) {N : Nat} {K48 : Nat → Int32 → St → Option (Int32 × St)} (hK48 : ∀ (x0 : Nat) (x1 : Int32) (hx0 : (0, x0) ∈ ids) {z : St} {H : Heap} {locs : List Loc} {ls : Array Slot} (hr : zRep D cy B ids A s.heap z H locs) (hl : lv_has ls 4 [(0, .ref (B 0 x0)), (1, .int x1)]), K48 x0 x1 z = some (r, z') → W p l e rmX0_findDistances s m args below meth c H locs 0 0 Q (F0 m 48 ls [])) : ∀ (n : Nat) (x0 : Nat) (x1 : Int32) (x2 : Int32) (x3 : Int32) (hx0 : (0, x0) ∈ ids) {z : St} {H : Heap} {locs : List Loc} {ls : Array Slot} (hr : zRep D cy B ids A s.heap z H locs) (hl : lv_has ls 4 [(0, .ref (B 0 x0)), (1, .int x1), (2, .int x2), (3, .int x3)]), fX0_findDistances_58 N K48 n x0 x1 x2 x3 z = some (r, z') → W p l e rmX0_findDistances s m args below meth c H locs 0 0 Q (F0 m 58 ls []) := by
  intro n
  induction n with
  | zero => intro x0 x1 x2 x3 hx0 z H locs ls hr hl h; cases h
  | succ n ih => intro x0 x1 x2 x3 hx0 z H locs ls hr hl h; exact bX0_findDistances_58 hst F hA E hK48 ih x0 x1 x2 x3 hx0 hr hl h
def fX0_findDistances_48b (N : Nat) (K48 : Nat → Int32 → St → Option (Int32 × St)) (x0 : Nat) (x1 : Int32) (z : St) : Option (Int32 × St) := if (16 : Int32) ≤ x1 then (some (0, z)) else (fX0_findDistances_58 N K48 N x0 x1 (-1 : Int32) (0 : Int32) z)
def fX0_findDistances_48 (N : Nat)  : Nat → Nat → Int32 → St → Option (Int32 × St)
  | 0 => fun _ _ _ => none
  | n + 1 => fX0_findDistances_48b N (fX0_findDistances_48 N  n)
set_option maxHeartbeats 4000000 in
set_option maxRecDepth 100000 in
theorem bX0_findDistances_48 (hst : zSt B ids) (F : zFx p m c cX0_findDistances 4 s args RX0 D cy B ids A) (hA : ∀ q : Nat, s.heap.size ≤ q → A q) {r : Int32} {z' : St} (E : zEnd p l e rmX0_findDistances s m args below meth c cX0_findDistances D cy B ids A Q none z' .return_ True) {N : Nat} {K48 : Nat → Int32 → St → Option (Int32 × St)} (hK48 : ∀ (x0 : Nat) (x1 : Int32) (hx0 : (0, x0) ∈ ids) {z : St} {H : Heap} {locs : List Loc} {ls : Array Slot} (hr : zRep D cy B ids A s.heap z H locs) (hl : lv_has ls 4 [(0, .ref (B 0 x0)), (1, .int x1)]), K48 x0 x1 z = some (r, z') → W p l e rmX0_findDistances s m args below meth c H locs 0 0 Q (F0 m 48 ls [])) (x0 : Nat) (x1 : Int32) (hx0 : (0, x0) ∈ ids) {z : St} {H : Heap} {locs : List Loc} {ls : Array Slot} (hr : zRep D cy B ids A s.heap z H locs) (hl : lv_has ls 4 [(0, .ref (B 0 x0)), (1, .int x1)]) (h : fX0_findDistances_48b N K48 x0 x1 z = some (r, z')) : W p l e rmX0_findDistances s m args below meth c H locs 0 0 Q (F0 m 48 ls []) := by
  unfold fX0_findDistances_48b at h
  refine lv_iload_n F.1 F.2.1 dX0_findDistances_48 rfl (lv_at hl 1 rfl) ?_
  refine lv_bipush (v := (16 : Int32)) F.1 F.2.1 dX0_findDistances_49 (by decide) ?_
  refine lv_icmp_ge (tgt := 139) F.1 F.2.1 dX0_findDistances_51 (by decide) (fun c1 => ?_) (fun c1 => ?_)
  · replace h := zi_t c1 h
    obtain ⟨rfl, rfl⟩ := zret h
    exact E _ _ _ _ dX0_findDistances_139 trivial hr
  · replace h := zi_f c1 h
    refine lv_iconst (v := (-1 : Int32)) F.1 F.2.1 dX0_findDistances_54 (by decide) ?_
    refine lv_istore_n (lv' := [(2, .int (-1 : Int32)), (0, .ref (B 0 x0)), (1, .int x1)]) F.1 F.2.1 dX0_findDistances_55 rfl hl (by decide) rfl (fun ls hl => ?_)
    refine lv_iconst (v := (0 : Int32)) F.1 F.2.1 dX0_findDistances_56 (by decide) ?_
    refine lv_istore_n (lv' := [(3, .int (0 : Int32)), (2, .int (-1 : Int32)), (0, .ref (B 0 x0)), (1, .int x1)]) F.1 F.2.1 dX0_findDistances_57 rfl hl (by decide) rfl (fun ls hl => ?_)
    exact lX0_findDistances_58 hst F hA E hK48 _ x0 x1 (-1 : Int32) (0 : Int32) hx0 hr (lv_sub hl [2, 3, 1, 0] rfl) h
theorem lX0_findDistances_48 (hst : zSt B ids) (F : zFx p m c cX0_findDistances 4 s args RX0 D cy B ids A) (hA : ∀ q : Nat, s.heap.size ≤ q → A q) {r : Int32} {z' : St} (E : zEnd p l e rmX0_findDistances s m args below meth c cX0_findDistances D cy B ids A Q none z' .return_ True) {N : Nat}  : ∀ (n : Nat) (x0 : Nat) (x1 : Int32) (hx0 : (0, x0) ∈ ids) {z : St} {H : Heap} {locs : List Loc} {ls : Array Slot} (hr : zRep D cy B ids A s.heap z H locs) (hl : lv_has ls 4 [(0, .ref (B 0 x0)), (1, .int x1)]), fX0_findDistances_48 N  n x0 x1 z = some (r, z') → W p l e rmX0_findDistances s m args below meth c H locs 0 0 Q (F0 m 48 ls []) := by
  intro n
  induction n with
  | zero => intro x0 x1 hx0 z H locs ls hr hl h; cases h
  | succ n ih => intro x0 x1 hx0 z H locs ls hr hl h; exact bX0_findDistances_48 hst F hA E ih x0 x1 hx0 hr hl h
def fX0_findDistances_2b (N : Nat) (K2 : Nat → Int32 → St → Option (Int32 × St)) (x0 : Nat) (x1 : Int32) (z : St) : Option (Int32 × St) := if (16 : Int32) ≤ x1 then (zk (zgI z 0 0 x0) 16 <| zl (zsA z 109 x0 (Int32.toNatClampNeg (zgI z 0 0 x0)) (0 : Int32)) fun z3 => fX0_findDistances_48 N N x0 (0 : Int32) z3) else (zk x1 16 <| zl (zsA z 109 x0 (Int32.toNatClampNeg x1) (1000000000 : Int32)) fun z5 => zk x1 16 <| zl (zsA z5 110 x0 (Int32.toNatClampNeg x1) (vp_nar .boolean (0 : Int32))) fun z7 => zk x1 16 <| zl (zsA z7 111 x0 (Int32.toNatClampNeg x1) (-1 : Int32)) fun z9 => zl (x1 + 1) fun v10 => K2 x0 v10 z9)
def fX0_findDistances_2 (N : Nat)  : Nat → Nat → Int32 → St → Option (Int32 × St)
  | 0 => fun _ _ _ => none
  | n + 1 => fX0_findDistances_2b N (fX0_findDistances_2 N  n)
set_option maxHeartbeats 4000000 in
set_option maxRecDepth 100000 in
theorem bX0_findDistances_2 (hst : zSt B ids) (F : zFx p m c cX0_findDistances 4 s args RX0 D cy B ids A) (hA : ∀ q : Nat, s.heap.size ≤ q → A q) {r : Int32} {z' : St} (E : zEnd p l e rmX0_findDistances s m args below meth c cX0_findDistances D cy B ids A Q none z' .return_ True) {N : Nat} {K2 : Nat → Int32 → St → Option (Int32 × St)} (hK2 : ∀ (x0 : Nat) (x1 : Int32) (hx0 : (0, x0) ∈ ids) {z : St} {H : Heap} {locs : List Loc} {ls : Array Slot} (hr : zRep D cy B ids A s.heap z H locs) (hl : lv_has ls 4 [(0, .ref (B 0 x0)), (1, .int x1)]), K2 x0 x1 z = some (r, z') → W p l e rmX0_findDistances s m args below meth c H locs 0 0 Q (F0 m 2 ls [])) (x0 : Nat) (x1 : Int32) (hx0 : (0, x0) ∈ ids) {z : St} {H : Heap} {locs : List Loc} {ls : Array Slot} (hr : zRep D cy B ids A s.heap z H locs) (hl : lv_has ls 4 [(0, .ref (B 0 x0)), (1, .int x1)]) (h : fX0_findDistances_2b N K2 x0 x1 z = some (r, z')) : W p l e rmX0_findDistances s m args below meth c H locs 0 0 Q (F0 m 2 ls []) := by
  unfold fX0_findDistances_2b at h
  refine lv_iload_n F.1 F.2.1 dX0_findDistances_2 rfl (lv_at hl 1 rfl) ?_
  refine lv_bipush (v := (16 : Int32)) F.1 F.2.1 dX0_findDistances_3 (by decide) ?_
  refine lv_icmp_ge (tgt := 36) F.1 F.2.1 dX0_findDistances_5 (by decide) (fun c1 => ?_) (fun c1 => ?_)
  · replace h := zi_t c1 h
    refine lv_aload_n F.1 F.2.1 dX0_findDistances_36 rfl (lv_at hl 0 rfl) ?_
    refine gf0_42 F hx0 hr dX0_findDistances_37 ?_
    refine lv_aload_n F.1 F.2.1 dX0_findDistances_40 rfl (lv_at hl 0 rfl) ?_
    refine gf0_52 F hx0 hr dX0_findDistances_41 ?_
    refine lv_iconst (v := (0 : Int32)) F.1 F.2.1 dX0_findDistances_44 (by decide) ?_
    replace h := zk_some h
    obtain ⟨c2, h⟩ := h
    refine zr_iast (k := 109) (by decide) rfl (by decide) F (zal_a F hx0 (j := 13) rfl) hr dX0_findDistances_45 c2 (fun H locs z3 ez3 hr => ?_)
    replace h := zl_sub ez3 h
    clear ez3
    refine lv_iconst (v := (0 : Int32)) F.1 F.2.1 dX0_findDistances_46 (by decide) ?_
    refine lv_istore_n (lv' := [(1, .int (0 : Int32)), (0, .ref (B 0 x0))]) F.1 F.2.1 dX0_findDistances_47 rfl hl (by decide) rfl (fun ls hl => ?_)
    exact lX0_findDistances_48 hst F hA E  _ x0 (0 : Int32) hx0 hr (lv_sub hl [1, 0] rfl) h
  · replace h := zi_f c1 h
    refine lv_aload_n F.1 F.2.1 dX0_findDistances_8 rfl (lv_at hl 0 rfl) ?_
    refine gf0_42 F hx0 hr dX0_findDistances_9 ?_
    refine lv_iload_n F.1 F.2.1 dX0_findDistances_12 rfl (lv_at hl 1 rfl) ?_
    refine lv_ldc (v := (1000000000)) F.1 F.2.1 F.2.2.2.1 (F.2.2.2.2.1 _ zq_1565) dX0_findDistances_13 ?_
    replace h := zk_some h
    obtain ⟨c4, h⟩ := h
    refine zr_iast (k := 109) (by decide) rfl (by decide) F (zal_a F hx0 (j := 13) rfl) hr dX0_findDistances_15 c4 (fun H locs z5 ez5 hr => ?_)
    replace h := zl_sub ez5 h
    clear ez5
    refine lv_aload_n F.1 F.2.1 dX0_findDistances_16 rfl (lv_at hl 0 rfl) ?_
    refine gf0_45 F hx0 hr dX0_findDistances_17 ?_
    refine lv_iload_n F.1 F.2.1 dX0_findDistances_20 rfl (lv_at hl 1 rfl) ?_
    refine lv_iconst (v := (0 : Int32)) F.1 F.2.1 dX0_findDistances_21 (by decide) ?_
    replace h := zk_some h
    obtain ⟨c6, h⟩ := h
    refine zr_zast (k := 110) (by decide) rfl (by decide) F (zal_a F hx0 (j := 14) rfl) hr dX0_findDistances_22 c6 (fun H locs z7 ez7 hr => ?_)
    replace h := zl_sub ez7 h
    clear ez7
    refine lv_aload_n F.1 F.2.1 dX0_findDistances_23 rfl (lv_at hl 0 rfl) ?_
    refine gf0_49 F hx0 hr dX0_findDistances_24 ?_
    refine lv_iload_n F.1 F.2.1 dX0_findDistances_27 rfl (lv_at hl 1 rfl) ?_
    refine lv_iconst (v := (-1 : Int32)) F.1 F.2.1 dX0_findDistances_28 (by decide) ?_
    replace h := zk_some h
    obtain ⟨c8, h⟩ := h
    refine zr_iast (k := 111) (by decide) rfl (by decide) F (zal_a F hx0 (j := 15) rfl) hr dX0_findDistances_29 c8 (fun H locs z9 ez9 hr => ?_)
    replace h := zl_sub ez9 h
    clear ez9
    obtain ⟨v10, ev10⟩ : ∃ y : Int32, y = (x1 + 1) := ⟨_, rfl⟩
    replace h := zl_sub ev10 h
    refine lv_iinc (v := v10) (lv' := [(1, .int v10), (0, .ref (B 0 x0))]) F.1 F.2.1 dX0_findDistances_30 hl (k := 1) rfl (by rw [ev10]; rfl) (by decide) rfl (fun ls hl => ?_)
    refine lv_goto (tgt := 2) F.1 F.2.1 dX0_findDistances_33 (by decide) ?_
    exact hK2 x0 v10 hx0 hr (lv_sub hl [1, 0] rfl) h
theorem lX0_findDistances_2 (hst : zSt B ids) (F : zFx p m c cX0_findDistances 4 s args RX0 D cy B ids A) (hA : ∀ q : Nat, s.heap.size ≤ q → A q) {r : Int32} {z' : St} (E : zEnd p l e rmX0_findDistances s m args below meth c cX0_findDistances D cy B ids A Q none z' .return_ True) {N : Nat}  : ∀ (n : Nat) (x0 : Nat) (x1 : Int32) (hx0 : (0, x0) ∈ ids) {z : St} {H : Heap} {locs : List Loc} {ls : Array Slot} (hr : zRep D cy B ids A s.heap z H locs) (hl : lv_has ls 4 [(0, .ref (B 0 x0)), (1, .int x1)]), fX0_findDistances_2 N  n x0 x1 z = some (r, z') → W p l e rmX0_findDistances s m args below meth c H locs 0 0 Q (F0 m 2 ls []) := by
  intro n
  induction n with
  | zero => intro x0 x1 hx0 z H locs ls hr hl h; cases h
  | succ n ih => intro x0 x1 hx0 z H locs ls hr hl h; exact bX0_findDistances_2 hst F hA E ih x0 x1 hx0 hr hl h
def fX0_findDistances (N : Nat)  (x0 : Nat) (z : St) : Option (Int32 × St) := fX0_findDistances_2 N N x0 (0 : Int32) z
set_option maxHeartbeats 4000000 in
set_option maxRecDepth 100000 in
theorem bX0_findDistances_0 (hst : zSt B ids) (F : zFx p m c cX0_findDistances 4 s args RX0 D cy B ids A) (hA : ∀ q : Nat, s.heap.size ≤ q → A q) {r : Int32} {z' : St} (E : zEnd p l e rmX0_findDistances s m args below meth c cX0_findDistances D cy B ids A Q none z' .return_ True) {N : Nat}  (x0 : Nat) (hx0 : (0, x0) ∈ ids) {z : St} {H : Heap} {locs : List Loc} {ls : Array Slot} (hr : zRep D cy B ids A s.heap z H locs) (hl : lv_has ls 4 [(0, .ref (B 0 x0))]) (h : fX0_findDistances N x0 z = some (r, z')) : W p l e rmX0_findDistances s m args below meth c H locs 0 0 Q (F0 m 0 ls []) := by
  unfold fX0_findDistances at h
  refine lv_iconst (v := (0 : Int32)) F.1 F.2.1 dX0_findDistances_0 (by decide) ?_
  refine lv_istore_n (lv' := [(1, .int (0 : Int32)), (0, .ref (B 0 x0))]) F.1 F.2.1 dX0_findDistances_1 rfl hl (by decide) rfl (fun ls hl => ?_)
  exact lX0_findDistances_2 hst F hA E  _ x0 (0 : Int32) hx0 hr (lv_sub hl [1, 0] rfl) h
end SX0_findDistances
set_option maxRecDepth 100000 in
theorem okX0_findDistances (l : Launch) (D : va_G) (cy : Nat → ClassId) (B : Nat → Nat → Nat) (ids : List (Nat × Nat)) (hst : zSt B ids) (N : Nat) (x0 : Nat) (hx0 : (0, x0) ∈ ids) {z : St} {r : Int32} {z' : St} (hW : zWf ids z) (h : fX0_findDistances N x0 z = some (r, z')) : zM l yX0_findDistances (zws yX0_findDistances cX0_findDistances 4 none) rmX0_findDistances D cy B ids [.ref (B 0 x0)] none True z z' :=
  zM_of hst hW (by decide +kernel) (Nat.le_of_ble_eq_true rfl) (fun p e s m args below meth c A ls F hA hret hlocks hr hl => bX0_findDistances_0 hst F hA (zEnd_v F hret hlocks) x0 hx0 hr hl h)
abbrev rmX0_portToll : Room := { frames := 1, cells := 0, slots := 0, locals := 20 }
theorem hdX0_portToll : yX0_portToll.cls ≠ "java/lang/invoke/MethodHandle" ∧ yX0_portToll.cls ≠ "java/lang/invoke/VarHandle" ∧ (parseMethodDescriptor yX0_portToll.desc).map (fun d => d.parameters.length) = some 2 := by decide +kernel
theorem hroX0_portToll_X0_friendOf : rmX0_friendOf.frames + 1 ≤ rmX0_portToll.frames ∧ 8 + (1 + 11) + rmX0_friendOf.locals ≤ rmX0_portToll.locals := by decide
theorem hroX0_portToll_X0_netOfEntry : rmX0_netOfEntry.frames + 1 ≤ rmX0_portToll.frames ∧ 8 + (1 + 11) + rmX0_netOfEntry.locals ≤ rmX0_portToll.locals := by decide
theorem hroX0_portToll_X0_tollOf : rmX0_tollOf.frames + 1 ≤ rmX0_portToll.frames ∧ 8 + (1 + 11) + rmX0_tollOf.locals ≤ rmX0_portToll.locals := by decide
section SX0_portToll
variable {p : Program} {l : Launch} {e : Env} {s : State} {m : MethodId} {args : Array Value} {below : List Frame} {meth : Method} {c : Code} {Q : State → Prop} {D : va_G} {cy : Nat → ClassId} {B : Nat → Nat → Nat} {ids : List (Nat × Nat)} {A : Nat → Prop}
def fX0_portToll_45 (N : Nat) (K2 : Nat → Int32 → Int32 → Int32 → St → Option (Int32 × St)) (x0 : Nat) (x1 : Int32) (x2 : Int32) (x3 : Int32) (z : St) : Option (Int32 × St) := zl (x3 + 1) fun v1 => K2 x0 x1 x2 v1 z
set_option maxHeartbeats 4000000 in
set_option maxRecDepth 100000 in
theorem bX0_portToll_45 (hst : zSt B ids) (F : zFx p m c cX0_portToll 5 s args RX0 D cy B ids A) (hA : ∀ q : Nat, s.heap.size ≤ q → A q) {r : Int32} {z' : St} (E : zEnd p l e rmX0_portToll s m args below meth c cX0_portToll D cy B ids A Q (some (.int r)) z' .ireturn True) {N : Nat} {K2 : Nat → Int32 → Int32 → Int32 → St → Option (Int32 × St)} (hK2 : ∀ (x0 : Nat) (x1 : Int32) (x2 : Int32) (x3 : Int32) (hx0 : (0, x0) ∈ ids) {z : St} {H : Heap} {locs : List Loc} {ls : Array Slot} (hr : zRep D cy B ids A s.heap z H locs) (hl : lv_has ls 5 [(0, .ref (B 0 x0)), (1, .int x1), (2, .int x2), (3, .int x3)]), K2 x0 x1 x2 x3 z = some (r, z') → W p l e rmX0_portToll s m args below meth c H locs 0 0 Q (F0 m 2 ls [])) (x0 : Nat) (x1 : Int32) (x2 : Int32) (x3 : Int32) (hx0 : (0, x0) ∈ ids) {z : St} {H : Heap} {locs : List Loc} {ls : Array Slot} (hr : zRep D cy B ids A s.heap z H locs) (hl : lv_has ls 5 [(0, .ref (B 0 x0)), (1, .int x1), (2, .int x2), (3, .int x3)]) (h : fX0_portToll_45 N K2 x0 x1 x2 x3 z = some (r, z')) : W p l e rmX0_portToll s m args below meth c H locs 0 0 Q (F0 m 45 ls []) := by
  unfold fX0_portToll_45 at h
  obtain ⟨v1, ev1⟩ : ∃ y : Int32, y = (x3 + 1) := ⟨_, rfl⟩
  replace h := zl_sub ev1 h
  refine lv_iinc (v := v1) (lv' := [(3, .int v1), (0, .ref (B 0 x0)), (1, .int x1), (2, .int x2)]) F.1 F.2.1 dX0_portToll_45 hl (k := 3) rfl (by rw [ev1]; rfl) (by decide) rfl (fun ls hl => ?_)
  refine lv_goto (tgt := 2) F.1 F.2.1 dX0_portToll_48 (by decide) ?_
  exact hK2 x0 x1 x2 v1 hx0 hr (lv_sub hl [1, 2, 3, 0] rfl) h
def fX0_portToll_2b (N : Nat) (K2 : Nat → Int32 → Int32 → Int32 → St → Option (Int32 × St)) (x0 : Nat) (x1 : Int32) (x2 : Int32) (x3 : Int32) (z : St) : Option (Int32 × St) := zk x1 16 <| if (zgA z 102 x0 (Int32.toNatClampNeg x1)) ≤ x3 then (some ((0 : Int32), z)) else (zk x1 16 <| zk x3 24 <| zl (zgA z 104 (x0 * 16 + (Int32.toNatClampNeg x1)) (Int32.toNatClampNeg x3)) fun v5 => zc (fX0_friendOf N v5 z) fun r6 z7 => if 0 ≤ r6 then (fX0_portToll_45 N K2 x0 x1 x2 x3 z7) else (zc (fX0_netOfEntry N v5 z7) fun r11 z12 => if ¬ r11 = x2 then (fX0_portToll_45 N K2 x0 x1 x2 x3 z12) else (zc (fX0_tollOf N v5 z12) fun r16 z17 => some (r16, z17))))
def fX0_portToll_2 (N : Nat)  : Nat → Nat → Int32 → Int32 → Int32 → St → Option (Int32 × St)
  | 0 => fun _ _ _ _ _ => none
  | n + 1 => fX0_portToll_2b N (fX0_portToll_2 N  n)
set_option maxHeartbeats 4000000 in
set_option maxRecDepth 100000 in
theorem bX0_portToll_2 (hst : zSt B ids) (F : zFx p m c cX0_portToll 5 s args RX0 D cy B ids A) (hA : ∀ q : Nat, s.heap.size ≤ q → A q) {r : Int32} {z' : St} (E : zEnd p l e rmX0_portToll s m args below meth c cX0_portToll D cy B ids A Q (some (.int r)) z' .ireturn True) {N : Nat} {K2 : Nat → Int32 → Int32 → Int32 → St → Option (Int32 × St)} (hK2 : ∀ (x0 : Nat) (x1 : Int32) (x2 : Int32) (x3 : Int32) (hx0 : (0, x0) ∈ ids) {z : St} {H : Heap} {locs : List Loc} {ls : Array Slot} (hr : zRep D cy B ids A s.heap z H locs) (hl : lv_has ls 5 [(0, .ref (B 0 x0)), (1, .int x1), (2, .int x2), (3, .int x3)]), K2 x0 x1 x2 x3 z = some (r, z') → W p l e rmX0_portToll s m args below meth c H locs 0 0 Q (F0 m 2 ls [])) (x0 : Nat) (x1 : Int32) (x2 : Int32) (x3 : Int32) (hx0 : (0, x0) ∈ ids) {z : St} {H : Heap} {locs : List Loc} {ls : Array Slot} (hr : zRep D cy B ids A s.heap z H locs) (hl : lv_has ls 5 [(0, .ref (B 0 x0)), (1, .int x1), (2, .int x2), (3, .int x3)]) (h : fX0_portToll_2b N K2 x0 x1 x2 x3 z = some (r, z')) : W p l e rmX0_portToll s m args below meth c H locs 0 0 Q (F0 m 2 ls []) := by
  unfold fX0_portToll_2b at h
  refine lv_iload_n F.1 F.2.1 dX0_portToll_2 rfl (lv_at hl 3 rfl) ?_
  refine lv_aload_n F.1 F.2.1 dX0_portToll_3 rfl (lv_at hl 0 rfl) ?_
  refine gf0_18 F hx0 hr dX0_portToll_4 ?_
  refine lv_iload_n F.1 F.2.1 dX0_portToll_7 rfl (lv_at hl 1 rfl) ?_
  replace h := zk_some h
  obtain ⟨c1, h⟩ := h
  refine zr_iald (k := 102) (by decide) rfl (by decide) F (zal_a F hx0 (j := 3) rfl) hr dX0_portToll_8 c1 ?_
  refine lv_icmp_ge (tgt := 51) F.1 F.2.1 dX0_portToll_9 (by decide) (fun c2 => ?_) (fun c2 => ?_)
  · replace h := zi_t c2 h
    refine lv_iconst (v := (0 : Int32)) F.1 F.2.1 dX0_portToll_51 (by decide) ?_
    obtain ⟨rfl, rfl⟩ := zret h
    exact E _ _ _ _ dX0_portToll_52 trivial hr
  · replace h := zi_f c2 h
    refine lv_aload_n F.1 F.2.1 dX0_portToll_12 rfl (lv_at hl 0 rfl) ?_
    refine gf0_23 F hx0 hr dX0_portToll_13 ?_
    refine lv_iload_n F.1 F.2.1 dX0_portToll_16 rfl (lv_at hl 1 rfl) ?_
    replace h := zk_some h
    obtain ⟨c3, h⟩ := h
    refine zr_rald (k := 103) (by decide) rfl (by decide) rfl F (zal_a F hx0 (j := 4) rfl) hr dX0_portToll_17 c3 ?_
    refine lv_iload_n F.1 F.2.1 dX0_portToll_18 rfl (lv_at hl 3 rfl) ?_
    replace h := zk_some h
    obtain ⟨c4, h⟩ := h
    refine zr_iald (k := 104) (by decide) rfl (by decide) F (zal_w F (zal_a F hx0 (j := 4) rfl) (k := 103) rfl c3) hr dX0_portToll_19 c4 ?_
    refine lv_topi (fun v5 ev5 => ?_)
    replace h := zl_sub ev5 h
    refine lv_istore (lv' := [(4, .int v5), (0, .ref (B 0 x0)), (1, .int x1), (2, .int x2), (3, .int x3)]) F.1 F.2.1 dX0_portToll_20 hl (by decide) rfl (fun ls hl => ?_)
    refine lv_iload F.1 F.2.1 dX0_portToll_22 (lv_at hl 0 rfl) ?_
    replace h := zc_some h
    obtain ⟨r6, z7, hc8, h⟩ := h
    refine zr_calli (zrun_S (As := [.int v5]) (rest := []) zq_1548 zq_1549 zq_1550 zq_11 hdX0_friendOf (okX0_friendOf l D cy B ids hst N v5  hr.2.2 hc8) F hr hl.1 rfl (by decide) dX0_portToll_24 rfl rfl hroX0_portToll_X0_friendOf ⟨Nat.zero_le _, Nat.zero_le _⟩) F hA hr (fun H locs hw9 hr => ?_)
    clear hc8
    refine lv_if_ge (tgt := 45) F.1 F.2.1 dX0_portToll_27 (by decide) (fun c10 => ?_) (fun c10 => ?_)
    · replace h := zi_t c10 h
      exact bX0_portToll_45 hst F hA E hK2 x0 x1 x2 x3 hx0 hr (lv_sub hl [1, 2, 3, 4] rfl) h
    · replace h := zi_f c10 h
      refine lv_iload F.1 F.2.1 dX0_portToll_30 (lv_at hl 0 rfl) ?_
      replace h := zc_some h
      obtain ⟨r11, z12, hc13, h⟩ := h
      refine zr_calli (zrun_S (As := [.int v5]) (rest := []) zq_1551 zq_1552 zq_1553 zq_11 hdX0_netOfEntry (okX0_netOfEntry l D cy B ids hst N v5  hr.2.2 hc13) F hr hl.1 rfl (by decide) dX0_portToll_32 rfl rfl hroX0_portToll_X0_netOfEntry ⟨Nat.zero_le _, Nat.zero_le _⟩) F hA hr (fun H locs hw14 hr => ?_)
      clear hc13
      refine lv_iload_n F.1 F.2.1 dX0_portToll_35 rfl (lv_at hl 3 rfl) ?_
      refine lv_icmp_ne (tgt := 45) F.1 F.2.1 dX0_portToll_36 (by decide) (fun c15 => ?_) (fun c15 => ?_)
      · replace h := zi_t c15 h
        exact bX0_portToll_45 hst F hA E hK2 x0 x1 x2 x3 hx0 hr (lv_sub hl [1, 2, 3, 4] rfl) h
      · replace h := zi_f (fun q => q c15) h
        refine lv_iload F.1 F.2.1 dX0_portToll_39 (lv_at hl 0 rfl) ?_
        replace h := zc_some h
        obtain ⟨r16, z17, hc18, h⟩ := h
        refine zr_calli (zrun_S (As := [.int v5]) (rest := []) zq_1554 zq_1555 zq_1556 zq_11 hdX0_tollOf (okX0_tollOf l D cy B ids hst N v5  hr.2.2 hc18) F hr hl.1 rfl (by decide) dX0_portToll_41 rfl rfl hroX0_portToll_X0_tollOf ⟨Nat.zero_le _, Nat.zero_le _⟩) F hA hr (fun H locs hw19 hr => ?_)
        clear hc18
        obtain ⟨rfl, rfl⟩ := zret h
        exact E _ _ _ _ dX0_portToll_44 trivial hr
theorem lX0_portToll_2 (hst : zSt B ids) (F : zFx p m c cX0_portToll 5 s args RX0 D cy B ids A) (hA : ∀ q : Nat, s.heap.size ≤ q → A q) {r : Int32} {z' : St} (E : zEnd p l e rmX0_portToll s m args below meth c cX0_portToll D cy B ids A Q (some (.int r)) z' .ireturn True) {N : Nat}  : ∀ (n : Nat) (x0 : Nat) (x1 : Int32) (x2 : Int32) (x3 : Int32) (hx0 : (0, x0) ∈ ids) {z : St} {H : Heap} {locs : List Loc} {ls : Array Slot} (hr : zRep D cy B ids A s.heap z H locs) (hl : lv_has ls 5 [(0, .ref (B 0 x0)), (1, .int x1), (2, .int x2), (3, .int x3)]), fX0_portToll_2 N  n x0 x1 x2 x3 z = some (r, z') → W p l e rmX0_portToll s m args below meth c H locs 0 0 Q (F0 m 2 ls []) := by
  intro n
  induction n with
  | zero => intro x0 x1 x2 x3 hx0 z H locs ls hr hl h; cases h
  | succ n ih => intro x0 x1 x2 x3 hx0 z H locs ls hr hl h; exact bX0_portToll_2 hst F hA E ih x0 x1 x2 x3 hx0 hr hl h
def fX0_portToll (N : Nat)  (x0 : Nat) (x1 : Int32) (x2 : Int32) (z : St) : Option (Int32 × St) := fX0_portToll_2 N N x0 x1 x2 (0 : Int32) z
set_option maxHeartbeats 4000000 in
set_option maxRecDepth 100000 in
theorem bX0_portToll_0 (hst : zSt B ids) (F : zFx p m c cX0_portToll 5 s args RX0 D cy B ids A) (hA : ∀ q : Nat, s.heap.size ≤ q → A q) {r : Int32} {z' : St} (E : zEnd p l e rmX0_portToll s m args below meth c cX0_portToll D cy B ids A Q (some (.int r)) z' .ireturn True) {N : Nat}  (x0 : Nat) (x1 : Int32) (x2 : Int32) (hx0 : (0, x0) ∈ ids) {z : St} {H : Heap} {locs : List Loc} {ls : Array Slot} (hr : zRep D cy B ids A s.heap z H locs) (hl : lv_has ls 5 [(0, .ref (B 0 x0)), (1, .int x1), (2, .int x2)]) (h : fX0_portToll N x0 x1 x2 z = some (r, z')) : W p l e rmX0_portToll s m args below meth c H locs 0 0 Q (F0 m 0 ls []) := by
  unfold fX0_portToll at h
  refine lv_iconst (v := (0 : Int32)) F.1 F.2.1 dX0_portToll_0 (by decide) ?_
  refine lv_istore_n (lv' := [(3, .int (0 : Int32)), (0, .ref (B 0 x0)), (1, .int x1), (2, .int x2)]) F.1 F.2.1 dX0_portToll_1 rfl hl (by decide) rfl (fun ls hl => ?_)
  exact lX0_portToll_2 hst F hA E  _ x0 x1 x2 (0 : Int32) hx0 hr (lv_sub hl [1, 2, 3, 0] rfl) h
end SX0_portToll
set_option maxRecDepth 100000 in
theorem okX0_portToll (l : Launch) (D : va_G) (cy : Nat → ClassId) (B : Nat → Nat → Nat) (ids : List (Nat × Nat)) (hst : zSt B ids) (N : Nat) (x0 : Nat) (hx0 : (0, x0) ∈ ids) (x1 : Int32) (x2 : Int32) {z : St} {r : Int32} {z' : St} (hW : zWf ids z) (h : fX0_portToll N x0 x1 x2 z = some (r, z')) : zM l yX0_portToll (zws yX0_portToll cX0_portToll 5 (some .int)) rmX0_portToll D cy B ids [.ref (B 0 x0), .int x1, .int x2] (some (.int r)) True z z' :=
  zM_of hst hW (by decide +kernel) (Nat.le_of_ble_eq_true rfl) (fun p e s m args below meth c A ls F hA hret hlocks hr hl => bX0_portToll_0 hst F hA (zEnd_i F hret hlocks) x0 x1 x2 hx0 hr hl h)
abbrev rmX0_setWay : Room := { frames := 0, cells := 0, slots := 0, locals := 0 }
theorem hdX0_setWay : yX0_setWay.cls ≠ "java/lang/invoke/MethodHandle" ∧ yX0_setWay.cls ≠ "java/lang/invoke/VarHandle" ∧ (parseMethodDescriptor yX0_setWay.desc).map (fun d => d.parameters.length) = some 4 := by decide +kernel
section SX0_setWay
variable {p : Program} {l : Launch} {e : Env} {s : State} {m : MethodId} {args : Array Value} {below : List Frame} {meth : Method} {c : Code} {Q : State → Prop} {D : va_G} {cy : Nat → ClassId} {B : Nat → Nat → Nat} {ids : List (Nat × Nat)} {A : Nat → Prop}
def fX0_setWay (N : Nat)  (x0 : Nat) (x1 : Int32) (x2 : Int32) (x3 : Int32) (x4 : Int32) (z : St) : Option (Int32 × St) := zk x1 24 <| zl (zsA z 106 x0 (Int32.toNatClampNeg x1) x2) fun z2 => zk x1 24 <| zl (zsA z2 107 x0 (Int32.toNatClampNeg x1) x3) fun z4 => zk x1 24 <| zl (zsA z4 108 x0 (Int32.toNatClampNeg x1) x4) fun z6 => some (0, z6)
set_option maxHeartbeats 4000000 in
set_option maxRecDepth 100000 in
theorem bX0_setWay_0 (hst : zSt B ids) (F : zFx p m c cX0_setWay 5 s args RX0 D cy B ids A) (hA : ∀ q : Nat, s.heap.size ≤ q → A q) {r : Int32} {z' : St} (E : zEnd p l e rmX0_setWay s m args below meth c cX0_setWay D cy B ids A Q none z' .return_ True) {N : Nat}  (x0 : Nat) (x1 : Int32) (x2 : Int32) (x3 : Int32) (x4 : Int32) (hx0 : (0, x0) ∈ ids) {z : St} {H : Heap} {locs : List Loc} {ls : Array Slot} (hr : zRep D cy B ids A s.heap z H locs) (hl : lv_has ls 5 [(0, .ref (B 0 x0)), (1, .int x1), (2, .int x2), (3, .int x3), (4, .int x4)]) (h : fX0_setWay N x0 x1 x2 x3 x4 z = some (r, z')) : W p l e rmX0_setWay s m args below meth c H locs 0 0 Q (F0 m 0 ls []) := by
  unfold fX0_setWay at h
  refine lv_aload_n F.1 F.2.1 dX0_setWay_0 rfl (lv_at hl 0 rfl) ?_
  refine gf0_33 F hx0 hr dX0_setWay_1 ?_
  refine lv_iload_n F.1 F.2.1 dX0_setWay_4 rfl (lv_at hl 1 rfl) ?_
  refine lv_iload_n F.1 F.2.1 dX0_setWay_5 rfl (lv_at hl 2 rfl) ?_
  replace h := zk_some h
  obtain ⟨c1, h⟩ := h
  refine zr_iast (k := 106) (by decide) rfl (by decide) F (zal_a F hx0 (j := 10) rfl) hr dX0_setWay_6 c1 (fun H locs z2 ez2 hr => ?_)
  replace h := zl_sub ez2 h
  clear ez2
  refine lv_aload_n F.1 F.2.1 dX0_setWay_7 rfl (lv_at hl 0 rfl) ?_
  refine gf0_36 F hx0 hr dX0_setWay_8 ?_
  refine lv_iload_n F.1 F.2.1 dX0_setWay_11 rfl (lv_at hl 1 rfl) ?_
  refine lv_iload_n F.1 F.2.1 dX0_setWay_12 rfl (lv_at hl 3 rfl) ?_
  replace h := zk_some h
  obtain ⟨c3, h⟩ := h
  refine zr_iast (k := 107) (by decide) rfl (by decide) F (zal_a F hx0 (j := 11) rfl) hr dX0_setWay_13 c3 (fun H locs z4 ez4 hr => ?_)
  replace h := zl_sub ez4 h
  clear ez4
  refine lv_aload_n F.1 F.2.1 dX0_setWay_14 rfl (lv_at hl 0 rfl) ?_
  refine gf0_39 F hx0 hr dX0_setWay_15 ?_
  refine lv_iload_n F.1 F.2.1 dX0_setWay_18 rfl (lv_at hl 1 rfl) ?_
  refine lv_iload F.1 F.2.1 dX0_setWay_19 (lv_at hl 4 rfl) ?_
  replace h := zk_some h
  obtain ⟨c5, h⟩ := h
  refine zr_iast (k := 108) (by decide) rfl (by decide) F (zal_a F hx0 (j := 12) rfl) hr dX0_setWay_21 c5 (fun H locs z6 ez6 hr => ?_)
  replace h := zl_sub ez6 h
  clear ez6
  obtain ⟨rfl, rfl⟩ := zret h
  exact E _ _ _ _ dX0_setWay_22 trivial hr
end SX0_setWay
set_option maxRecDepth 100000 in
theorem okX0_setWay (l : Launch) (D : va_G) (cy : Nat → ClassId) (B : Nat → Nat → Nat) (ids : List (Nat × Nat)) (hst : zSt B ids) (N : Nat) (x0 : Nat) (hx0 : (0, x0) ∈ ids) (x1 : Int32) (x2 : Int32) (x3 : Int32) (x4 : Int32) {z : St} {r : Int32} {z' : St} (hW : zWf ids z) (h : fX0_setWay N x0 x1 x2 x3 x4 z = some (r, z')) : zM l yX0_setWay (zws yX0_setWay cX0_setWay 5 none) rmX0_setWay D cy B ids [.ref (B 0 x0), .int x1, .int x2, .int x3, .int x4] none True z z' :=
  zM_of hst hW (by decide +kernel) (Nat.le_of_ble_eq_true rfl) (fun p e s m args below meth c A ls F hA hret hlocks hr hl => bX0_setWay_0 hst F hA (zEnd_v F hret hlocks) x0 x1 x2 x3 x4 hx0 hr hl h)
abbrev rmX0_findFarWay : Room := { frames := 2, cells := 0, slots := 0, locals := 60 }
theorem hdX0_findFarWay : yX0_findFarWay.cls ≠ "java/lang/invoke/MethodHandle" ∧ yX0_findFarWay.cls ≠ "java/lang/invoke/VarHandle" ∧ (parseMethodDescriptor yX0_findFarWay.desc).map (fun d => d.parameters.length) = some 1 := by decide +kernel
theorem hroX0_findFarWay_X0_portToll : rmX0_portToll.frames + 1 ≤ rmX0_findFarWay.frames ∧ 8 + (5 + 11) + rmX0_portToll.locals ≤ rmX0_findFarWay.locals := by decide
theorem hroX0_findFarWay_X0_setWay : rmX0_setWay.frames + 1 ≤ rmX0_findFarWay.frames ∧ 8 + (5 + 11) + rmX0_setWay.locals ≤ rmX0_findFarWay.locals := by decide
section SX0_findFarWay
variable {p : Program} {l : Launch} {e : Env} {s : State} {m : MethodId} {args : Array Value} {below : List Frame} {meth : Method} {c : Code} {Q : State → Prop} {D : va_G} {cy : Nat → ClassId} {B : Nat → Nat → Nat} {ids : List (Nat × Nat)} {A : Nat → Prop}
def fX0_findFarWay_108 (N : Nat) (K8 : Nat → Int32 → Int32 → Int32 → Int32 → St → Option (Int32 × St)) (x0 : Nat) (x1 : Int32) (x2 : Int32) (x3 : Int32) (x4 : Int32) (z : St) : Option (Int32 × St) := zl (x4 + 1) fun v1 => K8 x0 x1 x2 x3 v1 z
set_option maxHeartbeats 4000000 in
set_option maxRecDepth 100000 in
theorem bX0_findFarWay_108 (hst : zSt B ids) (F : zFx p m c cX0_findFarWay 6 s args RX0 D cy B ids A) (hA : ∀ q : Nat, s.heap.size ≤ q → A q) {r : Int32} {z' : St} (E : zEnd p l e rmX0_findFarWay s m args below meth c cX0_findFarWay D cy B ids A Q none z' .return_ True) {N : Nat} {K8 : Nat → Int32 → Int32 → Int32 → Int32 → St → Option (Int32 × St)} (hK8 : ∀ (x0 : Nat) (x1 : Int32) (x2 : Int32) (x3 : Int32) (x4 : Int32) (hx0 : (0, x0) ∈ ids) {z : St} {H : Heap} {locs : List Loc} {ls : Array Slot} (hr : zRep D cy B ids A s.heap z H locs) (hl : lv_has ls 6 [(0, .ref (B 0 x0)), (1, .int x1), (2, .int x2), (3, .int x3), (4, .int x4)]), K8 x0 x1 x2 x3 x4 z = some (r, z') → W p l e rmX0_findFarWay s m args below meth c H locs 0 0 Q (F0 m 8 ls [])) (x0 : Nat) (x1 : Int32) (x2 : Int32) (x3 : Int32) (x4 : Int32) (hx0 : (0, x0) ∈ ids) {z : St} {H : Heap} {locs : List Loc} {ls : Array Slot} (hr : zRep D cy B ids A s.heap z H locs) (hl : lv_has ls 6 [(0, .ref (B 0 x0)), (1, .int x1), (2, .int x2), (3, .int x3), (4, .int x4)]) (h : fX0_findFarWay_108 N K8 x0 x1 x2 x3 x4 z = some (r, z')) : W p l e rmX0_findFarWay s m args below meth c H locs 0 0 Q (F0 m 108 ls []) := by
  unfold fX0_findFarWay_108 at h
  obtain ⟨v1, ev1⟩ : ∃ y : Int32, y = (x4 + 1) := ⟨_, rfl⟩
  replace h := zl_sub ev1 h
  refine lv_iinc (v := v1) (lv' := [(4, .int v1), (0, .ref (B 0 x0)), (1, .int x1), (2, .int x2), (3, .int x3)]) F.1 F.2.1 dX0_findFarWay_108 hl (k := 4) rfl (by rw [ev1]; rfl) (by decide) rfl (fun ls hl => ?_)
  refine lv_goto (tgt := 8) F.1 F.2.1 dX0_findFarWay_111 (by decide) ?_
  exact hK8 x0 x1 x2 x3 v1 hx0 hr (lv_sub hl [1, 2, 3, 4, 0] rfl) h
def fX0_findFarWay_96 (N : Nat) (K8 : Nat → Int32 → Int32 → Int32 → Int32 → St → Option (Int32 × St)) (x0 : Nat) (x1 : Int32) (x4 : Int32) (x5 : Int32) (s0 : Int32) (z : St) : Option (Int32 × St) := zk x4 16 <| zl ((zgA z 109 x0 (Int32.toNatClampNeg x4)) + x5) fun v2 => fX0_findFarWay_108 N K8 x0 x1 v2 s0 x4 z
set_option maxHeartbeats 4000000 in
set_option maxRecDepth 100000 in
theorem bX0_findFarWay_96 (hst : zSt B ids) (F : zFx p m c cX0_findFarWay 6 s args RX0 D cy B ids A) (hA : ∀ q : Nat, s.heap.size ≤ q → A q) {r : Int32} {z' : St} (E : zEnd p l e rmX0_findFarWay s m args below meth c cX0_findFarWay D cy B ids A Q none z' .return_ True) {N : Nat} {K8 : Nat → Int32 → Int32 → Int32 → Int32 → St → Option (Int32 × St)} (hK8 : ∀ (x0 : Nat) (x1 : Int32) (x2 : Int32) (x3 : Int32) (x4 : Int32) (hx0 : (0, x0) ∈ ids) {z : St} {H : Heap} {locs : List Loc} {ls : Array Slot} (hr : zRep D cy B ids A s.heap z H locs) (hl : lv_has ls 6 [(0, .ref (B 0 x0)), (1, .int x1), (2, .int x2), (3, .int x3), (4, .int x4)]), K8 x0 x1 x2 x3 x4 z = some (r, z') → W p l e rmX0_findFarWay s m args below meth c H locs 0 0 Q (F0 m 8 ls [])) (x0 : Nat) (x1 : Int32) (x4 : Int32) (x5 : Int32) (s0 : Int32) (hx0 : (0, x0) ∈ ids) {z : St} {H : Heap} {locs : List Loc} {ls : Array Slot} (hr : zRep D cy B ids A s.heap z H locs) (hl : lv_has ls 6 [(0, .ref (B 0 x0)), (1, .int x1), (4, .int x4), (5, .int x5)]) (h : fX0_findFarWay_96 N K8 x0 x1 x4 x5 s0 z = some (r, z')) : W p l e rmX0_findFarWay s m args below meth c H locs 0 0 Q (F0 m 96 ls [.int s0]) := by
  unfold fX0_findFarWay_96 at h
  refine lv_istore_n (lv' := [(3, .int s0), (0, .ref (B 0 x0)), (1, .int x1), (4, .int x4), (5, .int x5)]) F.1 F.2.1 dX0_findFarWay_96 rfl hl (by decide) rfl (fun ls hl => ?_)
  refine lv_aload_n F.1 F.2.1 dX0_findFarWay_97 rfl (lv_at hl 1 rfl) ?_
  refine gf0_42 F hx0 hr dX0_findFarWay_98 ?_
  refine lv_iload F.1 F.2.1 dX0_findFarWay_101 (lv_at hl 3 rfl) ?_
  replace h := zk_some h
  obtain ⟨c1, h⟩ := h
  refine zr_iald (k := 109) (by decide) rfl (by decide) F (zal_a F hx0 (j := 13) rfl) hr dX0_findFarWay_103 c1 ?_
  refine lv_iload F.1 F.2.1 dX0_findFarWay_104 (lv_at hl 4 rfl) ?_
  refine lv_iadd F.1 F.2.1 dX0_findFarWay_106 ?_
  refine lv_topi (fun v2 ev2 => ?_)
  replace h := zl_sub ev2 h
  refine lv_istore_n (lv' := [(2, .int v2), (3, .int s0), (0, .ref (B 0 x0)), (1, .int x1), (4, .int x4), (5, .int x5)]) F.1 F.2.1 dX0_findFarWay_107 rfl hl (by decide) rfl (fun ls hl => ?_)
  exact bX0_findFarWay_108 hst F hA E hK8 x0 x1 v2 s0 x4 hx0 hr (lv_sub hl [2, 3, 0, 1, 4] rfl) h
def fX0_findFarWay_8b (N : Nat) (K8 : Nat → Int32 → Int32 → Int32 → Int32 → St → Option (Int32 × St)) (x0 : Nat) (x1 : Int32) (x2 : Int32) (x3 : Int32) (x4 : Int32) (z : St) : Option (Int32 × St) := if (16 : Int32) ≤ x4 then (if 0 ≤ x3 then (zc (fX0_setWay N x0 x1 x2 (x3 - x3 / (16 : Int32) * (16 : Int32)) (x3 / (16 : Int32)) z) fun _ z4 => some (0, z4)) else (zc (fX0_setWay N x0 x1 (-1 : Int32) (-1 : Int32) (-1 : Int32) z) fun _ z8 => some (0, z8))) else (zk x4 16 <| if ¬ (zgA z 109 x0 (Int32.toNatClampNeg x4)) = (1000000000 : Int32) then (zc (fX0_portToll N x0 x4 x1 z) fun r13 z14 => if r13 = 0 then (fX0_findFarWay_108 N K8 x0 x1 x2 x3 x4 z14) else (zk x4 16 <| if ((zgA z14 109 x0 (Int32.toNatClampNeg x4)) + r13) ≤ x2 then (zk x4 16 <| if x2 ≤ ((zgA z14 109 x0 (Int32.toNatClampNeg x4)) + r13) then (zk x4 16 <| fX0_findFarWay_96 N K8 x0 x1 x4 r13 (if (zgA z14 111 x0 (Int32.toNatClampNeg x4)) < x3 then (zgA z14 111 x0 (Int32.toNatClampNeg x4)) else x3) z14) else (zk x4 16 <| fX0_findFarWay_96 N K8 x0 x1 x4 r13 (zgA z14 111 x0 (Int32.toNatClampNeg x4)) z14)) else (fX0_findFarWay_108 N K8 x0 x1 x2 x3 x4 z14))) else (fX0_findFarWay_108 N K8 x0 x1 x2 x3 x4 z))
def fX0_findFarWay_8 (N : Nat)  : Nat → Nat → Int32 → Int32 → Int32 → Int32 → St → Option (Int32 × St)
  | 0 => fun _ _ _ _ _ _ => none
  | n + 1 => fX0_findFarWay_8b N (fX0_findFarWay_8 N  n)
set_option maxHeartbeats 4000000 in
set_option maxRecDepth 100000 in
theorem bX0_findFarWay_8 (hst : zSt B ids) (F : zFx p m c cX0_findFarWay 6 s args RX0 D cy B ids A) (hA : ∀ q : Nat, s.heap.size ≤ q → A q) {r : Int32} {z' : St} (E : zEnd p l e rmX0_findFarWay s m args below meth c cX0_findFarWay D cy B ids A Q none z' .return_ True) {N : Nat} {K8 : Nat → Int32 → Int32 → Int32 → Int32 → St → Option (Int32 × St)} (hK8 : ∀ (x0 : Nat) (x1 : Int32) (x2 : Int32) (x3 : Int32) (x4 : Int32) (hx0 : (0, x0) ∈ ids) {z : St} {H : Heap} {locs : List Loc} {ls : Array Slot} (hr : zRep D cy B ids A s.heap z H locs) (hl : lv_has ls 6 [(0, .ref (B 0 x0)), (1, .int x1), (2, .int x2), (3, .int x3), (4, .int x4)]), K8 x0 x1 x2 x3 x4 z = some (r, z') → W p l e rmX0_findFarWay s m args below meth c H locs 0 0 Q (F0 m 8 ls [])) (x0 : Nat) (x1 : Int32) (x2 : Int32) (x3 : Int32) (x4 : Int32) (hx0 : (0, x0) ∈ ids) {z : St} {H : Heap} {locs : List Loc} {ls : Array Slot} (hr : zRep D cy B ids A s.heap z H locs) (hl : lv_has ls 6 [(0, .ref (B 0 x0)), (1, .int x1), (2, .int x2), (3, .int x3), (4, .int x4)]) (h : fX0_findFarWay_8b N K8 x0 x1 x2 x3 x4 z = some (r, z')) : W p l e rmX0_findFarWay s m args below meth c H locs 0 0 Q (F0 m 8 ls []) := by
  unfold fX0_findFarWay_8b at h
  refine lv_iload F.1 F.2.1 dX0_findFarWay_8 (lv_at hl 4 rfl) ?_
  refine lv_bipush (v := (16 : Int32)) F.1 F.2.1 dX0_findFarWay_10 (by decide) ?_
  refine lv_icmp_ge (tgt := 114) F.1 F.2.1 dX0_findFarWay_12 (by decide) (fun c1 => ?_) (fun c1 => ?_)
  · replace h := zi_t c1 h
    refine lv_iload_n F.1 F.2.1 dX0_findFarWay_114 rfl (lv_at hl 3 rfl) ?_
    refine lv_if_ge (tgt := 129) F.1 F.2.1 dX0_findFarWay_115 (by decide) (fun c2 => ?_) (fun c2 => ?_)
    · replace h := zi_t c2 h
      refine lv_aload_n F.1 F.2.1 dX0_findFarWay_129 rfl (lv_at hl 0 rfl) ?_
      refine lv_iload_n F.1 F.2.1 dX0_findFarWay_130 rfl (lv_at hl 1 rfl) ?_
      refine lv_iload_n F.1 F.2.1 dX0_findFarWay_131 rfl (lv_at hl 2 rfl) ?_
      refine lv_iload_n F.1 F.2.1 dX0_findFarWay_132 rfl (lv_at hl 3 rfl) ?_
      refine lv_bipush (v := (16 : Int32)) F.1 F.2.1 dX0_findFarWay_133 (by decide) ?_
      refine lv_irem F.1 F.2.1 dX0_findFarWay_135 (by decide) ?_
      refine lv_iload_n F.1 F.2.1 dX0_findFarWay_136 rfl (lv_at hl 3 rfl) ?_
      refine lv_bipush (v := (16 : Int32)) F.1 F.2.1 dX0_findFarWay_137 (by decide) ?_
      refine lv_idiv F.1 F.2.1 dX0_findFarWay_139 (by decide) ?_
      replace h := zc_some h
      obtain ⟨r3, z4, hc5, h⟩ := h
      refine zr_callv (zrun_V (As := [.int x1, .int x2, .int (x3 - x3 / (16 : Int32) * (16 : Int32)), .int (x3 / (16 : Int32))]) (rest := []) zq_1575 zq_1577 zs_X0_setWay zq_1578 zq_11 hdX0_setWay (by decide) (T := TX0) (N := 16) rfl (okX0_setWay l D cy B ids hst N x0 hx0 x1  x2  (x3 - x3 / (16 : Int32) * (16 : Int32))  (x3 / (16 : Int32))  hr.2.2 hc5) F hr hx0 hl.1 rfl (by decide) dX0_findFarWay_140 rfl rfl hroX0_findFarWay_X0_setWay ⟨Nat.zero_le _, Nat.zero_le _⟩) F hA hr (fun H locs hw6 hr => ?_)
      clear hc5
      obtain ⟨rfl, rfl⟩ := zret h
      exact E _ _ _ _ dX0_findFarWay_143 trivial hr
    · replace h := zi_f c2 h
      refine lv_aload_n F.1 F.2.1 dX0_findFarWay_118 rfl (lv_at hl 0 rfl) ?_
      refine lv_iload_n F.1 F.2.1 dX0_findFarWay_119 rfl (lv_at hl 1 rfl) ?_
      refine lv_iconst (v := (-1 : Int32)) F.1 F.2.1 dX0_findFarWay_120 (by decide) ?_
      refine lv_iconst (v := (-1 : Int32)) F.1 F.2.1 dX0_findFarWay_121 (by decide) ?_
      refine lv_iconst (v := (-1 : Int32)) F.1 F.2.1 dX0_findFarWay_122 (by decide) ?_
      replace h := zc_some h
      obtain ⟨r7, z8, hc9, h⟩ := h
      refine zr_callv (zrun_V (As := [.int x1, .int (-1 : Int32), .int (-1 : Int32), .int (-1 : Int32)]) (rest := []) zq_1575 zq_1577 zs_X0_setWay zq_1578 zq_11 hdX0_setWay (by decide) (T := TX0) (N := 16) rfl (okX0_setWay l D cy B ids hst N x0 hx0 x1  (-1 : Int32)  (-1 : Int32)  (-1 : Int32)  hr.2.2 hc9) F hr hx0 hl.1 rfl (by decide) dX0_findFarWay_123 rfl rfl hroX0_findFarWay_X0_setWay ⟨Nat.zero_le _, Nat.zero_le _⟩) F hA hr (fun H locs hw10 hr => ?_)
      clear hc9
      refine lv_goto (tgt := 143) F.1 F.2.1 dX0_findFarWay_126 (by decide) ?_
      obtain ⟨rfl, rfl⟩ := zret h
      exact E _ _ _ _ dX0_findFarWay_143 trivial hr
  · replace h := zi_f c1 h
    refine lv_aload_n F.1 F.2.1 dX0_findFarWay_15 rfl (lv_at hl 0 rfl) ?_
    refine gf0_42 F hx0 hr dX0_findFarWay_16 ?_
    refine lv_iload F.1 F.2.1 dX0_findFarWay_19 (lv_at hl 4 rfl) ?_
    replace h := zk_some h
    obtain ⟨c11, h⟩ := h
    refine zr_iald (k := 109) (by decide) rfl (by decide) F (zal_a F hx0 (j := 13) rfl) hr dX0_findFarWay_21 c11 ?_
    refine lv_ldc (v := (1000000000)) F.1 F.2.1 F.2.2.2.1 (F.2.2.2.2.1 _ zq_1565) dX0_findFarWay_22 ?_
    refine lv_icmp_ne (tgt := 30) F.1 F.2.1 dX0_findFarWay_24 (by decide) (fun c12 => ?_) (fun c12 => ?_)
    · replace h := zi_t c12 h
      refine lv_aload_n F.1 F.2.1 dX0_findFarWay_30 rfl (lv_at hl 0 rfl) ?_
      refine lv_iload F.1 F.2.1 dX0_findFarWay_31 (lv_at hl 4 rfl) ?_
      refine lv_iload_n F.1 F.2.1 dX0_findFarWay_33 rfl (lv_at hl 1 rfl) ?_
      replace h := zc_some h
      obtain ⟨r13, z14, hc15, h⟩ := h
      refine zr_calli (zrun_V (As := [.int x4, .int x1]) (rest := []) zq_1583 zq_1585 zs_X0_portToll zq_1586 zq_11 hdX0_portToll (by decide) (T := TX0) (N := 16) rfl (okX0_portToll l D cy B ids hst N x0 hx0 x4  x1  hr.2.2 hc15) F hr hx0 hl.1 rfl (by decide) dX0_findFarWay_34 rfl rfl hroX0_findFarWay_X0_portToll ⟨Nat.zero_le _, Nat.zero_le _⟩) F hA hr (fun H locs hw16 hr => ?_)
      clear hc15
      refine lv_istore (lv' := [(5, .int r13), (0, .ref (B 0 x0)), (1, .int x1), (2, .int x2), (3, .int x3), (4, .int x4)]) F.1 F.2.1 dX0_findFarWay_37 hl (by decide) rfl (fun ls hl => ?_)
      refine lv_iload F.1 F.2.1 dX0_findFarWay_39 (lv_at hl 0 rfl) ?_
      refine lv_if_eq (tgt := 108) F.1 F.2.1 dX0_findFarWay_41 (by decide) (fun c17 => ?_) (fun c17 => ?_)
      · replace h := zi_t c17 h
        exact bX0_findFarWay_108 hst F hA E hK8 x0 x1 x2 x3 x4 hx0 hr (lv_sub hl [1, 2, 3, 4, 5] rfl) h
      · replace h := zi_f c17 h
        refine lv_aload_n F.1 F.2.1 dX0_findFarWay_44 rfl (lv_at hl 1 rfl) ?_
        refine gf0_42 F hx0 hr dX0_findFarWay_45 ?_
        refine lv_iload F.1 F.2.1 dX0_findFarWay_48 (lv_at hl 5 rfl) ?_
        replace h := zk_some h
        obtain ⟨c18, h⟩ := h
        refine zr_iald (k := 109) (by decide) rfl (by decide) F (zal_a F hx0 (j := 13) rfl) hr dX0_findFarWay_50 c18 ?_
        refine lv_iload F.1 F.2.1 dX0_findFarWay_51 (lv_at hl 0 rfl) ?_
        refine lv_iadd F.1 F.2.1 dX0_findFarWay_53 ?_
        refine lv_iload_n F.1 F.2.1 dX0_findFarWay_54 rfl (lv_at hl 3 rfl) ?_
        refine lv_icmp_le (tgt := 61) F.1 F.2.1 dX0_findFarWay_55 (by decide) (fun c19 => ?_) (fun c19 => ?_)
        · replace h := zi_t c19 h
          refine lv_aload_n F.1 F.2.1 dX0_findFarWay_61 rfl (lv_at hl 1 rfl) ?_
          refine gf0_42 F hx0 hr dX0_findFarWay_62 ?_
          refine lv_iload F.1 F.2.1 dX0_findFarWay_65 (lv_at hl 5 rfl) ?_
          replace h := zk_some h
          obtain ⟨c20, h⟩ := h
          refine zr_iald (k := 109) (by decide) rfl (by decide) F (zal_a F hx0 (j := 13) rfl) hr dX0_findFarWay_67 c20 ?_
          refine lv_iload F.1 F.2.1 dX0_findFarWay_68 (lv_at hl 0 rfl) ?_
          refine lv_iadd F.1 F.2.1 dX0_findFarWay_70 ?_
          refine lv_iload_n F.1 F.2.1 dX0_findFarWay_71 rfl (lv_at hl 3 rfl) ?_
          refine lv_icmp_ge (tgt := 85) F.1 F.2.1 dX0_findFarWay_72 (by decide) (fun c21 => ?_) (fun c21 => ?_)
          · replace h := zi_t c21 h
            refine lv_iload_n F.1 F.2.1 dX0_findFarWay_85 rfl (lv_at hl 4 rfl) ?_
            refine lv_aload_n F.1 F.2.1 dX0_findFarWay_86 rfl (lv_at hl 1 rfl) ?_
            refine gf0_49 F hx0 hr dX0_findFarWay_87 ?_
            refine lv_iload F.1 F.2.1 dX0_findFarWay_90 (lv_at hl 5 rfl) ?_
            replace h := zk_some h
            obtain ⟨c22, h⟩ := h
            refine zr_iald (k := 111) (by decide) rfl (by decide) F (zal_a F hx0 (j := 15) rfl) hr dX0_findFarWay_92 c22 ?_
            refine va_mmin F.1 F.2.1 (F.2.2.1.trans hl.1.symm) F.2.2.2.1 (F.2.2.2.2.1 _ zq_1194) (F.2.2.2.2.1 _ zq_304) (F.2.2.2.2.1 _ zq_27) (F.2.2.2.2.1 _ zq_305) (Nat.le_of_ble_eq_true rfl) (Nat.le_of_ble_eq_true rfl) (Nat.zero_le _) (Nat.zero_le _) dX0_findFarWay_93 ?_
            exact bX0_findFarWay_96 hst F hA E hK8 x0 x1 x4 r13 (if (zgA z14 111 x0 (Int32.toNatClampNeg x4)) < x3 then (zgA z14 111 x0 (Int32.toNatClampNeg x4)) else x3) hx0 hr (lv_sub hl [1, 2, 5, 0] rfl) h
          · replace h := zi_f c21 h
            refine lv_aload_n F.1 F.2.1 dX0_findFarWay_75 rfl (lv_at hl 1 rfl) ?_
            refine gf0_49 F hx0 hr dX0_findFarWay_76 ?_
            refine lv_iload F.1 F.2.1 dX0_findFarWay_79 (lv_at hl 5 rfl) ?_
            replace h := zk_some h
            obtain ⟨c23, h⟩ := h
            refine zr_iald (k := 111) (by decide) rfl (by decide) F (zal_a F hx0 (j := 15) rfl) hr dX0_findFarWay_81 c23 ?_
            refine lv_goto (tgt := 96) F.1 F.2.1 dX0_findFarWay_82 (by decide) ?_
            exact bX0_findFarWay_96 hst F hA E hK8 x0 x1 x4 r13 (zgA z14 111 x0 (Int32.toNatClampNeg x4)) hx0 hr (lv_sub hl [1, 2, 5, 0] rfl) h
        · replace h := zi_f c19 h
          refine lv_goto (tgt := 108) F.1 F.2.1 dX0_findFarWay_58 (by decide) ?_
          exact bX0_findFarWay_108 hst F hA E hK8 x0 x1 x2 x3 x4 hx0 hr (lv_sub hl [1, 2, 3, 4, 5] rfl) h
    · replace h := zi_f (fun q => q c12) h
      refine lv_goto (tgt := 108) F.1 F.2.1 dX0_findFarWay_27 (by decide) ?_
      exact bX0_findFarWay_108 hst F hA E hK8 x0 x1 x2 x3 x4 hx0 hr (lv_sub hl [0, 1, 2, 3, 4] rfl) h
theorem lX0_findFarWay_8 (hst : zSt B ids) (F : zFx p m c cX0_findFarWay 6 s args RX0 D cy B ids A) (hA : ∀ q : Nat, s.heap.size ≤ q → A q) {r : Int32} {z' : St} (E : zEnd p l e rmX0_findFarWay s m args below meth c cX0_findFarWay D cy B ids A Q none z' .return_ True) {N : Nat}  : ∀ (n : Nat) (x0 : Nat) (x1 : Int32) (x2 : Int32) (x3 : Int32) (x4 : Int32) (hx0 : (0, x0) ∈ ids) {z : St} {H : Heap} {locs : List Loc} {ls : Array Slot} (hr : zRep D cy B ids A s.heap z H locs) (hl : lv_has ls 6 [(0, .ref (B 0 x0)), (1, .int x1), (2, .int x2), (3, .int x3), (4, .int x4)]), fX0_findFarWay_8 N  n x0 x1 x2 x3 x4 z = some (r, z') → W p l e rmX0_findFarWay s m args below meth c H locs 0 0 Q (F0 m 8 ls []) := by
  intro n
  induction n with
  | zero => intro x0 x1 x2 x3 x4 hx0 z H locs ls hr hl h; cases h
  | succ n ih => intro x0 x1 x2 x3 x4 hx0 z H locs ls hr hl h; exact bX0_findFarWay_8 hst F hA E ih x0 x1 x2 x3 x4 hx0 hr hl h
def fX0_findFarWay (N : Nat)  (x0 : Nat) (x1 : Int32) (z : St) : Option (Int32 × St) := fX0_findFarWay_8 N N x0 x1 (1000000000 : Int32) (-1 : Int32) (0 : Int32) z
set_option maxHeartbeats 4000000 in
set_option maxRecDepth 100000 in
theorem bX0_findFarWay_0 (hst : zSt B ids) (F : zFx p m c cX0_findFarWay 6 s args RX0 D cy B ids A) (hA : ∀ q : Nat, s.heap.size ≤ q → A q) {r : Int32} {z' : St} (E : zEnd p l e rmX0_findFarWay s m args below meth c cX0_findFarWay D cy B ids A Q none z' .return_ True) {N : Nat}  (x0 : Nat) (x1 : Int32) (hx0 : (0, x0) ∈ ids) {z : St} {H : Heap} {locs : List Loc} {ls : Array Slot} (hr : zRep D cy B ids A s.heap z H locs) (hl : lv_has ls 6 [(0, .ref (B 0 x0)), (1, .int x1)]) (h : fX0_findFarWay N x0 x1 z = some (r, z')) : W p l e rmX0_findFarWay s m args below meth c H locs 0 0 Q (F0 m 0 ls []) := by
  unfold fX0_findFarWay at h
  refine lv_ldc (v := (1000000000)) F.1 F.2.1 F.2.2.2.1 (F.2.2.2.2.1 _ zq_1565) dX0_findFarWay_0 ?_
  refine lv_istore_n (lv' := [(2, .int (1000000000 : Int32)), (0, .ref (B 0 x0)), (1, .int x1)]) F.1 F.2.1 dX0_findFarWay_2 rfl hl (by decide) rfl (fun ls hl => ?_)
  refine lv_iconst (v := (-1 : Int32)) F.1 F.2.1 dX0_findFarWay_3 (by decide) ?_
  refine lv_istore_n (lv' := [(3, .int (-1 : Int32)), (2, .int (1000000000 : Int32)), (0, .ref (B 0 x0)), (1, .int x1)]) F.1 F.2.1 dX0_findFarWay_4 rfl hl (by decide) rfl (fun ls hl => ?_)
  refine lv_iconst (v := (0 : Int32)) F.1 F.2.1 dX0_findFarWay_5 (by decide) ?_
  refine lv_istore (lv' := [(4, .int (0 : Int32)), (3, .int (-1 : Int32)), (2, .int (1000000000 : Int32)), (0, .ref (B 0 x0)), (1, .int x1)]) F.1 F.2.1 dX0_findFarWay_6 hl (by decide) rfl (fun ls hl => ?_)
  exact lX0_findFarWay_8 hst F hA E  _ x0 x1 (1000000000 : Int32) (-1 : Int32) (0 : Int32) hx0 hr (lv_sub hl [3, 4, 2, 1, 0] rfl) h
end SX0_findFarWay
set_option maxRecDepth 100000 in
theorem okX0_findFarWay (l : Launch) (D : va_G) (cy : Nat → ClassId) (B : Nat → Nat → Nat) (ids : List (Nat × Nat)) (hst : zSt B ids) (N : Nat) (x0 : Nat) (hx0 : (0, x0) ∈ ids) (x1 : Int32) {z : St} {r : Int32} {z' : St} (hW : zWf ids z) (h : fX0_findFarWay N x0 x1 z = some (r, z')) : zM l yX0_findFarWay (zws yX0_findFarWay cX0_findFarWay 6 none) rmX0_findFarWay D cy B ids [.ref (B 0 x0), .int x1] none True z z' :=
  zM_of hst hW (by decide +kernel) (Nat.le_of_ble_eq_true rfl) (fun p e s m args below meth c A ls F hA hret hlocks hr hl => bX0_findFarWay_0 hst F hA (zEnd_v F hret hlocks) x0 x1 hx0 hr hl h)
abbrev rmX1_portOn : Room := { frames := 0, cells := 0, slots := 0, locals := 0 }
theorem hdX1_portOn : yX1_portOn.cls ≠ "java/lang/invoke/MethodHandle" ∧ yX1_portOn.cls ≠ "java/lang/invoke/VarHandle" ∧ (parseMethodDescriptor yX1_portOn.desc).map (fun d => d.parameters.length) = some 1 := by decide +kernel
section SX1_portOn
variable {p : Program} {l : Launch} {e : Env} {s : State} {m : MethodId} {args : Array Value} {below : List Frame} {meth : Method} {c : Code} {Q : State → Prop} {D : va_G} {cy : Nat → ClassId} {B : Nat → Nat → Nat} {ids : List (Nat × Nat)} {A : Nat → Prop}
def fX1_portOn_2b (N : Nat) (K2 : Nat → Int32 → Int32 → St → Option (Option Nat × St)) (x0 : Nat) (x1 : Int32) (x2 : Int32) (z : St) : Option (Option Nat × St) := if (zgI z 1 3 x0) ≤ x2 then (some (none, z)) else (zk x2 6 <| zl (zgQ z 112 x0 (Int32.toNatClampNeg x2)) fun y3 => zd y3 fun a4 => zl (zgR z 8 1 a4) fun y5 => zd y5 fun a6 => if ¬ (zgI z 5 0 a6) = x1 then (zl (x2 + 1) fun v8 => K2 x0 x1 v8 z) else (zk x2 6 <| zl (zgQ z 112 x0 (Int32.toNatClampNeg x2)) fun y10 => some (y10, z)))
def fX1_portOn_2 (N : Nat)  : Nat → Nat → Int32 → Int32 → St → Option (Option Nat × St)
  | 0 => fun _ _ _ _ => none
  | n + 1 => fX1_portOn_2b N (fX1_portOn_2 N  n)
set_option maxHeartbeats 4000000 in
set_option maxRecDepth 100000 in
theorem bX1_portOn_2 (hst : zSt B ids) (F : zFx p m c cX1_portOn 3 s args RX1 D cy B ids A) (hA : ∀ q : Nat, s.heap.size ≤ q → A q) {r : Option Nat} {z' : St} (E : zEnd p l e rmX1_portOn s m args below meth c cX1_portOn D cy B ids A Q (some (va_rf (r.map (B 8)))) z' .areturn (∀ i, r = some i → (8, i) ∈ ids)) {N : Nat} {K2 : Nat → Int32 → Int32 → St → Option (Option Nat × St)} (hK2 : ∀ (x0 : Nat) (x1 : Int32) (x2 : Int32) (hx0 : (1, x0) ∈ ids) {z : St} {H : Heap} {locs : List Loc} {ls : Array Slot} (hr : zRep D cy B ids A s.heap z H locs) (hl : lv_has ls 3 [(0, .ref (B 1 x0)), (1, .int x1), (2, .int x2)]), K2 x0 x1 x2 z = some (r, z') → W p l e rmX1_portOn s m args below meth c H locs 0 0 Q (F0 m 2 ls [])) (x0 : Nat) (x1 : Int32) (x2 : Int32) (hx0 : (1, x0) ∈ ids) {z : St} {H : Heap} {locs : List Loc} {ls : Array Slot} (hr : zRep D cy B ids A s.heap z H locs) (hl : lv_has ls 3 [(0, .ref (B 1 x0)), (1, .int x1), (2, .int x2)]) (h : fX1_portOn_2b N K2 x0 x1 x2 z = some (r, z')) : W p l e rmX1_portOn s m args below meth c H locs 0 0 Q (F0 m 2 ls []) := by
  unfold fX1_portOn_2b at h
  refine lv_iload_n F.1 F.2.1 dX1_portOn_2 rfl (lv_at hl 2 rfl) ?_
  refine lv_aload_n F.1 F.2.1 dX1_portOn_3 rfl (lv_at hl 0 rfl) ?_
  refine gf1_63 F hx0 hr dX1_portOn_4 ?_
  refine lv_icmp_ge (tgt := 39) F.1 F.2.1 dX1_portOn_7 (by decide) (fun c1 => ?_) (fun c1 => ?_)
  · replace h := zi_t c1 h
    refine lv_null F.1 F.2.1 dX1_portOn_39 ?_
    obtain ⟨rfl, rfl⟩ := zret h
    exact E _ _ _ _ dX1_portOn_40 zal_0 hr
  · replace h := zi_f c1 h
    refine lv_aload_n F.1 F.2.1 dX1_portOn_10 rfl (lv_at hl 0 rfl) ?_
    refine gf1_11 F hx0 hr dX1_portOn_11 ?_
    refine lv_iload_n F.1 F.2.1 dX1_portOn_14 rfl (lv_at hl 2 rfl) ?_
    replace h := zk_some h
    obtain ⟨c2, h⟩ := h
    refine zr_aaldv (k := 112) (by decide) rfl rfl (zlen_d (by decide)) F (zal_a F hx0 (j := 2) rfl) hr dX1_portOn_15 c2 (fun y3 ey3 => ?_)
    replace h := zl_sub ey3 h
    have hy3 := zal_q hr (zal_a F hx0 (j := 2) rfl) rfl ey3
    clear ey3
    replace h := zd_some h
    obtain ⟨a4, rfl, h⟩ := h
    refine gf1_66 F (hy3 _ rfl) hr dX1_portOn_16 (fun y5 ey5 => ?_)
    replace h := zl_sub ey5 h
    have hy5 := zal_g hr (hy3 _ rfl) (j := 1) rfl ey5
    clear ey5
    replace h := zd_some h
    obtain ⟨a6, rfl, h⟩ := h
    refine gf1_70 F (hy5 _ rfl) hr dX1_portOn_19 ?_
    refine lv_iload_n F.1 F.2.1 dX1_portOn_22 rfl (lv_at hl 1 rfl) ?_
    refine lv_icmp_ne (tgt := 33) F.1 F.2.1 dX1_portOn_23 (by decide) (fun c7 => ?_) (fun c7 => ?_)
    · replace h := zi_t c7 h
      obtain ⟨v8, ev8⟩ : ∃ y : Int32, y = (x2 + 1) := ⟨_, rfl⟩
      replace h := zl_sub ev8 h
      refine lv_iinc (v := v8) (lv' := [(2, .int v8), (0, .ref (B 1 x0)), (1, .int x1)]) F.1 F.2.1 dX1_portOn_33 hl (k := 2) rfl (by rw [ev8]; rfl) (by decide) rfl (fun ls hl => ?_)
      refine lv_goto (tgt := 2) F.1 F.2.1 dX1_portOn_36 (by decide) ?_
      exact hK2 x0 x1 v8 hx0 hr (lv_sub hl [1, 2, 0] rfl) h
    · replace h := zi_f (fun q => q c7) h
      refine lv_aload_n F.1 F.2.1 dX1_portOn_26 rfl (lv_at hl 0 rfl) ?_
      refine gf1_11 F hx0 hr dX1_portOn_27 ?_
      refine lv_iload_n F.1 F.2.1 dX1_portOn_30 rfl (lv_at hl 2 rfl) ?_
      replace h := zk_some h
      obtain ⟨c9, h⟩ := h
      refine zr_aaldv (k := 112) (by decide) rfl rfl (zlen_d (by decide)) F (zal_a F hx0 (j := 2) rfl) hr dX1_portOn_31 c9 (fun y10 ey10 => ?_)
      replace h := zl_sub ey10 h
      have hy10 := zal_q hr (zal_a F hx0 (j := 2) rfl) rfl ey10
      clear ey10
      obtain ⟨rfl, rfl⟩ := zret h
      exact E _ _ _ _ dX1_portOn_32 hy10 hr
theorem lX1_portOn_2 (hst : zSt B ids) (F : zFx p m c cX1_portOn 3 s args RX1 D cy B ids A) (hA : ∀ q : Nat, s.heap.size ≤ q → A q) {r : Option Nat} {z' : St} (E : zEnd p l e rmX1_portOn s m args below meth c cX1_portOn D cy B ids A Q (some (va_rf (r.map (B 8)))) z' .areturn (∀ i, r = some i → (8, i) ∈ ids)) {N : Nat}  : ∀ (n : Nat) (x0 : Nat) (x1 : Int32) (x2 : Int32) (hx0 : (1, x0) ∈ ids) {z : St} {H : Heap} {locs : List Loc} {ls : Array Slot} (hr : zRep D cy B ids A s.heap z H locs) (hl : lv_has ls 3 [(0, .ref (B 1 x0)), (1, .int x1), (2, .int x2)]), fX1_portOn_2 N  n x0 x1 x2 z = some (r, z') → W p l e rmX1_portOn s m args below meth c H locs 0 0 Q (F0 m 2 ls []) := by
  intro n
  induction n with
  | zero => intro x0 x1 x2 hx0 z H locs ls hr hl h; cases h
  | succ n ih => intro x0 x1 x2 hx0 z H locs ls hr hl h; exact bX1_portOn_2 hst F hA E ih x0 x1 x2 hx0 hr hl h
def fX1_portOn (N : Nat)  (x0 : Nat) (x1 : Int32) (z : St) : Option (Option Nat × St) := fX1_portOn_2 N N x0 x1 (0 : Int32) z
set_option maxHeartbeats 4000000 in
set_option maxRecDepth 100000 in
theorem bX1_portOn_0 (hst : zSt B ids) (F : zFx p m c cX1_portOn 3 s args RX1 D cy B ids A) (hA : ∀ q : Nat, s.heap.size ≤ q → A q) {r : Option Nat} {z' : St} (E : zEnd p l e rmX1_portOn s m args below meth c cX1_portOn D cy B ids A Q (some (va_rf (r.map (B 8)))) z' .areturn (∀ i, r = some i → (8, i) ∈ ids)) {N : Nat}  (x0 : Nat) (x1 : Int32) (hx0 : (1, x0) ∈ ids) {z : St} {H : Heap} {locs : List Loc} {ls : Array Slot} (hr : zRep D cy B ids A s.heap z H locs) (hl : lv_has ls 3 [(0, .ref (B 1 x0)), (1, .int x1)]) (h : fX1_portOn N x0 x1 z = some (r, z')) : W p l e rmX1_portOn s m args below meth c H locs 0 0 Q (F0 m 0 ls []) := by
  unfold fX1_portOn at h
  refine lv_iconst (v := (0 : Int32)) F.1 F.2.1 dX1_portOn_0 (by decide) ?_
  refine lv_istore_n (lv' := [(2, .int (0 : Int32)), (0, .ref (B 1 x0)), (1, .int x1)]) F.1 F.2.1 dX1_portOn_1 rfl hl (by decide) rfl (fun ls hl => ?_)
  exact lX1_portOn_2 hst F hA E  _ x0 x1 (0 : Int32) hx0 hr (lv_sub hl [1, 2, 0] rfl) h
end SX1_portOn
set_option maxRecDepth 100000 in
theorem okX1_portOn (l : Launch) (D : va_G) (cy : Nat → ClassId) (B : Nat → Nat → Nat) (ids : List (Nat × Nat)) (hst : zSt B ids) (N : Nat) (x0 : Nat) (hx0 : (1, x0) ∈ ids) (x1 : Int32) {z : St} {r : Option Nat} {z' : St} (hW : zWf ids z) (h : fX1_portOn N x0 x1 z = some (r, z')) : zM l yX1_portOn (zws yX1_portOn cX1_portOn 3 (some (.object "WholeInternet$Port"))) rmX1_portOn D cy B ids [.ref (B 1 x0), .int x1] (some (va_rf (r.map (B 8)))) (∀ i, r = some i → (8, i) ∈ ids) z z' :=
  zM_of hst hW (by decide +kernel) (Nat.le_of_ble_eq_true rfl) (fun p e s m args below meth c A ls F hA hret hlocks hr hl => bX1_portOn_0 hst F hA (zEnd_r F hret hlocks) x0 x1 hx0 hr hl h)
