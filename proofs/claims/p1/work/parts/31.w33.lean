abbrev rmX19_farWay : Room := { frames := 3, cells := 0, slots := 0, locals := 70 }
theorem hdX19_farWay : yX19_farWay.cls ≠ "java/lang/invoke/MethodHandle" ∧ yX19_farWay.cls ≠ "java/lang/invoke/VarHandle" ∧ (parseMethodDescriptor yX19_farWay.desc).map (fun d => d.parameters.length) = some 2 := by decide +kernel
theorem hroX19_farWay_X19_ad : rmX19_ad.frames + 1 ≤ rmX19_farWay.frames ∧ 8 + (3 + 11) + rmX19_ad.locals ≤ rmX19_farWay.locals := by decide
theorem hroX19_farWay_X19_costOn : rmX19_costOn.frames + 1 ≤ rmX19_farWay.frames ∧ 8 + (4 + 11) + rmX19_costOn.locals ≤ rmX19_farWay.locals := by decide
theorem hroX19_farWay_X19_costTo : rmX19_costTo.frames + 1 ≤ rmX19_farWay.frames ∧ 8 + (5 + 11) + rmX19_costTo.locals ≤ rmX19_farWay.locals := by decide
theorem hroX19_farWay_X19_friendRow : rmX19_friendRow.frames + 1 ≤ rmX19_farWay.frames ∧ 8 + (4 + 11) + rmX19_friendRow.locals ≤ rmX19_farWay.locals := by decide
section SX19_farWay
variable {p : Program} {l : Launch} {e : Env} {s : State} {m : MethodId} {args : Array Value} {below : List Frame} {meth : Method} {c : Code} {Q : State → Prop} {D : va_G} {cy : Nat → ClassId} {B : Nat → Nat → Nat} {ids : List (Nat × Nat)} {A : Nat → Prop}
def fX19_farWay_75 (N : Nat) (K7 : Nat → Nat → Int32 → Int32 → Int32 → St → Option (Int32 × St)) (x0 : Nat) (x1 : Nat) (x2 : Int32) (x3 : Int32) (x4 : Int32) (z : St) : Option (Int32 × St) := zl (x4 + 1) fun v1 => K7 x0 x1 x2 x3 v1 z
set_option maxHeartbeats 4000000 in
set_option maxRecDepth 100000 in
theorem bX19_farWay_75 (hst : zSt B ids) (F : zFx p m c cX19_farWay 11 s args RX19 D cy B ids A) (hA : ∀ q : Nat, s.heap.size ≤ q → A q) {r : Int32} {z' : St} (E : zEnd p l e rmX19_farWay s m args below meth c cX19_farWay D cy B ids A Q none z' .return_ True) {N : Nat} {K7 : Nat → Nat → Int32 → Int32 → Int32 → St → Option (Int32 × St)} (hK7 : ∀ (x0 : Nat) (x1 : Nat) (x2 : Int32) (x3 : Int32) (x4 : Int32) (hx0 : (19, x0) ∈ ids) (hx1 : (12, x1) ∈ ids) {z : St} {H : Heap} {locs : List Loc} {ls : Array Slot} (hr : zRep D cy B ids A s.heap z H locs) (hl : lv_has ls 11 [(0, .ref (B 19 x0)), (1, .ref (B 12 x1)), (2, .int x2), (3, .int x3), (4, .int x4)]), K7 x0 x1 x2 x3 x4 z = some (r, z') → W p l e rmX19_farWay s m args below meth c H locs 0 0 Q (F0 m 7 ls [])) (x0 : Nat) (x1 : Nat) (x2 : Int32) (x3 : Int32) (x4 : Int32) (hx0 : (19, x0) ∈ ids) (hx1 : (12, x1) ∈ ids) {z : St} {H : Heap} {locs : List Loc} {ls : Array Slot} (hr : zRep D cy B ids A s.heap z H locs) (hl : lv_has ls 11 [(0, .ref (B 19 x0)), (1, .ref (B 12 x1)), (2, .int x2), (3, .int x3), (4, .int x4)]) (h : fX19_farWay_75 N K7 x0 x1 x2 x3 x4 z = some (r, z')) : W p l e rmX19_farWay s m args below meth c H locs 0 0 Q (F0 m 75 ls []) := by
  unfold fX19_farWay_75 at h
  obtain ⟨v1, ev1⟩ : ∃ y : Int32, y = (x4 + 1) := ⟨_, rfl⟩
  replace h := zl_sub ev1 h
  refine lv_iinc (v := v1) (lv' := [(4, .int v1), (0, .ref (B 19 x0)), (1, .ref (B 12 x1)), (2, .int x2), (3, .int x3)]) F.1 F.2.1 dX19_farWay_75 hl (k := 4) rfl (by rw [ev1]; rfl) (by decide) rfl (fun ls hl => ?_)
  refine lv_goto (tgt := 7) F.1 F.2.1 dX19_farWay_78 (by decide) ?_
  exact hK7 x0 x1 x2 x3 v1 hx0 hx1 hr (lv_sub hl [1, 2, 3, 4, 0] rfl) h
def fX19_farWay_311 (N : Nat) (K121 : Nat → Nat → Int32 → Int32 → Int32 → Int32 → St → Option (Int32 × St)) (K207 : Nat → Nat → Int32 → Int32 → Int32 → Int32 → Int32 → Int32 → Int32 → Int32 → St → Option (Int32 × St)) (x0 : Nat) (x1 : Nat) (x2 : Int32) (x3 : Int32) (x4 : Int32) (x5 : Int32) (x6 : Int32) (x7 : Int32) (x8 : Int32) (x9 : Int32) (z : St) : Option (Int32 × St) := zl (x9 + 1) fun v1 => K207 x0 x1 x2 x3 x4 x5 x6 x7 x8 v1 z
set_option maxHeartbeats 4000000 in
set_option maxRecDepth 100000 in
theorem bX19_farWay_311 (hst : zSt B ids) (F : zFx p m c cX19_farWay 11 s args RX19 D cy B ids A) (hA : ∀ q : Nat, s.heap.size ≤ q → A q) {r : Int32} {z' : St} (E : zEnd p l e rmX19_farWay s m args below meth c cX19_farWay D cy B ids A Q none z' .return_ True) {N : Nat} {K121 : Nat → Nat → Int32 → Int32 → Int32 → Int32 → St → Option (Int32 × St)} {K207 : Nat → Nat → Int32 → Int32 → Int32 → Int32 → Int32 → Int32 → Int32 → Int32 → St → Option (Int32 × St)} (hK121 : ∀ (x0 : Nat) (x1 : Nat) (x2 : Int32) (x3 : Int32) (x4 : Int32) (x5 : Int32) (hx0 : (19, x0) ∈ ids) (hx1 : (12, x1) ∈ ids) {z : St} {H : Heap} {locs : List Loc} {ls : Array Slot} (hr : zRep D cy B ids A s.heap z H locs) (hl : lv_has ls 11 [(0, .ref (B 19 x0)), (1, .ref (B 12 x1)), (2, .int x2), (3, .int x3), (4, .int x4), (5, .int x5)]), K121 x0 x1 x2 x3 x4 x5 z = some (r, z') → W p l e rmX19_farWay s m args below meth c H locs 0 0 Q (F0 m 121 ls [])) (hK207 : ∀ (x0 : Nat) (x1 : Nat) (x2 : Int32) (x3 : Int32) (x4 : Int32) (x5 : Int32) (x6 : Int32) (x7 : Int32) (x8 : Int32) (x9 : Int32) (hx0 : (19, x0) ∈ ids) (hx1 : (12, x1) ∈ ids) {z : St} {H : Heap} {locs : List Loc} {ls : Array Slot} (hr : zRep D cy B ids A s.heap z H locs) (hl : lv_has ls 11 [(0, .ref (B 19 x0)), (1, .ref (B 12 x1)), (2, .int x2), (3, .int x3), (4, .int x4), (5, .int x5), (6, .int x6), (7, .int x7), (8, .int x8), (9, .int x9)]), K207 x0 x1 x2 x3 x4 x5 x6 x7 x8 x9 z = some (r, z') → W p l e rmX19_farWay s m args below meth c H locs 0 0 Q (F0 m 207 ls [])) (x0 : Nat) (x1 : Nat) (x2 : Int32) (x3 : Int32) (x4 : Int32) (x5 : Int32) (x6 : Int32) (x7 : Int32) (x8 : Int32) (x9 : Int32) (hx0 : (19, x0) ∈ ids) (hx1 : (12, x1) ∈ ids) {z : St} {H : Heap} {locs : List Loc} {ls : Array Slot} (hr : zRep D cy B ids A s.heap z H locs) (hl : lv_has ls 11 [(0, .ref (B 19 x0)), (1, .ref (B 12 x1)), (2, .int x2), (3, .int x3), (4, .int x4), (5, .int x5), (6, .int x6), (7, .int x7), (8, .int x8), (9, .int x9)]) (h : fX19_farWay_311 N K121 K207 x0 x1 x2 x3 x4 x5 x6 x7 x8 x9 z = some (r, z')) : W p l e rmX19_farWay s m args below meth c H locs 0 0 Q (F0 m 311 ls []) := by
  unfold fX19_farWay_311 at h
  obtain ⟨v1, ev1⟩ : ∃ y : Int32, y = (x9 + 1) := ⟨_, rfl⟩
  replace h := zl_sub ev1 h
  refine lv_iinc (v := v1) (lv' := [(9, .int v1), (0, .ref (B 19 x0)), (1, .ref (B 12 x1)), (2, .int x2), (3, .int x3), (4, .int x4), (5, .int x5), (6, .int x6), (7, .int x7), (8, .int x8)]) F.1 F.2.1 dX19_farWay_311 hl (k := 9) rfl (by rw [ev1]; rfl) (by decide) rfl (fun ls hl => ?_)
  refine lv_goto (tgt := 207) F.1 F.2.1 dX19_farWay_314 (by decide) ?_
  exact hK207 x0 x1 x2 x3 x4 x5 x6 x7 x8 v1 hx0 hx1 hr (lv_sub hl [1, 2, 3, 4, 5, 6, 7, 8, 9, 0] rfl) h
def fX19_farWay_317 (N : Nat) (K121 : Nat → Nat → Int32 → Int32 → Int32 → Int32 → St → Option (Int32 × St)) (x0 : Nat) (x1 : Nat) (x2 : Int32) (x3 : Int32) (x4 : Int32) (x5 : Int32) (z : St) : Option (Int32 × St) := zl (x5 + 1) fun v1 => K121 x0 x1 x2 x3 x4 v1 z
set_option maxHeartbeats 4000000 in
set_option maxRecDepth 100000 in
theorem bX19_farWay_317 (hst : zSt B ids) (F : zFx p m c cX19_farWay 11 s args RX19 D cy B ids A) (hA : ∀ q : Nat, s.heap.size ≤ q → A q) {r : Int32} {z' : St} (E : zEnd p l e rmX19_farWay s m args below meth c cX19_farWay D cy B ids A Q none z' .return_ True) {N : Nat} {K121 : Nat → Nat → Int32 → Int32 → Int32 → Int32 → St → Option (Int32 × St)} (hK121 : ∀ (x0 : Nat) (x1 : Nat) (x2 : Int32) (x3 : Int32) (x4 : Int32) (x5 : Int32) (hx0 : (19, x0) ∈ ids) (hx1 : (12, x1) ∈ ids) {z : St} {H : Heap} {locs : List Loc} {ls : Array Slot} (hr : zRep D cy B ids A s.heap z H locs) (hl : lv_has ls 11 [(0, .ref (B 19 x0)), (1, .ref (B 12 x1)), (2, .int x2), (3, .int x3), (4, .int x4), (5, .int x5)]), K121 x0 x1 x2 x3 x4 x5 z = some (r, z') → W p l e rmX19_farWay s m args below meth c H locs 0 0 Q (F0 m 121 ls [])) (x0 : Nat) (x1 : Nat) (x2 : Int32) (x3 : Int32) (x4 : Int32) (x5 : Int32) (hx0 : (19, x0) ∈ ids) (hx1 : (12, x1) ∈ ids) {z : St} {H : Heap} {locs : List Loc} {ls : Array Slot} (hr : zRep D cy B ids A s.heap z H locs) (hl : lv_has ls 11 [(0, .ref (B 19 x0)), (1, .ref (B 12 x1)), (2, .int x2), (3, .int x3), (4, .int x4), (5, .int x5)]) (h : fX19_farWay_317 N K121 x0 x1 x2 x3 x4 x5 z = some (r, z')) : W p l e rmX19_farWay s m args below meth c H locs 0 0 Q (F0 m 317 ls []) := by
  unfold fX19_farWay_317 at h
  obtain ⟨v1, ev1⟩ : ∃ y : Int32, y = (x5 + 1) := ⟨_, rfl⟩
  replace h := zl_sub ev1 h
  refine lv_iinc (v := v1) (lv' := [(5, .int v1), (0, .ref (B 19 x0)), (1, .ref (B 12 x1)), (2, .int x2), (3, .int x3), (4, .int x4)]) F.1 F.2.1 dX19_farWay_317 hl (k := 5) rfl (by rw [ev1]; rfl) (by decide) rfl (fun ls hl => ?_)
  refine lv_goto (tgt := 121) F.1 F.2.1 dX19_farWay_320 (by decide) ?_
  exact hK121 x0 x1 x2 x3 x4 v1 hx0 hx1 hr (lv_sub hl [1, 2, 3, 4, 5, 0] rfl) h
def fX19_farWay_207b (N : Nat) (K121 : Nat → Nat → Int32 → Int32 → Int32 → Int32 → St → Option (Int32 × St)) (K207 : Nat → Nat → Int32 → Int32 → Int32 → Int32 → Int32 → Int32 → Int32 → Int32 → St → Option (Int32 × St)) (x0 : Nat) (x1 : Nat) (x2 : Int32) (x3 : Int32) (x4 : Int32) (x5 : Int32) (x6 : Int32) (x7 : Int32) (x8 : Int32) (x9 : Int32) (z : St) : Option (Int32 × St) := if x8 = 0 then (fX19_farWay_317 N K121 x0 x1 x2 x3 x4 x5 z) else (if (16 : Int32) ≤ x9 then (fX19_farWay_317 N K121 x0 x1 x2 x3 x4 x5 z) else (zk x2 24 <| if ¬ (zgA z 155 x1 (Int32.toNatClampNeg x2)) = (-1 : Int32) then (fX19_farWay_317 N K121 x0 x1 x2 x3 x4 x5 z) else (zk x9 16 <| zc (fX19_costOn N x0 (zgA z 150 x1 (Int32.toNatClampNeg x9)) x2 z) fun r6 z7 => if r6 = (-1 : Int32) then (fX19_farWay_311 N K121 K207 x0 x1 x2 x3 x4 x5 x6 x7 x8 x9 z7) else (if x9 = (zgI z7 12 0 x1) then (fX19_farWay_311 N K121 K207 x0 x1 x2 x3 x4 x5 x6 x7 x8 x9 z7) else (zc (fX19_friendRow N x0 x4 x5 (2 : Int32) z7) fun r12 z13 => zk (((16 : Int32) * x6) + x9) 256 <| if ¬ ((r12 + (zgA z13 190 x0 (Int32.toNatClampNeg (((16 : Int32) * x6) + x9)))) + r6) = x3 then (fX19_farWay_311 N K121 K207 x0 x1 x2 x3 x4 x5 x6 x7 x8 x9 z13) else (zk x2 24 <| zl (zsA z13 155 x1 (Int32.toNatClampNeg x2) x3) fun z19 => zk x2 24 <| zl (zsA z19 156 x1 (Int32.toNatClampNeg x2) x6) fun z21 => zk x2 24 <| zl (zsA z21 157 x1 (Int32.toNatClampNeg x2) x7) fun z23 => fX19_farWay_311 N K121 K207 x0 x1 x2 x3 x4 x5 x6 x7 x8 x9 z23))))))
def fX19_farWay_207 (N : Nat) (K121 : Nat → Nat → Int32 → Int32 → Int32 → Int32 → St → Option (Int32 × St)) : Nat → Nat → Nat → Int32 → Int32 → Int32 → Int32 → Int32 → Int32 → Int32 → Int32 → St → Option (Int32 × St)
  | 0 => fun _ _ _ _ _ _ _ _ _ _ _ => none
  | n + 1 => fX19_farWay_207b N K121 (fX19_farWay_207 N K121 n)
set_option maxHeartbeats 4000000 in
set_option maxRecDepth 100000 in
theorem bX19_farWay_207 (hst : zSt B ids) (F : zFx p m c cX19_farWay 11 s args RX19 D cy B ids A) (hA : ∀ q : Nat, s.heap.size ≤ q → A q) {r : Int32} {z' : St} (E : zEnd p l e rmX19_farWay s m args below meth c cX19_farWay D cy B ids A Q none z' .return_ True) {N : Nat} {K121 : Nat → Nat → Int32 → Int32 → Int32 → Int32 → St → Option (Int32 × St)} {K207 : Nat → Nat → Int32 → Int32 → Int32 → Int32 → Int32 → Int32 → Int32 → Int32 → St → Option (Int32 × St)} (hK121 : ∀ (x0 : Nat) (x1 : Nat) (x2 : Int32) (x3 : Int32) (x4 : Int32) (x5 : Int32) (hx0 : (19, x0) ∈ ids) (hx1 : (12, x1) ∈ ids) {z : St} {H : Heap} {locs : List Loc} {ls : Array Slot} (hr : zRep D cy B ids A s.heap z H locs) (hl : lv_has ls 11 [(0, .ref (B 19 x0)), (1, .ref (B 12 x1)), (2, .int x2), (3, .int x3), (4, .int x4), (5, .int x5)]), K121 x0 x1 x2 x3 x4 x5 z = some (r, z') → W p l e rmX19_farWay s m args below meth c H locs 0 0 Q (F0 m 121 ls [])) (hK207 : ∀ (x0 : Nat) (x1 : Nat) (x2 : Int32) (x3 : Int32) (x4 : Int32) (x5 : Int32) (x6 : Int32) (x7 : Int32) (x8 : Int32) (x9 : Int32) (hx0 : (19, x0) ∈ ids) (hx1 : (12, x1) ∈ ids) {z : St} {H : Heap} {locs : List Loc} {ls : Array Slot} (hr : zRep D cy B ids A s.heap z H locs) (hl : lv_has ls 11 [(0, .ref (B 19 x0)), (1, .ref (B 12 x1)), (2, .int x2), (3, .int x3), (4, .int x4), (5, .int x5), (6, .int x6), (7, .int x7), (8, .int x8), (9, .int x9)]), K207 x0 x1 x2 x3 x4 x5 x6 x7 x8 x9 z = some (r, z') → W p l e rmX19_farWay s m args below meth c H locs 0 0 Q (F0 m 207 ls [])) (x0 : Nat) (x1 : Nat) (x2 : Int32) (x3 : Int32) (x4 : Int32) (x5 : Int32) (x6 : Int32) (x7 : Int32) (x8 : Int32) (x9 : Int32) (hx0 : (19, x0) ∈ ids) (hx1 : (12, x1) ∈ ids) {z : St} {H : Heap} {locs : List Loc} {ls : Array Slot} (hr : zRep D cy B ids A s.heap z H locs) (hl : lv_has ls 11 [(0, .ref (B 19 x0)), (1, .ref (B 12 x1)), (2, .int x2), (3, .int x3), (4, .int x4), (5, .int x5), (6, .int x6), (7, .int x7), (8, .int x8), (9, .int x9)]) (h : fX19_farWay_207b N K121 K207 x0 x1 x2 x3 x4 x5 x6 x7 x8 x9 z = some (r, z')) : W p l e rmX19_farWay s m args below meth c H locs 0 0 Q (F0 m 207 ls []) := by
  unfold fX19_farWay_207b at h
  refine lv_iload F.1 F.2.1 dX19_farWay_207 (lv_at hl 8 rfl) ?_
  refine lv_if_eq (tgt := 317) F.1 F.2.1 dX19_farWay_209 (by decide) (fun c1 => ?_) (fun c1 => ?_)
  · replace h := zi_t c1 h
    exact bX19_farWay_317 hst F hA E hK121 x0 x1 x2 x3 x4 x5 hx0 hx1 hr (lv_sub hl [0, 1, 2, 3, 4, 5] rfl) h
  · replace h := zi_f c1 h
    refine lv_iload F.1 F.2.1 dX19_farWay_212 (lv_at hl 9 rfl) ?_
    refine lv_bipush (v := (16 : Int32)) F.1 F.2.1 dX19_farWay_214 (by decide) ?_
    refine lv_icmp_ge (tgt := 317) F.1 F.2.1 dX19_farWay_216 (by decide) (fun c2 => ?_) (fun c2 => ?_)
    · replace h := zi_t c2 h
      exact bX19_farWay_317 hst F hA E hK121 x0 x1 x2 x3 x4 x5 hx0 hx1 hr (lv_sub hl [0, 1, 2, 3, 4, 5] rfl) h
    · replace h := zi_f c2 h
      refine lv_aload_n F.1 F.2.1 dX19_farWay_219 rfl (lv_at hl 1 rfl) ?_
      refine gf19_301 F hx1 hr dX19_farWay_220 ?_
      refine lv_iload_n F.1 F.2.1 dX19_farWay_223 rfl (lv_at hl 2 rfl) ?_
      replace h := zk_some h
      obtain ⟨c3, h⟩ := h
      refine zr_iald (k := 155) (by decide) rfl (by decide) F (zal_a F hx1 (j := 25) rfl) hr dX19_farWay_224 c3 ?_
      refine lv_iconst (v := (-1 : Int32)) F.1 F.2.1 dX19_farWay_225 (by decide) ?_
      refine lv_icmp_ne (tgt := 317) F.1 F.2.1 dX19_farWay_226 (by decide) (fun c4 => ?_) (fun c4 => ?_)
      · replace h := zi_t c4 h
        exact bX19_farWay_317 hst F hA E hK121 x0 x1 x2 x3 x4 x5 hx0 hx1 hr (lv_sub hl [0, 1, 2, 3, 4, 5] rfl) h
      · replace h := zi_f (fun q => q c4) h
        refine lv_aload_n F.1 F.2.1 dX19_farWay_229 rfl (lv_at hl 0 rfl) ?_
        refine lv_aload_n F.1 F.2.1 dX19_farWay_230 rfl (lv_at hl 1 rfl) ?_
        refine gf19_448 F hx1 hr dX19_farWay_231 ?_
        refine lv_iload F.1 F.2.1 dX19_farWay_234 (lv_at hl 9 rfl) ?_
        replace h := zk_some h
        obtain ⟨c5, h⟩ := h
        refine zr_iald (k := 150) (by decide) rfl (by decide) F (zal_a F hx1 (j := 14) rfl) hr dX19_farWay_236 c5 ?_
        refine lv_iload_n F.1 F.2.1 dX19_farWay_237 rfl (lv_at hl 2 rfl) ?_
        replace h := zc_some h
        obtain ⟨r6, z7, hc8, h⟩ := h
        refine zr_calli (zrun_V (As := [.int (zgA z 150 x1 (Int32.toNatClampNeg x9)), .int x2]) (rest := []) zq_2920 zq_2922 zs_X19_costOn zq_2923 zq_4 hdX19_costOn (by decide) (T := TX19) (N := 32) rfl (okX19_costOn l D cy B ids hst N x0 hx0 (zgA z 150 x1 (Int32.toNatClampNeg x9))  x2  hr.2.2 hc8) F hr hx0 hl.1 rfl (by decide) dX19_farWay_238 rfl rfl hroX19_farWay_X19_costOn ⟨Nat.zero_le _, Nat.zero_le _⟩) F hA hr (fun H locs hw9 hr => ?_)
        clear hc8
        refine lv_istore (lv' := [(10, .int r6), (0, .ref (B 19 x0)), (1, .ref (B 12 x1)), (2, .int x2), (3, .int x3), (4, .int x4), (5, .int x5), (6, .int x6), (7, .int x7), (8, .int x8), (9, .int x9)]) F.1 F.2.1 dX19_farWay_241 hl (by decide) rfl (fun ls hl => ?_)
        refine lv_iload F.1 F.2.1 dX19_farWay_243 (lv_at hl 0 rfl) ?_
        refine lv_iconst (v := (-1 : Int32)) F.1 F.2.1 dX19_farWay_245 (by decide) ?_
        refine lv_icmp_eq (tgt := 311) F.1 F.2.1 dX19_farWay_246 (by decide) (fun c10 => ?_) (fun c10 => ?_)
        · replace h := zi_t c10 h
          exact bX19_farWay_311 hst F hA E hK121 hK207 x0 x1 x2 x3 x4 x5 x6 x7 x8 x9 hx0 hx1 hr (lv_sub hl [1, 2, 3, 4, 5, 6, 7, 8, 9, 10] rfl) h
        · replace h := zi_f c10 h
          refine lv_iload F.1 F.2.1 dX19_farWay_249 (lv_at hl 10 rfl) ?_
          refine lv_aload_n F.1 F.2.1 dX19_farWay_251 rfl (lv_at hl 2 rfl) ?_
          refine gf19_310 F hx1 hr dX19_farWay_252 ?_
          refine lv_icmp_eq (tgt := 311) F.1 F.2.1 dX19_farWay_255 (by decide) (fun c11 => ?_) (fun c11 => ?_)
          · replace h := zi_t c11 h
            exact bX19_farWay_311 hst F hA E hK121 hK207 x0 x1 x2 x3 x4 x5 x6 x7 x8 x9 hx0 hx1 hr (lv_sub hl [1, 2, 3, 4, 5, 6, 7, 8, 9, 10] rfl) h
          · replace h := zi_f c11 h
            refine lv_aload_n F.1 F.2.1 dX19_farWay_258 rfl (lv_at hl 1 rfl) ?_
            refine lv_iload F.1 F.2.1 dX19_farWay_259 (lv_at hl 5 rfl) ?_
            refine lv_iload F.1 F.2.1 dX19_farWay_261 (lv_at hl 6 rfl) ?_
            refine lv_iconst (v := (2 : Int32)) F.1 F.2.1 dX19_farWay_263 (by decide) ?_
            replace h := zc_some h
            obtain ⟨r12, z13, hc14, h⟩ := h
            refine zr_calli (zrun_V (As := [.int x4, .int x5, .int (2 : Int32)]) (rest := []) zq_2904 zq_2906 zs_X19_friendRow zq_2907 zq_4 hdX19_friendRow (by decide) (T := TX19) (N := 32) rfl (okX19_friendRow l D cy B ids hst N x0 hx0 x4  x5  (2 : Int32)  hr.2.2 hc14) F hr hx0 hl.1 rfl (by decide) dX19_farWay_264 rfl rfl hroX19_farWay_X19_friendRow ⟨Nat.zero_le _, Nat.zero_le _⟩) F hA hr (fun H locs hw15 hr => ?_)
            clear hc14
            refine lv_aload_n F.1 F.2.1 dX19_farWay_267 rfl (lv_at hl 1 rfl) ?_
            refine gf19_130 F hx0 hr dX19_farWay_268 ?_
            refine lv_bipush (v := (16 : Int32)) F.1 F.2.1 dX19_farWay_271 (by decide) ?_
            refine lv_iload F.1 F.2.1 dX19_farWay_273 (lv_at hl 7 rfl) ?_
            refine lv_imul F.1 F.2.1 dX19_farWay_275 ?_
            refine lv_iload F.1 F.2.1 dX19_farWay_276 (lv_at hl 10 rfl) ?_
            refine lv_iadd F.1 F.2.1 dX19_farWay_278 ?_
            replace h := zk_some h
            obtain ⟨c16, h⟩ := h
            refine zr_iald (k := 190) (by decide) rfl (by decide) F (zal_a F hx0 (j := 29) rfl) hr dX19_farWay_279 c16 ?_
            refine lv_iadd F.1 F.2.1 dX19_farWay_280 ?_
            refine lv_iload F.1 F.2.1 dX19_farWay_281 (lv_at hl 0 rfl) ?_
            refine lv_iadd F.1 F.2.1 dX19_farWay_283 ?_
            refine lv_iload_n F.1 F.2.1 dX19_farWay_284 rfl (lv_at hl 4 rfl) ?_
            refine lv_icmp_ne (tgt := 311) F.1 F.2.1 dX19_farWay_285 (by decide) (fun c17 => ?_) (fun c17 => ?_)
            · replace h := zi_t c17 h
              exact bX19_farWay_311 hst F hA E hK121 hK207 x0 x1 x2 x3 x4 x5 x6 x7 x8 x9 hx0 hx1 hr (lv_sub hl [1, 2, 3, 4, 5, 6, 7, 8, 9, 10] rfl) h
            · replace h := zi_f (fun q => q c17) h
              refine lv_aload_n F.1 F.2.1 dX19_farWay_288 rfl (lv_at hl 2 rfl) ?_
              refine gf19_301 F hx1 hr dX19_farWay_289 ?_
              refine lv_iload_n F.1 F.2.1 dX19_farWay_292 rfl (lv_at hl 3 rfl) ?_
              refine lv_iload_n F.1 F.2.1 dX19_farWay_293 rfl (lv_at hl 4 rfl) ?_
              replace h := zk_some h
              obtain ⟨c18, h⟩ := h
              refine zr_iast (k := 155) (by decide) rfl (by decide) F (zal_a F hx1 (j := 25) rfl) hr dX19_farWay_294 c18 (fun H locs z19 ez19 hr => ?_)
              replace h := zl_sub ez19 h
              clear ez19
              refine lv_aload_n F.1 F.2.1 dX19_farWay_295 rfl (lv_at hl 2 rfl) ?_
              refine gf19_307 F hx1 hr dX19_farWay_296 ?_
              refine lv_iload_n F.1 F.2.1 dX19_farWay_299 rfl (lv_at hl 3 rfl) ?_
              refine lv_iload F.1 F.2.1 dX19_farWay_300 (lv_at hl 7 rfl) ?_
              replace h := zk_some h
              obtain ⟨c20, h⟩ := h
              refine zr_iast (k := 156) (by decide) rfl (by decide) F (zal_a F hx1 (j := 26) rfl) hr dX19_farWay_302 c20 (fun H locs z21 ez21 hr => ?_)
              replace h := zl_sub ez21 h
              clear ez21
              refine lv_aload_n F.1 F.2.1 dX19_farWay_303 rfl (lv_at hl 2 rfl) ?_
              refine gf19_304 F hx1 hr dX19_farWay_304 ?_
              refine lv_iload_n F.1 F.2.1 dX19_farWay_307 rfl (lv_at hl 3 rfl) ?_
              refine lv_iload F.1 F.2.1 dX19_farWay_308 (lv_at hl 8 rfl) ?_
              replace h := zk_some h
              obtain ⟨c22, h⟩ := h
              refine zr_iast (k := 157) (by decide) rfl (by decide) F (zal_a F hx1 (j := 27) rfl) hr dX19_farWay_310 c22 (fun H locs z23 ez23 hr => ?_)
              replace h := zl_sub ez23 h
              clear ez23
              exact bX19_farWay_311 hst F hA E hK121 hK207 x0 x1 x2 x3 x4 x5 x6 x7 x8 x9 hx0 hx1 hr (lv_sub hl [1, 2, 3, 4, 5, 6, 7, 8, 9, 10] rfl) h
theorem lX19_farWay_207 (hst : zSt B ids) (F : zFx p m c cX19_farWay 11 s args RX19 D cy B ids A) (hA : ∀ q : Nat, s.heap.size ≤ q → A q) {r : Int32} {z' : St} (E : zEnd p l e rmX19_farWay s m args below meth c cX19_farWay D cy B ids A Q none z' .return_ True) {N : Nat} {K121 : Nat → Nat → Int32 → Int32 → Int32 → Int32 → St → Option (Int32 × St)} (hK121 : ∀ (x0 : Nat) (x1 : Nat) (x2 : Int32) (x3 : Int32) (x4 : Int32) (x5 : Int32) (hx0 : (19, x0) ∈ ids) (hx1 : (12, x1) ∈ ids) {z : St} {H : Heap} {locs : List Loc} {ls : Array Slot} (hr : zRep D cy B ids A s.heap z H locs) (hl : lv_has ls 11 [(0, .ref (B 19 x0)), (1, .ref (B 12 x1)), (2, .int x2), (3, .int x3), (4, .int x4), (5, .int x5)]), K121 x0 x1 x2 x3 x4 x5 z = some (r, z') → W p l e rmX19_farWay s m args below meth c H locs 0 0 Q (F0 m 121 ls [])) : ∀ (n : Nat) (x0 : Nat) (x1 : Nat) (x2 : Int32) (x3 : Int32) (x4 : Int32) (x5 : Int32) (x6 : Int32) (x7 : Int32) (x8 : Int32) (x9 : Int32) (hx0 : (19, x0) ∈ ids) (hx1 : (12, x1) ∈ ids) {z : St} {H : Heap} {locs : List Loc} {ls : Array Slot} (hr : zRep D cy B ids A s.heap z H locs) (hl : lv_has ls 11 [(0, .ref (B 19 x0)), (1, .ref (B 12 x1)), (2, .int x2), (3, .int x3), (4, .int x4), (5, .int x5), (6, .int x6), (7, .int x7), (8, .int x8), (9, .int x9)]), fX19_farWay_207 N K121 n x0 x1 x2 x3 x4 x5 x6 x7 x8 x9 z = some (r, z') → W p l e rmX19_farWay s m args below meth c H locs 0 0 Q (F0 m 207 ls []) := by
  intro n
  induction n with
  | zero => intro x0 x1 x2 x3 x4 x5 x6 x7 x8 x9 hx0 hx1 z H locs ls hr hl h; cases h
  | succ n ih => intro x0 x1 x2 x3 x4 x5 x6 x7 x8 x9 hx0 hx1 z H locs ls hr hl h; exact bX19_farWay_207 hst F hA E hK121 ih x0 x1 x2 x3 x4 x5 x6 x7 x8 x9 hx0 hx1 hr hl h
def fX19_farWay_202 (N : Nat) (K121 : Nat → Nat → Int32 → Int32 → Int32 → Int32 → St → Option (Int32 × St)) (x0 : Nat) (x1 : Nat) (x2 : Int32) (x3 : Int32) (x4 : Int32) (x5 : Int32) (x6 : Int32) (x7 : Int32) (s0 : Int32) (z : St) : Option (Int32 × St) := fX19_farWay_207 N K121 N x0 x1 x2 x3 x4 x5 x6 x7 s0 (0 : Int32) z
set_option maxHeartbeats 4000000 in
set_option maxRecDepth 100000 in
theorem bX19_farWay_202 (hst : zSt B ids) (F : zFx p m c cX19_farWay 11 s args RX19 D cy B ids A) (hA : ∀ q : Nat, s.heap.size ≤ q → A q) {r : Int32} {z' : St} (E : zEnd p l e rmX19_farWay s m args below meth c cX19_farWay D cy B ids A Q none z' .return_ True) {N : Nat} {K121 : Nat → Nat → Int32 → Int32 → Int32 → Int32 → St → Option (Int32 × St)} (hK121 : ∀ (x0 : Nat) (x1 : Nat) (x2 : Int32) (x3 : Int32) (x4 : Int32) (x5 : Int32) (hx0 : (19, x0) ∈ ids) (hx1 : (12, x1) ∈ ids) {z : St} {H : Heap} {locs : List Loc} {ls : Array Slot} (hr : zRep D cy B ids A s.heap z H locs) (hl : lv_has ls 11 [(0, .ref (B 19 x0)), (1, .ref (B 12 x1)), (2, .int x2), (3, .int x3), (4, .int x4), (5, .int x5)]), K121 x0 x1 x2 x3 x4 x5 z = some (r, z') → W p l e rmX19_farWay s m args below meth c H locs 0 0 Q (F0 m 121 ls [])) (x0 : Nat) (x1 : Nat) (x2 : Int32) (x3 : Int32) (x4 : Int32) (x5 : Int32) (x6 : Int32) (x7 : Int32) (s0 : Int32) (hx0 : (19, x0) ∈ ids) (hx1 : (12, x1) ∈ ids) {z : St} {H : Heap} {locs : List Loc} {ls : Array Slot} (hr : zRep D cy B ids A s.heap z H locs) (hl : lv_has ls 11 [(0, .ref (B 19 x0)), (1, .ref (B 12 x1)), (2, .int x2), (3, .int x3), (4, .int x4), (5, .int x5), (6, .int x6), (7, .int x7)]) (h : fX19_farWay_202 N K121 x0 x1 x2 x3 x4 x5 x6 x7 s0 z = some (r, z')) : W p l e rmX19_farWay s m args below meth c H locs 0 0 Q (F0 m 202 ls [.int s0]) := by
  unfold fX19_farWay_202 at h
  refine lv_istore (lv' := [(8, .int s0), (0, .ref (B 19 x0)), (1, .ref (B 12 x1)), (2, .int x2), (3, .int x3), (4, .int x4), (5, .int x5), (6, .int x6), (7, .int x7)]) F.1 F.2.1 dX19_farWay_202 hl (by decide) rfl (fun ls hl => ?_)
  refine lv_iconst (v := (0 : Int32)) F.1 F.2.1 dX19_farWay_204 (by decide) ?_
  refine lv_istore (lv' := [(9, .int (0 : Int32)), (8, .int s0), (0, .ref (B 19 x0)), (1, .ref (B 12 x1)), (2, .int x2), (3, .int x3), (4, .int x4), (5, .int x5), (6, .int x6), (7, .int x7)]) F.1 F.2.1 dX19_farWay_205 hl (by decide) rfl (fun ls hl => ?_)
  exact lX19_farWay_207 hst F hA E hK121 _ x0 x1 x2 x3 x4 x5 x6 x7 s0 (0 : Int32) hx0 hx1 hr (lv_sub hl [2, 3, 4, 5, 6, 7, 8, 9, 1, 0] rfl) h
def fX19_farWay_201 (N : Nat) (K121 : Nat → Nat → Int32 → Int32 → Int32 → Int32 → St → Option (Int32 × St)) (x0 : Nat) (x1 : Nat) (x2 : Int32) (x3 : Int32) (x4 : Int32) (x5 : Int32) (x6 : Int32) (x7 : Int32) (z : St) : Option (Int32 × St) := fX19_farWay_202 N K121 x0 x1 x2 x3 x4 x5 x6 x7 (0 : Int32) z
set_option maxHeartbeats 4000000 in
set_option maxRecDepth 100000 in
theorem bX19_farWay_201 (hst : zSt B ids) (F : zFx p m c cX19_farWay 11 s args RX19 D cy B ids A) (hA : ∀ q : Nat, s.heap.size ≤ q → A q) {r : Int32} {z' : St} (E : zEnd p l e rmX19_farWay s m args below meth c cX19_farWay D cy B ids A Q none z' .return_ True) {N : Nat} {K121 : Nat → Nat → Int32 → Int32 → Int32 → Int32 → St → Option (Int32 × St)} (hK121 : ∀ (x0 : Nat) (x1 : Nat) (x2 : Int32) (x3 : Int32) (x4 : Int32) (x5 : Int32) (hx0 : (19, x0) ∈ ids) (hx1 : (12, x1) ∈ ids) {z : St} {H : Heap} {locs : List Loc} {ls : Array Slot} (hr : zRep D cy B ids A s.heap z H locs) (hl : lv_has ls 11 [(0, .ref (B 19 x0)), (1, .ref (B 12 x1)), (2, .int x2), (3, .int x3), (4, .int x4), (5, .int x5)]), K121 x0 x1 x2 x3 x4 x5 z = some (r, z') → W p l e rmX19_farWay s m args below meth c H locs 0 0 Q (F0 m 121 ls [])) (x0 : Nat) (x1 : Nat) (x2 : Int32) (x3 : Int32) (x4 : Int32) (x5 : Int32) (x6 : Int32) (x7 : Int32) (hx0 : (19, x0) ∈ ids) (hx1 : (12, x1) ∈ ids) {z : St} {H : Heap} {locs : List Loc} {ls : Array Slot} (hr : zRep D cy B ids A s.heap z H locs) (hl : lv_has ls 11 [(0, .ref (B 19 x0)), (1, .ref (B 12 x1)), (2, .int x2), (3, .int x3), (4, .int x4), (5, .int x5), (6, .int x6), (7, .int x7)]) (h : fX19_farWay_201 N K121 x0 x1 x2 x3 x4 x5 x6 x7 z = some (r, z')) : W p l e rmX19_farWay s m args below meth c H locs 0 0 Q (F0 m 201 ls []) := by
  unfold fX19_farWay_201 at h
  refine lv_iconst (v := (0 : Int32)) F.1 F.2.1 dX19_farWay_201 (by decide) ?_
  exact bX19_farWay_202 hst F hA E hK121 x0 x1 x2 x3 x4 x5 x6 x7 (0 : Int32) hx0 hx1 hr (lv_sub hl [0, 1, 2, 3, 4, 5, 6, 7] rfl) h
def fX19_farWay_121b (N : Nat) (K121 : Nat → Nat → Int32 → Int32 → Int32 → Int32 → St → Option (Int32 × St)) (x0 : Nat) (x1 : Nat) (x2 : Int32) (x3 : Int32) (x4 : Int32) (x5 : Int32) (z : St) : Option (Int32 × St) := zc (fX19_ad N x0 x4 (3 : Int32) z) fun r1 z2 => if r1 ≤ x5 then (some (0, z2)) else (zk x2 24 <| if ¬ (zgA z2 155 x1 (Int32.toNatClampNeg x2)) = (-1 : Int32) then (some (0, z2)) else (zc (fX19_friendRow N x0 x4 x5 (0 : Int32) z2) fun r8 z9 => zc (fX19_friendRow N x0 x4 x5 (1 : Int32) z9) fun r12 z13 => zk r8 16 <| if (zgA z13 150 x1 (Int32.toNatClampNeg r8)) = (-1 : Int32) then (fX19_farWay_201 N K121 x0 x1 x2 x3 x4 x5 r8 r12 z13) else (zk r8 16 <| zc (fX19_costTo N x0 (zgA z13 150 x1 (Int32.toNatClampNeg r8)) (zgI z13 12 0 x1) r12 z13) fun r19 z20 => if r19 = (-1 : Int32) then (fX19_farWay_201 N K121 x0 x1 x2 x3 x4 x5 r8 r12 z20) else (fX19_farWay_202 N K121 x0 x1 x2 x3 x4 x5 r8 r12 (1 : Int32) z20))))
def fX19_farWay_121 (N : Nat)  : Nat → Nat → Nat → Int32 → Int32 → Int32 → Int32 → St → Option (Int32 × St)
  | 0 => fun _ _ _ _ _ _ _ => none
  | n + 1 => fX19_farWay_121b N (fX19_farWay_121 N  n)
set_option maxHeartbeats 4000000 in
set_option maxRecDepth 100000 in
theorem bX19_farWay_121 (hst : zSt B ids) (F : zFx p m c cX19_farWay 11 s args RX19 D cy B ids A) (hA : ∀ q : Nat, s.heap.size ≤ q → A q) {r : Int32} {z' : St} (E : zEnd p l e rmX19_farWay s m args below meth c cX19_farWay D cy B ids A Q none z' .return_ True) {N : Nat} {K121 : Nat → Nat → Int32 → Int32 → Int32 → Int32 → St → Option (Int32 × St)} (hK121 : ∀ (x0 : Nat) (x1 : Nat) (x2 : Int32) (x3 : Int32) (x4 : Int32) (x5 : Int32) (hx0 : (19, x0) ∈ ids) (hx1 : (12, x1) ∈ ids) {z : St} {H : Heap} {locs : List Loc} {ls : Array Slot} (hr : zRep D cy B ids A s.heap z H locs) (hl : lv_has ls 11 [(0, .ref (B 19 x0)), (1, .ref (B 12 x1)), (2, .int x2), (3, .int x3), (4, .int x4), (5, .int x5)]), K121 x0 x1 x2 x3 x4 x5 z = some (r, z') → W p l e rmX19_farWay s m args below meth c H locs 0 0 Q (F0 m 121 ls [])) (x0 : Nat) (x1 : Nat) (x2 : Int32) (x3 : Int32) (x4 : Int32) (x5 : Int32) (hx0 : (19, x0) ∈ ids) (hx1 : (12, x1) ∈ ids) {z : St} {H : Heap} {locs : List Loc} {ls : Array Slot} (hr : zRep D cy B ids A s.heap z H locs) (hl : lv_has ls 11 [(0, .ref (B 19 x0)), (1, .ref (B 12 x1)), (2, .int x2), (3, .int x3), (4, .int x4), (5, .int x5)]) (h : fX19_farWay_121b N K121 x0 x1 x2 x3 x4 x5 z = some (r, z')) : W p l e rmX19_farWay s m args below meth c H locs 0 0 Q (F0 m 121 ls []) := by
  unfold fX19_farWay_121b at h
  refine lv_iload F.1 F.2.1 dX19_farWay_121 (lv_at hl 5 rfl) ?_
  refine lv_aload_n F.1 F.2.1 dX19_farWay_123 rfl (lv_at hl 0 rfl) ?_
  refine lv_iload F.1 F.2.1 dX19_farWay_124 (lv_at hl 4 rfl) ?_
  refine lv_iconst (v := (3 : Int32)) F.1 F.2.1 dX19_farWay_126 (by decide) ?_
  replace h := zc_some h
  obtain ⟨r1, z2, hc3, h⟩ := h
  refine zr_calli (zrun_V (As := [.int x4, .int (3 : Int32)]) (rest := [.int x5]) zq_2828 zq_2830 zs_X19_ad zq_2831 zq_4 hdX19_ad (by decide) (T := TX19) (N := 32) rfl (okX19_ad l D cy B ids hst N x0 hx0 x4  (3 : Int32)  hr.2.2 hc3) F hr hx0 hl.1 rfl (Nat.le_of_ble_eq_true rfl) dX19_farWay_127 rfl rfl hroX19_farWay_X19_ad ⟨Nat.zero_le _, Nat.zero_le _⟩) F hA hr (fun H locs hw4 hr => ?_)
  clear hc3
  refine lv_icmp_ge (tgt := 323) F.1 F.2.1 dX19_farWay_130 (by decide) (fun c5 => ?_) (fun c5 => ?_)
  · replace h := zi_t c5 h
    obtain ⟨rfl, rfl⟩ := zret h
    exact E _ _ _ _ dX19_farWay_323 trivial hr
  · replace h := zi_f c5 h
    refine lv_aload_n F.1 F.2.1 dX19_farWay_133 rfl (lv_at hl 1 rfl) ?_
    refine gf19_301 F hx1 hr dX19_farWay_134 ?_
    refine lv_iload_n F.1 F.2.1 dX19_farWay_137 rfl (lv_at hl 2 rfl) ?_
    replace h := zk_some h
    obtain ⟨c6, h⟩ := h
    refine zr_iald (k := 155) (by decide) rfl (by decide) F (zal_a F hx1 (j := 25) rfl) hr dX19_farWay_138 c6 ?_
    refine lv_iconst (v := (-1 : Int32)) F.1 F.2.1 dX19_farWay_139 (by decide) ?_
    refine lv_icmp_ne (tgt := 323) F.1 F.2.1 dX19_farWay_140 (by decide) (fun c7 => ?_) (fun c7 => ?_)
    · replace h := zi_t c7 h
      obtain ⟨rfl, rfl⟩ := zret h
      exact E _ _ _ _ dX19_farWay_323 trivial hr
    · replace h := zi_f (fun q => q c7) h
      refine lv_aload_n F.1 F.2.1 dX19_farWay_143 rfl (lv_at hl 0 rfl) ?_
      refine lv_iload F.1 F.2.1 dX19_farWay_144 (lv_at hl 4 rfl) ?_
      refine lv_iload F.1 F.2.1 dX19_farWay_146 (lv_at hl 5 rfl) ?_
      refine lv_iconst (v := (0 : Int32)) F.1 F.2.1 dX19_farWay_148 (by decide) ?_
      replace h := zc_some h
      obtain ⟨r8, z9, hc10, h⟩ := h
      refine zr_calli (zrun_V (As := [.int x4, .int x5, .int (0 : Int32)]) (rest := []) zq_2904 zq_2906 zs_X19_friendRow zq_2907 zq_4 hdX19_friendRow (by decide) (T := TX19) (N := 32) rfl (okX19_friendRow l D cy B ids hst N x0 hx0 x4  x5  (0 : Int32)  hr.2.2 hc10) F hr hx0 hl.1 rfl (by decide) dX19_farWay_149 rfl rfl hroX19_farWay_X19_friendRow ⟨Nat.zero_le _, Nat.zero_le _⟩) F hA hr (fun H locs hw11 hr => ?_)
      clear hc10
      refine lv_istore (lv' := [(6, .int r8), (0, .ref (B 19 x0)), (1, .ref (B 12 x1)), (2, .int x2), (3, .int x3), (4, .int x4), (5, .int x5)]) F.1 F.2.1 dX19_farWay_152 hl (by decide) rfl (fun ls hl => ?_)
      refine lv_aload_n F.1 F.2.1 dX19_farWay_154 rfl (lv_at hl 1 rfl) ?_
      refine lv_iload F.1 F.2.1 dX19_farWay_155 (lv_at hl 5 rfl) ?_
      refine lv_iload F.1 F.2.1 dX19_farWay_157 (lv_at hl 6 rfl) ?_
      refine lv_iconst (v := (1 : Int32)) F.1 F.2.1 dX19_farWay_159 (by decide) ?_
      replace h := zc_some h
      obtain ⟨r12, z13, hc14, h⟩ := h
      refine zr_calli (zrun_V (As := [.int x4, .int x5, .int (1 : Int32)]) (rest := []) zq_2904 zq_2906 zs_X19_friendRow zq_2907 zq_4 hdX19_friendRow (by decide) (T := TX19) (N := 32) rfl (okX19_friendRow l D cy B ids hst N x0 hx0 x4  x5  (1 : Int32)  hr.2.2 hc14) F hr hx0 hl.1 rfl (by decide) dX19_farWay_160 rfl rfl hroX19_farWay_X19_friendRow ⟨Nat.zero_le _, Nat.zero_le _⟩) F hA hr (fun H locs hw15 hr => ?_)
      clear hc14
      refine lv_istore (lv' := [(7, .int r12), (6, .int r8), (0, .ref (B 19 x0)), (1, .ref (B 12 x1)), (2, .int x2), (3, .int x3), (4, .int x4), (5, .int x5)]) F.1 F.2.1 dX19_farWay_163 hl (by decide) rfl (fun ls hl => ?_)
      refine lv_aload_n F.1 F.2.1 dX19_farWay_165 rfl (lv_at hl 3 rfl) ?_
      refine gf19_448 F hx1 hr dX19_farWay_166 ?_
      refine lv_iload F.1 F.2.1 dX19_farWay_169 (lv_at hl 1 rfl) ?_
      replace h := zk_some h
      obtain ⟨c16, h⟩ := h
      refine zr_iald (k := 150) (by decide) rfl (by decide) F (zal_a F hx1 (j := 14) rfl) hr dX19_farWay_171 c16 ?_
      refine lv_iconst (v := (-1 : Int32)) F.1 F.2.1 dX19_farWay_172 (by decide) ?_
      refine lv_icmp_eq (tgt := 201) F.1 F.2.1 dX19_farWay_173 (by decide) (fun c17 => ?_) (fun c17 => ?_)
      · replace h := zi_t c17 h
        exact bX19_farWay_201 hst F hA E hK121 x0 x1 x2 x3 x4 x5 r8 r12 hx0 hx1 hr (lv_sub hl [2, 3, 4, 5, 6, 7, 1, 0] rfl) h
      · replace h := zi_f c17 h
        refine lv_aload_n F.1 F.2.1 dX19_farWay_176 rfl (lv_at hl 2 rfl) ?_
        refine lv_aload_n F.1 F.2.1 dX19_farWay_177 rfl (lv_at hl 3 rfl) ?_
        refine gf19_448 F hx1 hr dX19_farWay_178 ?_
        refine lv_iload F.1 F.2.1 dX19_farWay_181 (lv_at hl 1 rfl) ?_
        replace h := zk_some h
        obtain ⟨c18, h⟩ := h
        refine zr_iald (k := 150) (by decide) rfl (by decide) F (zal_a F hx1 (j := 14) rfl) hr dX19_farWay_183 c18 ?_
        refine lv_aload_n F.1 F.2.1 dX19_farWay_184 rfl (lv_at hl 3 rfl) ?_
        refine gf19_310 F hx1 hr dX19_farWay_185 ?_
        refine lv_iload F.1 F.2.1 dX19_farWay_188 (lv_at hl 0 rfl) ?_
        replace h := zc_some h
        obtain ⟨r19, z20, hc21, h⟩ := h
        refine zr_calli (zrun_V (As := [.int (zgA z13 150 x1 (Int32.toNatClampNeg r8)), .int (zgI z13 12 0 x1), .int r12]) (rest := []) zq_2912 zq_2914 zs_X19_costTo zq_2915 zq_4 hdX19_costTo (by decide) (T := TX19) (N := 32) rfl (okX19_costTo l D cy B ids hst N x0 hx0 (zgA z13 150 x1 (Int32.toNatClampNeg r8))  (zgI z13 12 0 x1)  r12  hr.2.2 hc21) F hr hx0 hl.1 rfl (by decide) dX19_farWay_190 rfl rfl hroX19_farWay_X19_costTo ⟨Nat.zero_le _, Nat.zero_le _⟩) F hA hr (fun H locs hw22 hr => ?_)
        clear hc21
        refine lv_iconst (v := (-1 : Int32)) F.1 F.2.1 dX19_farWay_193 (by decide) ?_
        refine lv_icmp_eq (tgt := 201) F.1 F.2.1 dX19_farWay_194 (by decide) (fun c23 => ?_) (fun c23 => ?_)
        · replace h := zi_t c23 h
          exact bX19_farWay_201 hst F hA E hK121 x0 x1 x2 x3 x4 x5 r8 r12 hx0 hx1 hr (lv_sub hl [2, 3, 4, 5, 6, 7, 1, 0] rfl) h
        · replace h := zi_f c23 h
          refine lv_iconst (v := (1 : Int32)) F.1 F.2.1 dX19_farWay_197 (by decide) ?_
          refine lv_goto (tgt := 202) F.1 F.2.1 dX19_farWay_198 (by decide) ?_
          exact bX19_farWay_202 hst F hA E hK121 x0 x1 x2 x3 x4 x5 r8 r12 (1 : Int32) hx0 hx1 hr (lv_sub hl [2, 3, 4, 5, 6, 7, 1, 0] rfl) h
theorem lX19_farWay_121 (hst : zSt B ids) (F : zFx p m c cX19_farWay 11 s args RX19 D cy B ids A) (hA : ∀ q : Nat, s.heap.size ≤ q → A q) {r : Int32} {z' : St} (E : zEnd p l e rmX19_farWay s m args below meth c cX19_farWay D cy B ids A Q none z' .return_ True) {N : Nat}  : ∀ (n : Nat) (x0 : Nat) (x1 : Nat) (x2 : Int32) (x3 : Int32) (x4 : Int32) (x5 : Int32) (hx0 : (19, x0) ∈ ids) (hx1 : (12, x1) ∈ ids) {z : St} {H : Heap} {locs : List Loc} {ls : Array Slot} (hr : zRep D cy B ids A s.heap z H locs) (hl : lv_has ls 11 [(0, .ref (B 19 x0)), (1, .ref (B 12 x1)), (2, .int x2), (3, .int x3), (4, .int x4), (5, .int x5)]), fX19_farWay_121 N  n x0 x1 x2 x3 x4 x5 z = some (r, z') → W p l e rmX19_farWay s m args below meth c H locs 0 0 Q (F0 m 121 ls []) := by
  intro n
  induction n with
  | zero => intro x0 x1 x2 x3 x4 x5 hx0 hx1 z H locs ls hr hl h; cases h
  | succ n ih => intro x0 x1 x2 x3 x4 x5 hx0 hx1 z H locs ls hr hl h; exact bX19_farWay_121 hst F hA E ih x0 x1 x2 x3 x4 x5 hx0 hx1 hr hl h
def fX19_farWay_7b (N : Nat) (K7 : Nat → Nat → Int32 → Int32 → Int32 → St → Option (Int32 × St)) (x0 : Nat) (x1 : Nat) (x2 : Int32) (x3 : Int32) (x4 : Int32) (z : St) : Option (Int32 × St) := if (16 : Int32) ≤ x4 then (if x3 = (1000000000 : Int32) then (some (0, z)) else (zk (zgI z 12 0 x1) 16 <| zc (fX19_costOn N x0 (zgA z 150 x1 (Int32.toNatClampNeg (zgI z 12 0 x1))) x2 z) fun r4 z5 => if ¬ r4 = x3 then (zk (zgI z5 12 0 x1) 16 <| zl (zgA z5 150 x1 (Int32.toNatClampNeg (zgI z5 12 0 x1))) fun v10 => fX19_farWay_121 N N x0 x1 x2 x3 v10 (0 : Int32) z5) else (some (0, z5)))) else (zk x4 16 <| zc (fX19_costOn N x0 (zgA z 150 x1 (Int32.toNatClampNeg x4)) x2 z) fun r12 z13 => if r12 = (-1 : Int32) then (fX19_farWay_75 N K7 x0 x1 x2 x3 x4 z13) else (zk (((16 : Int32) * (zgI z13 12 0 x1)) + x4) 256 <| if x3 ≤ ((zgA z13 190 x0 (Int32.toNatClampNeg (((16 : Int32) * (zgI z13 12 0 x1)) + x4))) + r12) then (fX19_farWay_75 N K7 x0 x1 x2 x3 x4 z13) else (zk (((16 : Int32) * (zgI z13 12 0 x1)) + x4) 256 <| zl ((zgA z13 190 x0 (Int32.toNatClampNeg (((16 : Int32) * (zgI z13 12 0 x1)) + x4))) + r12) fun v20 => fX19_farWay_75 N K7 x0 x1 x2 v20 x4 z13)))
def fX19_farWay_7 (N : Nat)  : Nat → Nat → Nat → Int32 → Int32 → Int32 → St → Option (Int32 × St)
  | 0 => fun _ _ _ _ _ _ => none
  | n + 1 => fX19_farWay_7b N (fX19_farWay_7 N  n)
set_option maxHeartbeats 4000000 in
set_option maxRecDepth 100000 in
theorem bX19_farWay_7 (hst : zSt B ids) (F : zFx p m c cX19_farWay 11 s args RX19 D cy B ids A) (hA : ∀ q : Nat, s.heap.size ≤ q → A q) {r : Int32} {z' : St} (E : zEnd p l e rmX19_farWay s m args below meth c cX19_farWay D cy B ids A Q none z' .return_ True) {N : Nat} {K7 : Nat → Nat → Int32 → Int32 → Int32 → St → Option (Int32 × St)} (hK7 : ∀ (x0 : Nat) (x1 : Nat) (x2 : Int32) (x3 : Int32) (x4 : Int32) (hx0 : (19, x0) ∈ ids) (hx1 : (12, x1) ∈ ids) {z : St} {H : Heap} {locs : List Loc} {ls : Array Slot} (hr : zRep D cy B ids A s.heap z H locs) (hl : lv_has ls 11 [(0, .ref (B 19 x0)), (1, .ref (B 12 x1)), (2, .int x2), (3, .int x3), (4, .int x4)]), K7 x0 x1 x2 x3 x4 z = some (r, z') → W p l e rmX19_farWay s m args below meth c H locs 0 0 Q (F0 m 7 ls [])) (x0 : Nat) (x1 : Nat) (x2 : Int32) (x3 : Int32) (x4 : Int32) (hx0 : (19, x0) ∈ ids) (hx1 : (12, x1) ∈ ids) {z : St} {H : Heap} {locs : List Loc} {ls : Array Slot} (hr : zRep D cy B ids A s.heap z H locs) (hl : lv_has ls 11 [(0, .ref (B 19 x0)), (1, .ref (B 12 x1)), (2, .int x2), (3, .int x3), (4, .int x4)]) (h : fX19_farWay_7b N K7 x0 x1 x2 x3 x4 z = some (r, z')) : W p l e rmX19_farWay s m args below meth c H locs 0 0 Q (F0 m 7 ls []) := by
  unfold fX19_farWay_7b at h
  refine lv_iload F.1 F.2.1 dX19_farWay_7 (lv_at hl 4 rfl) ?_
  refine lv_bipush (v := (16 : Int32)) F.1 F.2.1 dX19_farWay_9 (by decide) ?_
  refine lv_icmp_ge (tgt := 81) F.1 F.2.1 dX19_farWay_11 (by decide) (fun c1 => ?_) (fun c1 => ?_)
  · replace h := zi_t c1 h
    refine lv_iload_n F.1 F.2.1 dX19_farWay_81 rfl (lv_at hl 3 rfl) ?_
    refine lv_ldcw (v := (1000000000)) F.1 F.2.1 F.2.2.2.1 (F.2.2.2.2.1 _ zq_2903) dX19_farWay_82 ?_
    refine lv_icmp_eq (tgt := 106) F.1 F.2.1 dX19_farWay_85 (by decide) (fun c2 => ?_) (fun c2 => ?_)
    · replace h := zi_t c2 h
      obtain ⟨rfl, rfl⟩ := zret h
      exact E _ _ _ _ dX19_farWay_106 trivial hr
    · replace h := zi_f c2 h
      refine lv_aload_n F.1 F.2.1 dX19_farWay_88 rfl (lv_at hl 0 rfl) ?_
      refine lv_aload_n F.1 F.2.1 dX19_farWay_89 rfl (lv_at hl 1 rfl) ?_
      refine gf19_448 F hx1 hr dX19_farWay_90 ?_
      refine lv_aload_n F.1 F.2.1 dX19_farWay_93 rfl (lv_at hl 1 rfl) ?_
      refine gf19_310 F hx1 hr dX19_farWay_94 ?_
      replace h := zk_some h
      obtain ⟨c3, h⟩ := h
      refine zr_iald (k := 150) (by decide) rfl (by decide) F (zal_a F hx1 (j := 14) rfl) hr dX19_farWay_97 c3 ?_
      refine lv_iload_n F.1 F.2.1 dX19_farWay_98 rfl (lv_at hl 2 rfl) ?_
      replace h := zc_some h
      obtain ⟨r4, z5, hc6, h⟩ := h
      refine zr_calli (zrun_V (As := [.int (zgA z 150 x1 (Int32.toNatClampNeg (zgI z 12 0 x1))), .int x2]) (rest := []) zq_2920 zq_2922 zs_X19_costOn zq_2923 zq_4 hdX19_costOn (by decide) (T := TX19) (N := 32) rfl (okX19_costOn l D cy B ids hst N x0 hx0 (zgA z 150 x1 (Int32.toNatClampNeg (zgI z 12 0 x1)))  x2  hr.2.2 hc6) F hr hx0 hl.1 rfl (by decide) dX19_farWay_99 rfl rfl hroX19_farWay_X19_costOn ⟨Nat.zero_le _, Nat.zero_le _⟩) F hA hr (fun H locs hw7 hr => ?_)
      clear hc6
      refine lv_iload_n F.1 F.2.1 dX19_farWay_102 rfl (lv_at hl 3 rfl) ?_
      refine lv_icmp_ne (tgt := 107) F.1 F.2.1 dX19_farWay_103 (by decide) (fun c8 => ?_) (fun c8 => ?_)
      · replace h := zi_t c8 h
        refine lv_aload_n F.1 F.2.1 dX19_farWay_107 rfl (lv_at hl 1 rfl) ?_
        refine gf19_448 F hx1 hr dX19_farWay_108 ?_
        refine lv_aload_n F.1 F.2.1 dX19_farWay_111 rfl (lv_at hl 1 rfl) ?_
        refine gf19_310 F hx1 hr dX19_farWay_112 ?_
        replace h := zk_some h
        obtain ⟨c9, h⟩ := h
        refine zr_iald (k := 150) (by decide) rfl (by decide) F (zal_a F hx1 (j := 14) rfl) hr dX19_farWay_115 c9 ?_
        refine lv_topi (fun v10 ev10 => ?_)
        replace h := zl_sub ev10 h
        refine lv_istore (lv' := [(4, .int v10), (0, .ref (B 19 x0)), (1, .ref (B 12 x1)), (2, .int x2), (3, .int x3)]) F.1 F.2.1 dX19_farWay_116 hl (by decide) rfl (fun ls hl => ?_)
        refine lv_iconst (v := (0 : Int32)) F.1 F.2.1 dX19_farWay_118 (by decide) ?_
        refine lv_istore (lv' := [(5, .int (0 : Int32)), (4, .int v10), (0, .ref (B 19 x0)), (1, .ref (B 12 x1)), (2, .int x2), (3, .int x3)]) F.1 F.2.1 dX19_farWay_119 hl (by decide) rfl (fun ls hl => ?_)
        exact lX19_farWay_121 hst F hA E  _ x0 x1 x2 x3 v10 (0 : Int32) hx0 hx1 hr (lv_sub hl [2, 3, 4, 5, 1, 0] rfl) h
      · replace h := zi_f (fun q => q c8) h
        obtain ⟨rfl, rfl⟩ := zret h
        exact E _ _ _ _ dX19_farWay_106 trivial hr
  · replace h := zi_f c1 h
    refine lv_aload_n F.1 F.2.1 dX19_farWay_14 rfl (lv_at hl 0 rfl) ?_
    refine lv_aload_n F.1 F.2.1 dX19_farWay_15 rfl (lv_at hl 1 rfl) ?_
    refine gf19_448 F hx1 hr dX19_farWay_16 ?_
    refine lv_iload F.1 F.2.1 dX19_farWay_19 (lv_at hl 4 rfl) ?_
    replace h := zk_some h
    obtain ⟨c11, h⟩ := h
    refine zr_iald (k := 150) (by decide) rfl (by decide) F (zal_a F hx1 (j := 14) rfl) hr dX19_farWay_21 c11 ?_
    refine lv_iload_n F.1 F.2.1 dX19_farWay_22 rfl (lv_at hl 2 rfl) ?_
    replace h := zc_some h
    obtain ⟨r12, z13, hc14, h⟩ := h
    refine zr_calli (zrun_V (As := [.int (zgA z 150 x1 (Int32.toNatClampNeg x4)), .int x2]) (rest := []) zq_2920 zq_2922 zs_X19_costOn zq_2923 zq_4 hdX19_costOn (by decide) (T := TX19) (N := 32) rfl (okX19_costOn l D cy B ids hst N x0 hx0 (zgA z 150 x1 (Int32.toNatClampNeg x4))  x2  hr.2.2 hc14) F hr hx0 hl.1 rfl (by decide) dX19_farWay_23 rfl rfl hroX19_farWay_X19_costOn ⟨Nat.zero_le _, Nat.zero_le _⟩) F hA hr (fun H locs hw15 hr => ?_)
    clear hc14
    refine lv_istore (lv' := [(5, .int r12), (0, .ref (B 19 x0)), (1, .ref (B 12 x1)), (2, .int x2), (3, .int x3), (4, .int x4)]) F.1 F.2.1 dX19_farWay_26 hl (by decide) rfl (fun ls hl => ?_)
    refine lv_iload F.1 F.2.1 dX19_farWay_28 (lv_at hl 0 rfl) ?_
    refine lv_iconst (v := (-1 : Int32)) F.1 F.2.1 dX19_farWay_30 (by decide) ?_
    refine lv_icmp_eq (tgt := 75) F.1 F.2.1 dX19_farWay_31 (by decide) (fun c16 => ?_) (fun c16 => ?_)
    · replace h := zi_t c16 h
      exact bX19_farWay_75 hst F hA E hK7 x0 x1 x2 x3 x4 hx0 hx1 hr (lv_sub hl [1, 2, 3, 4, 5] rfl) h
    · replace h := zi_f c16 h
      refine lv_aload_n F.1 F.2.1 dX19_farWay_34 rfl (lv_at hl 1 rfl) ?_
      refine gf19_130 F hx0 hr dX19_farWay_35 ?_
      refine lv_bipush (v := (16 : Int32)) F.1 F.2.1 dX19_farWay_38 (by decide) ?_
      refine lv_aload_n F.1 F.2.1 dX19_farWay_40 rfl (lv_at hl 2 rfl) ?_
      refine gf19_310 F hx1 hr dX19_farWay_41 ?_
      refine lv_imul F.1 F.2.1 dX19_farWay_44 ?_
      refine lv_iload F.1 F.2.1 dX19_farWay_45 (lv_at hl 5 rfl) ?_
      refine lv_iadd F.1 F.2.1 dX19_farWay_47 ?_
      replace h := zk_some h
      obtain ⟨c17, h⟩ := h
      refine zr_iald (k := 190) (by decide) rfl (by decide) F (zal_a F hx0 (j := 29) rfl) hr dX19_farWay_48 c17 ?_
      refine lv_iload F.1 F.2.1 dX19_farWay_49 (lv_at hl 0 rfl) ?_
      refine lv_iadd F.1 F.2.1 dX19_farWay_51 ?_
      refine lv_iload_n F.1 F.2.1 dX19_farWay_52 rfl (lv_at hl 4 rfl) ?_
      refine lv_icmp_ge (tgt := 75) F.1 F.2.1 dX19_farWay_53 (by decide) (fun c18 => ?_) (fun c18 => ?_)
      · replace h := zi_t c18 h
        exact bX19_farWay_75 hst F hA E hK7 x0 x1 x2 x3 x4 hx0 hx1 hr (lv_sub hl [1, 2, 3, 4, 5] rfl) h
      · replace h := zi_f c18 h
        refine lv_aload_n F.1 F.2.1 dX19_farWay_56 rfl (lv_at hl 1 rfl) ?_
        refine gf19_130 F hx0 hr dX19_farWay_57 ?_
        refine lv_bipush (v := (16 : Int32)) F.1 F.2.1 dX19_farWay_60 (by decide) ?_
        refine lv_aload_n F.1 F.2.1 dX19_farWay_62 rfl (lv_at hl 2 rfl) ?_
        refine gf19_310 F hx1 hr dX19_farWay_63 ?_
        refine lv_imul F.1 F.2.1 dX19_farWay_66 ?_
        refine lv_iload F.1 F.2.1 dX19_farWay_67 (lv_at hl 5 rfl) ?_
        refine lv_iadd F.1 F.2.1 dX19_farWay_69 ?_
        replace h := zk_some h
        obtain ⟨c19, h⟩ := h
        refine zr_iald (k := 190) (by decide) rfl (by decide) F (zal_a F hx0 (j := 29) rfl) hr dX19_farWay_70 c19 ?_
        refine lv_iload F.1 F.2.1 dX19_farWay_71 (lv_at hl 0 rfl) ?_
        refine lv_iadd F.1 F.2.1 dX19_farWay_73 ?_
        refine lv_topi (fun v20 ev20 => ?_)
        replace h := zl_sub ev20 h
        refine lv_istore_n (lv' := [(3, .int v20), (5, .int r12), (0, .ref (B 19 x0)), (1, .ref (B 12 x1)), (2, .int x2), (4, .int x4)]) F.1 F.2.1 dX19_farWay_74 rfl hl (by decide) rfl (fun ls hl => ?_)
        exact bX19_farWay_75 hst F hA E hK7 x0 x1 x2 v20 x4 hx0 hx1 hr (lv_sub hl [2, 3, 4, 0, 5] rfl) h
theorem lX19_farWay_7 (hst : zSt B ids) (F : zFx p m c cX19_farWay 11 s args RX19 D cy B ids A) (hA : ∀ q : Nat, s.heap.size ≤ q → A q) {r : Int32} {z' : St} (E : zEnd p l e rmX19_farWay s m args below meth c cX19_farWay D cy B ids A Q none z' .return_ True) {N : Nat}  : ∀ (n : Nat) (x0 : Nat) (x1 : Nat) (x2 : Int32) (x3 : Int32) (x4 : Int32) (hx0 : (19, x0) ∈ ids) (hx1 : (12, x1) ∈ ids) {z : St} {H : Heap} {locs : List Loc} {ls : Array Slot} (hr : zRep D cy B ids A s.heap z H locs) (hl : lv_has ls 11 [(0, .ref (B 19 x0)), (1, .ref (B 12 x1)), (2, .int x2), (3, .int x3), (4, .int x4)]), fX19_farWay_7 N  n x0 x1 x2 x3 x4 z = some (r, z') → W p l e rmX19_farWay s m args below meth c H locs 0 0 Q (F0 m 7 ls []) := by
  intro n
  induction n with
  | zero => intro x0 x1 x2 x3 x4 hx0 hx1 z H locs ls hr hl h; cases h
  | succ n ih => intro x0 x1 x2 x3 x4 hx0 hx1 z H locs ls hr hl h; exact bX19_farWay_7 hst F hA E ih x0 x1 x2 x3 x4 hx0 hx1 hr hl h
def fX19_farWay (N : Nat)  (x0 : Nat) (x1 : Nat) (x2 : Int32) (z : St) : Option (Int32 × St) := fX19_farWay_7 N N x0 x1 x2 (1000000000 : Int32) (0 : Int32) z
set_option maxHeartbeats 4000000 in
set_option maxRecDepth 100000 in
theorem bX19_farWay_0 (hst : zSt B ids) (F : zFx p m c cX19_farWay 11 s args RX19 D cy B ids A) (hA : ∀ q : Nat, s.heap.size ≤ q → A q) {r : Int32} {z' : St} (E : zEnd p l e rmX19_farWay s m args below meth c cX19_farWay D cy B ids A Q none z' .return_ True) {N : Nat}  (x0 : Nat) (x1 : Nat) (x2 : Int32) (hx0 : (19, x0) ∈ ids) (hx1 : (12, x1) ∈ ids) {z : St} {H : Heap} {locs : List Loc} {ls : Array Slot} (hr : zRep D cy B ids A s.heap z H locs) (hl : lv_has ls 11 [(0, .ref (B 19 x0)), (1, .ref (B 12 x1)), (2, .int x2)]) (h : fX19_farWay N x0 x1 x2 z = some (r, z')) : W p l e rmX19_farWay s m args below meth c H locs 0 0 Q (F0 m 0 ls []) := by
  unfold fX19_farWay at h
  refine lv_ldcw (v := (1000000000)) F.1 F.2.1 F.2.2.2.1 (F.2.2.2.2.1 _ zq_2903) dX19_farWay_0 ?_
  refine lv_istore_n (lv' := [(3, .int (1000000000 : Int32)), (0, .ref (B 19 x0)), (1, .ref (B 12 x1)), (2, .int x2)]) F.1 F.2.1 dX19_farWay_3 rfl hl (by decide) rfl (fun ls hl => ?_)
  refine lv_iconst (v := (0 : Int32)) F.1 F.2.1 dX19_farWay_4 (by decide) ?_
  refine lv_istore (lv' := [(4, .int (0 : Int32)), (3, .int (1000000000 : Int32)), (0, .ref (B 19 x0)), (1, .ref (B 12 x1)), (2, .int x2)]) F.1 F.2.1 dX19_farWay_5 hl (by decide) rfl (fun ls hl => ?_)
  exact lX19_farWay_7 hst F hA E  _ x0 x1 x2 (1000000000 : Int32) (0 : Int32) hx0 hx1 hr (lv_sub hl [2, 3, 4, 1, 0] rfl) h
end SX19_farWay
set_option maxRecDepth 100000 in
theorem okX19_farWay (l : Launch) (D : va_G) (cy : Nat → ClassId) (B : Nat → Nat → Nat) (ids : List (Nat × Nat)) (hst : zSt B ids) (N : Nat) (x0 : Nat) (hx0 : (19, x0) ∈ ids) (x1 : Nat) (hx1 : (12, x1) ∈ ids) (x2 : Int32) {z : St} {r : Int32} {z' : St} (hW : zWf ids z) (h : fX19_farWay N x0 x1 x2 z = some (r, z')) : zM l yX19_farWay (zws yX19_farWay cX19_farWay 11 none) rmX19_farWay D cy B ids [.ref (B 19 x0), .ref (B 12 x1), .int x2] none True z z' :=
  zM_of hst hW (by decide +kernel) (Nat.le_of_ble_eq_true rfl) (fun p e s m args below meth c A ls F hA hret hlocks hr hl => bX19_farWay_0 hst F hA (zEnd_v F hret hlocks) x0 x1 x2 hx0 hx1 hr hl h)
abbrev rmX19_ways : Room := { frames := 4, cells := 0, slots := 0, locals := 100 }
theorem hdX19_ways : yX19_ways.cls ≠ "java/lang/invoke/MethodHandle" ∧ yX19_ways.cls ≠ "java/lang/invoke/VarHandle" ∧ (parseMethodDescriptor yX19_ways.desc).map (fun d => d.parameters.length) = some 1 := by decide +kernel
theorem hroX19_ways_X19_farWay : rmX19_farWay.frames + 1 ≤ rmX19_ways.frames ∧ 8 + (11 + 11) + rmX19_farWay.locals ≤ rmX19_ways.locals := by decide
theorem hroX19_ways_X19_leastSums : rmX19_leastSums.frames + 1 ≤ rmX19_ways.frames ∧ 8 + (7 + 11) + rmX19_leastSums.locals ≤ rmX19_ways.locals := by decide
section SX19_ways
variable {p : Program} {l : Launch} {e : Env} {s : State} {m : MethodId} {args : Array Value} {below : List Frame} {meth : Method} {c : Code} {Q : State → Prop} {D : va_G} {cy : Nat → ClassId} {B : Nat → Nat → Nat} {ids : List (Nat × Nat)} {A : Nat → Prop}
def fX19_ways_102 (N : Nat) (K20 : Nat → Nat → Int32 → St → Option (Int32 × St)) (K52 : Nat → Nat → Int32 → Option Nat → Int32 → St → Option (Int32 × St)) (x0 : Nat) (x1 : Nat) (x2 : Int32) (x4 : Int32) (s0 : Option Nat) (z : St) : Option (Int32 × St) := zl (x4 + 1) fun v1 => K52 x0 x1 x2 s0 v1 z
set_option maxHeartbeats 4000000 in
set_option maxRecDepth 100000 in
theorem bX19_ways_102 (hst : zSt B ids) (F : zFx p m c cX19_ways 5 s args RX19 D cy B ids A) (hA : ∀ q : Nat, s.heap.size ≤ q → A q) {r : Int32} {z' : St} (E : zEnd p l e rmX19_ways s m args below meth c cX19_ways D cy B ids A Q none z' .return_ True) {N : Nat} {K20 : Nat → Nat → Int32 → St → Option (Int32 × St)} {K52 : Nat → Nat → Int32 → Option Nat → Int32 → St → Option (Int32 × St)} (hK20 : ∀ (x0 : Nat) (x1 : Nat) (x2 : Int32) (hx0 : (19, x0) ∈ ids) (hx1 : (12, x1) ∈ ids) {z : St} {H : Heap} {locs : List Loc} {ls : Array Slot} (hr : zRep D cy B ids A s.heap z H locs) (hl : lv_has ls 5 [(0, .ref (B 19 x0)), (1, .ref (B 12 x1)), (2, .int x2)]), K20 x0 x1 x2 z = some (r, z') → W p l e rmX19_ways s m args below meth c H locs 0 0 Q (F0 m 20 ls [])) (hK52 : ∀ (x0 : Nat) (x1 : Nat) (x2 : Int32) (x3 : Option Nat) (x4 : Int32) (hx0 : (19, x0) ∈ ids) (hx1 : (12, x1) ∈ ids) (hx3 : ∀ t, x3 = some t → (18, t) ∈ ids) {z : St} {H : Heap} {locs : List Loc} {ls : Array Slot} (hr : zRep D cy B ids A s.heap z H locs) (hl : lv_has ls 5 [(0, .ref (B 19 x0)), (1, .ref (B 12 x1)), (2, .int x2), (3, va_rf (Option.map (B 18) x3)), (4, .int x4)]), K52 x0 x1 x2 x3 x4 z = some (r, z') → W p l e rmX19_ways s m args below meth c H locs 0 0 Q (F0 m 52 ls [])) (x0 : Nat) (x1 : Nat) (x2 : Int32) (x4 : Int32) (s0 : Option Nat) (hx0 : (19, x0) ∈ ids) (hx1 : (12, x1) ∈ ids) (hs0 : ∀ t, s0 = some t → (18, t) ∈ ids) {z : St} {H : Heap} {locs : List Loc} {ls : Array Slot} (hr : zRep D cy B ids A s.heap z H locs) (hl : lv_has ls 5 [(0, .ref (B 19 x0)), (1, .ref (B 12 x1)), (2, .int x2), (4, .int x4)]) (h : fX19_ways_102 N K20 K52 x0 x1 x2 x4 s0 z = some (r, z')) : W p l e rmX19_ways s m args below meth c H locs 0 0 Q (F0 m 102 ls [va_rf (Option.map (B 18) s0)]) := by
  unfold fX19_ways_102 at h
  refine zr_astore_n (lv' := [(3, va_rf (Option.map (B 18) s0)), (0, .ref (B 19 x0)), (1, .ref (B 12 x1)), (2, .int x2), (4, .int x4)]) F.1 F.2.1 dX19_ways_102 rfl hl (by decide) rfl (fun ls hl => ?_)
  obtain ⟨v1, ev1⟩ : ∃ y : Int32, y = (x4 + 1) := ⟨_, rfl⟩
  replace h := zl_sub ev1 h
  refine lv_iinc (v := v1) (lv' := [(4, .int v1), (3, va_rf (Option.map (B 18) s0)), (0, .ref (B 19 x0)), (1, .ref (B 12 x1)), (2, .int x2)]) F.1 F.2.1 dX19_ways_103 hl (k := 4) rfl (by rw [ev1]; rfl) (by decide) (by simp only [List.filter, zrf_cat]; rfl) (fun ls hl => ?_)
  refine lv_goto (tgt := 52) F.1 F.2.1 dX19_ways_106 (by decide) ?_
  exact hK52 x0 x1 x2 s0 v1 hx0 hx1 hs0 hr (lv_sub hl [2, 3, 4, 1, 0] rfl) h
def fX19_ways_101 (N : Nat) (K20 : Nat → Nat → Int32 → St → Option (Int32 × St)) (K52 : Nat → Nat → Int32 → Option Nat → Int32 → St → Option (Int32 × St)) (x0 : Nat) (x1 : Nat) (x2 : Int32) (x3 : Option Nat) (x4 : Int32) (z : St) : Option (Int32 × St) := fX19_ways_102 N K20 K52 x0 x1 x2 x4 x3 z
set_option maxHeartbeats 4000000 in
set_option maxRecDepth 100000 in
theorem bX19_ways_101 (hst : zSt B ids) (F : zFx p m c cX19_ways 5 s args RX19 D cy B ids A) (hA : ∀ q : Nat, s.heap.size ≤ q → A q) {r : Int32} {z' : St} (E : zEnd p l e rmX19_ways s m args below meth c cX19_ways D cy B ids A Q none z' .return_ True) {N : Nat} {K20 : Nat → Nat → Int32 → St → Option (Int32 × St)} {K52 : Nat → Nat → Int32 → Option Nat → Int32 → St → Option (Int32 × St)} (hK20 : ∀ (x0 : Nat) (x1 : Nat) (x2 : Int32) (hx0 : (19, x0) ∈ ids) (hx1 : (12, x1) ∈ ids) {z : St} {H : Heap} {locs : List Loc} {ls : Array Slot} (hr : zRep D cy B ids A s.heap z H locs) (hl : lv_has ls 5 [(0, .ref (B 19 x0)), (1, .ref (B 12 x1)), (2, .int x2)]), K20 x0 x1 x2 z = some (r, z') → W p l e rmX19_ways s m args below meth c H locs 0 0 Q (F0 m 20 ls [])) (hK52 : ∀ (x0 : Nat) (x1 : Nat) (x2 : Int32) (x3 : Option Nat) (x4 : Int32) (hx0 : (19, x0) ∈ ids) (hx1 : (12, x1) ∈ ids) (hx3 : ∀ t, x3 = some t → (18, t) ∈ ids) {z : St} {H : Heap} {locs : List Loc} {ls : Array Slot} (hr : zRep D cy B ids A s.heap z H locs) (hl : lv_has ls 5 [(0, .ref (B 19 x0)), (1, .ref (B 12 x1)), (2, .int x2), (3, va_rf (Option.map (B 18) x3)), (4, .int x4)]), K52 x0 x1 x2 x3 x4 z = some (r, z') → W p l e rmX19_ways s m args below meth c H locs 0 0 Q (F0 m 52 ls [])) (x0 : Nat) (x1 : Nat) (x2 : Int32) (x3 : Option Nat) (x4 : Int32) (hx0 : (19, x0) ∈ ids) (hx1 : (12, x1) ∈ ids) (hx3 : ∀ t, x3 = some t → (18, t) ∈ ids) {z : St} {H : Heap} {locs : List Loc} {ls : Array Slot} (hr : zRep D cy B ids A s.heap z H locs) (hl : lv_has ls 5 [(0, .ref (B 19 x0)), (1, .ref (B 12 x1)), (2, .int x2), (3, va_rf (Option.map (B 18) x3)), (4, .int x4)]) (h : fX19_ways_101 N K20 K52 x0 x1 x2 x3 x4 z = some (r, z')) : W p l e rmX19_ways s m args below meth c H locs 0 0 Q (F0 m 101 ls []) := by
  unfold fX19_ways_101 at h
  refine zr_aload_n F.1 F.2.1 dX19_ways_101 rfl (lv_at hl 3 rfl) ?_
  exact bX19_ways_102 hst F hA E hK20 hK52 x0 x1 x2 x4 x3 hx0 hx1 hx3 hr (lv_sub hl [0, 1, 2, 4] rfl) h
def fX19_ways_149 (N : Nat) (K20 : Nat → Nat → Int32 → St → Option (Int32 × St)) (x0 : Nat) (x1 : Nat) (x2 : Int32) (z : St) : Option (Int32 × St) := zl (x2 + 1) fun v1 => K20 x0 x1 v1 z
set_option maxHeartbeats 4000000 in
set_option maxRecDepth 100000 in
theorem bX19_ways_149 (hst : zSt B ids) (F : zFx p m c cX19_ways 5 s args RX19 D cy B ids A) (hA : ∀ q : Nat, s.heap.size ≤ q → A q) {r : Int32} {z' : St} (E : zEnd p l e rmX19_ways s m args below meth c cX19_ways D cy B ids A Q none z' .return_ True) {N : Nat} {K20 : Nat → Nat → Int32 → St → Option (Int32 × St)} (hK20 : ∀ (x0 : Nat) (x1 : Nat) (x2 : Int32) (hx0 : (19, x0) ∈ ids) (hx1 : (12, x1) ∈ ids) {z : St} {H : Heap} {locs : List Loc} {ls : Array Slot} (hr : zRep D cy B ids A s.heap z H locs) (hl : lv_has ls 5 [(0, .ref (B 19 x0)), (1, .ref (B 12 x1)), (2, .int x2)]), K20 x0 x1 x2 z = some (r, z') → W p l e rmX19_ways s m args below meth c H locs 0 0 Q (F0 m 20 ls [])) (x0 : Nat) (x1 : Nat) (x2 : Int32) (hx0 : (19, x0) ∈ ids) (hx1 : (12, x1) ∈ ids) {z : St} {H : Heap} {locs : List Loc} {ls : Array Slot} (hr : zRep D cy B ids A s.heap z H locs) (hl : lv_has ls 5 [(0, .ref (B 19 x0)), (1, .ref (B 12 x1)), (2, .int x2)]) (h : fX19_ways_149 N K20 x0 x1 x2 z = some (r, z')) : W p l e rmX19_ways s m args below meth c H locs 0 0 Q (F0 m 149 ls []) := by
  unfold fX19_ways_149 at h
  obtain ⟨v1, ev1⟩ : ∃ y : Int32, y = (x2 + 1) := ⟨_, rfl⟩
  replace h := zl_sub ev1 h
  refine lv_iinc (v := v1) (lv' := [(2, .int v1), (0, .ref (B 19 x0)), (1, .ref (B 12 x1))]) F.1 F.2.1 dX19_ways_149 hl (k := 2) rfl (by rw [ev1]; rfl) (by decide) rfl (fun ls hl => ?_)
  refine lv_goto (tgt := 20) F.1 F.2.1 dX19_ways_152 (by decide) ?_
  exact hK20 x0 x1 v1 hx0 hx1 hr (lv_sub hl [1, 2, 0] rfl) h
def fX19_ways_52b (N : Nat) (K20 : Nat → Nat → Int32 → St → Option (Int32 × St)) (K52 : Nat → Nat → Int32 → Option Nat → Int32 → St → Option (Int32 × St)) (x0 : Nat) (x1 : Nat) (x2 : Int32) (x3 : Option Nat) (x4 : Int32) (z : St) : Option (Int32 × St) := if (zgI z 12 3 x1) ≤ x4 then (zo x3 (zc (fX19_farWay N x0 x1 x2 z) fun _ z5 => fX19_ways_149 N K20 x0 x1 x2 z5) fun a3 => zk x2 24 <| zl (zsA z 155 x1 (Int32.toNatClampNeg x2) (zgI z 18 4 a3)) fun z9 => zk x2 24 <| zl (zsA z9 156 x1 (Int32.toNatClampNeg x2) (zgI z9 12 0 x1)) fun z11 => zk x2 24 <| zl (zsA z11 157 x1 (Int32.toNatClampNeg x2) x2) fun z13 => fX19_ways_149 N K20 x0 x1 x2 z13) else (zk x4 6 <| zl (zgQ z 147 x1 (Int32.toNatClampNeg x4)) fun y15 => zd y15 fun a16 => zl (zgR z 18 2 a16) fun y17 => zd y17 fun a18 => if ¬ (zgI z 16 0 a18) = x2 then (fX19_ways_101 N K20 K52 x0 x1 x2 x3 x4 z) else (zk x4 6 <| zl (zgQ z 147 x1 (Int32.toNatClampNeg x4)) fun y21 => zd y21 fun a22 => if (zgI z 18 5 a22) = 0 then (fX19_ways_101 N K20 K52 x0 x1 x2 x3 x4 z) else (zk x4 6 <| zl (zgQ z 147 x1 (Int32.toNatClampNeg x4)) fun y25 => fX19_ways_102 N K20 K52 x0 x1 x2 x4 y25 z)))
def fX19_ways_52 (N : Nat) (K20 : Nat → Nat → Int32 → St → Option (Int32 × St)) : Nat → Nat → Nat → Int32 → Option Nat → Int32 → St → Option (Int32 × St)
  | 0 => fun _ _ _ _ _ _ => none
  | n + 1 => fX19_ways_52b N K20 (fX19_ways_52 N K20 n)
set_option maxHeartbeats 4000000 in
set_option maxRecDepth 100000 in
theorem bX19_ways_52 (hst : zSt B ids) (F : zFx p m c cX19_ways 5 s args RX19 D cy B ids A) (hA : ∀ q : Nat, s.heap.size ≤ q → A q) {r : Int32} {z' : St} (E : zEnd p l e rmX19_ways s m args below meth c cX19_ways D cy B ids A Q none z' .return_ True) {N : Nat} {K20 : Nat → Nat → Int32 → St → Option (Int32 × St)} {K52 : Nat → Nat → Int32 → Option Nat → Int32 → St → Option (Int32 × St)} (hK20 : ∀ (x0 : Nat) (x1 : Nat) (x2 : Int32) (hx0 : (19, x0) ∈ ids) (hx1 : (12, x1) ∈ ids) {z : St} {H : Heap} {locs : List Loc} {ls : Array Slot} (hr : zRep D cy B ids A s.heap z H locs) (hl : lv_has ls 5 [(0, .ref (B 19 x0)), (1, .ref (B 12 x1)), (2, .int x2)]), K20 x0 x1 x2 z = some (r, z') → W p l e rmX19_ways s m args below meth c H locs 0 0 Q (F0 m 20 ls [])) (hK52 : ∀ (x0 : Nat) (x1 : Nat) (x2 : Int32) (x3 : Option Nat) (x4 : Int32) (hx0 : (19, x0) ∈ ids) (hx1 : (12, x1) ∈ ids) (hx3 : ∀ t, x3 = some t → (18, t) ∈ ids) {z : St} {H : Heap} {locs : List Loc} {ls : Array Slot} (hr : zRep D cy B ids A s.heap z H locs) (hl : lv_has ls 5 [(0, .ref (B 19 x0)), (1, .ref (B 12 x1)), (2, .int x2), (3, va_rf (Option.map (B 18) x3)), (4, .int x4)]), K52 x0 x1 x2 x3 x4 z = some (r, z') → W p l e rmX19_ways s m args below meth c H locs 0 0 Q (F0 m 52 ls [])) (x0 : Nat) (x1 : Nat) (x2 : Int32) (x3 : Option Nat) (x4 : Int32) (hx0 : (19, x0) ∈ ids) (hx1 : (12, x1) ∈ ids) (hx3 : ∀ t, x3 = some t → (18, t) ∈ ids) {z : St} {H : Heap} {locs : List Loc} {ls : Array Slot} (hr : zRep D cy B ids A s.heap z H locs) (hl : lv_has ls 5 [(0, .ref (B 19 x0)), (1, .ref (B 12 x1)), (2, .int x2), (3, va_rf (Option.map (B 18) x3)), (4, .int x4)]) (h : fX19_ways_52b N K20 K52 x0 x1 x2 x3 x4 z = some (r, z')) : W p l e rmX19_ways s m args below meth c H locs 0 0 Q (F0 m 52 ls []) := by
  unfold fX19_ways_52b at h
  refine lv_iload F.1 F.2.1 dX19_ways_52 (lv_at hl 4 rfl) ?_
  refine lv_aload_n F.1 F.2.1 dX19_ways_54 rfl (lv_at hl 1 rfl) ?_
  refine gf19_273 F hx1 hr dX19_ways_55 ?_
  refine lv_icmp_ge (tgt := 109) F.1 F.2.1 dX19_ways_58 (by decide) (fun c1 => ?_) (fun c1 => ?_)
  · replace h := zi_t c1 h
    refine zr_aload_n F.1 F.2.1 dX19_ways_109 rfl (lv_at hl 3 rfl) ?_
    refine zr_ifnull (tgt := 143) F.1 F.2.1 dX19_ways_110 (by decide) (fun e2 => ?_) (fun a3 e2 => ?_)
    · replace h := zo_n e2 h
      subst e2
      refine lv_aload_n F.1 F.2.1 dX19_ways_143 rfl (lv_at hl 0 rfl) ?_
      refine lv_aload_n F.1 F.2.1 dX19_ways_144 rfl (lv_at hl 1 rfl) ?_
      refine lv_iload_n F.1 F.2.1 dX19_ways_145 rfl (lv_at hl 2 rfl) ?_
      replace h := zc_some h
      obtain ⟨r4, z5, hc6, h⟩ := h
      refine zr_callv (zrun_V (As := [.ref (B 12 x1), .int x2]) (rest := []) zq_2916 zq_2918 zs_X19_farWay zq_2919 zq_4 hdX19_farWay (by decide) (T := TX19) (N := 32) rfl (okX19_farWay l D cy B ids hst N x0 hx0 x1 hx1 x2  hr.2.2 hc6) F hr hx0 hl.1 rfl (by decide) dX19_ways_146 rfl rfl hroX19_ways_X19_farWay ⟨Nat.zero_le _, Nat.zero_le _⟩) F hA hr (fun H locs hw7 hr => ?_)
      clear hc6
      exact bX19_ways_149 hst F hA E hK20 x0 x1 x2 hx0 hx1 hr (lv_sub hl [0, 1, 2] rfl) h
    · replace h := zo_s e2 h
      subst e2
      refine lv_aload_n F.1 F.2.1 dX19_ways_113 rfl (lv_at hl 1 rfl) ?_
      refine gf19_301 F hx1 hr dX19_ways_114 ?_
      refine lv_iload_n F.1 F.2.1 dX19_ways_117 rfl (lv_at hl 2 rfl) ?_
      refine lv_aload_n F.1 F.2.1 dX19_ways_118 rfl (lv_at hl 3 rfl) ?_
      refine gf19_520 F (hx3 _ rfl) hr dX19_ways_119 ?_
      replace h := zk_some h
      obtain ⟨c8, h⟩ := h
      refine zr_iast (k := 155) (by decide) rfl (by decide) F (zal_a F hx1 (j := 25) rfl) hr dX19_ways_122 c8 (fun H locs z9 ez9 hr => ?_)
      replace h := zl_sub ez9 h
      clear ez9
      refine lv_aload_n F.1 F.2.1 dX19_ways_123 rfl (lv_at hl 1 rfl) ?_
      refine gf19_307 F hx1 hr dX19_ways_124 ?_
      refine lv_iload_n F.1 F.2.1 dX19_ways_127 rfl (lv_at hl 2 rfl) ?_
      refine lv_aload_n F.1 F.2.1 dX19_ways_128 rfl (lv_at hl 1 rfl) ?_
      refine gf19_310 F hx1 hr dX19_ways_129 ?_
      replace h := zk_some h
      obtain ⟨c10, h⟩ := h
      refine zr_iast (k := 156) (by decide) rfl (by decide) F (zal_a F hx1 (j := 26) rfl) hr dX19_ways_132 c10 (fun H locs z11 ez11 hr => ?_)
      replace h := zl_sub ez11 h
      clear ez11
      refine lv_aload_n F.1 F.2.1 dX19_ways_133 rfl (lv_at hl 1 rfl) ?_
      refine gf19_304 F hx1 hr dX19_ways_134 ?_
      refine lv_iload_n F.1 F.2.1 dX19_ways_137 rfl (lv_at hl 2 rfl) ?_
      refine lv_iload_n F.1 F.2.1 dX19_ways_138 rfl (lv_at hl 2 rfl) ?_
      replace h := zk_some h
      obtain ⟨c12, h⟩ := h
      refine zr_iast (k := 157) (by decide) rfl (by decide) F (zal_a F hx1 (j := 27) rfl) hr dX19_ways_139 c12 (fun H locs z13 ez13 hr => ?_)
      replace h := zl_sub ez13 h
      clear ez13
      refine lv_goto (tgt := 149) F.1 F.2.1 dX19_ways_140 (by decide) ?_
      exact bX19_ways_149 hst F hA E hK20 x0 x1 x2 hx0 hx1 hr (lv_sub hl [0, 1, 2] rfl) h
  · replace h := zi_f c1 h
    refine lv_aload_n F.1 F.2.1 dX19_ways_61 rfl (lv_at hl 1 rfl) ?_
    refine gf19_276 F hx1 hr dX19_ways_62 ?_
    refine lv_iload F.1 F.2.1 dX19_ways_65 (lv_at hl 4 rfl) ?_
    replace h := zk_some h
    obtain ⟨c14, h⟩ := h
    refine zr_aaldv (k := 147) (by decide) rfl rfl (zlen_d (by decide)) F (zal_a F hx1 (j := 2) rfl) hr dX19_ways_67 c14 (fun y15 ey15 => ?_)
    replace h := zl_sub ey15 h
    have hy15 := zal_q hr (zal_a F hx1 (j := 2) rfl) rfl ey15
    clear ey15
    replace h := zd_some h
    obtain ⟨a16, rfl, h⟩ := h
    refine gf19_149 F (hy15 _ rfl) hr dX19_ways_68 (fun y17 ey17 => ?_)
    replace h := zl_sub ey17 h
    have hy17 := zal_g hr (hy15 _ rfl) (j := 2) rfl ey17
    clear ey17
    replace h := zd_some h
    obtain ⟨a18, rfl, h⟩ := h
    refine gf19_181 F (hy17 _ rfl) hr dX19_ways_71 ?_
    refine lv_iload_n F.1 F.2.1 dX19_ways_74 rfl (lv_at hl 2 rfl) ?_
    refine lv_icmp_ne (tgt := 101) F.1 F.2.1 dX19_ways_75 (by decide) (fun c19 => ?_) (fun c19 => ?_)
    · replace h := zi_t c19 h
      exact bX19_ways_101 hst F hA E hK20 hK52 x0 x1 x2 x3 x4 hx0 hx1 hx3 hr (lv_sub hl [0, 1, 2, 3, 4] rfl) h
    · replace h := zi_f (fun q => q c19) h
      refine lv_aload_n F.1 F.2.1 dX19_ways_78 rfl (lv_at hl 1 rfl) ?_
      refine gf19_276 F hx1 hr dX19_ways_79 ?_
      refine lv_iload F.1 F.2.1 dX19_ways_82 (lv_at hl 4 rfl) ?_
      replace h := zk_some h
      obtain ⟨c20, h⟩ := h
      refine zr_aaldv (k := 147) (by decide) rfl rfl (zlen_d (by decide)) F (zal_a F hx1 (j := 2) rfl) hr dX19_ways_84 c20 (fun y21 ey21 => ?_)
      replace h := zl_sub ey21 h
      have hy21 := zal_q hr (zal_a F hx1 (j := 2) rfl) rfl ey21
      clear ey21
      replace h := zd_some h
      obtain ⟨a22, rfl, h⟩ := h
      refine gf19_479 F (hy21 _ rfl) hr dX19_ways_85 ?_
      refine lv_if_eq (tgt := 101) F.1 F.2.1 dX19_ways_88 (by decide) (fun c23 => ?_) (fun c23 => ?_)
      · replace h := zi_t c23 h
        exact bX19_ways_101 hst F hA E hK20 hK52 x0 x1 x2 x3 x4 hx0 hx1 hx3 hr (lv_sub hl [0, 1, 2, 3, 4] rfl) h
      · replace h := zi_f c23 h
        refine lv_aload_n F.1 F.2.1 dX19_ways_91 rfl (lv_at hl 1 rfl) ?_
        refine gf19_276 F hx1 hr dX19_ways_92 ?_
        refine lv_iload F.1 F.2.1 dX19_ways_95 (lv_at hl 4 rfl) ?_
        replace h := zk_some h
        obtain ⟨c24, h⟩ := h
        refine zr_aaldv (k := 147) (by decide) rfl rfl (zlen_d (by decide)) F (zal_a F hx1 (j := 2) rfl) hr dX19_ways_97 c24 (fun y25 ey25 => ?_)
        replace h := zl_sub ey25 h
        have hy25 := zal_q hr (zal_a F hx1 (j := 2) rfl) rfl ey25
        clear ey25
        refine lv_goto (tgt := 102) F.1 F.2.1 dX19_ways_98 (by decide) ?_
        exact bX19_ways_102 hst F hA E hK20 hK52 x0 x1 x2 x4 y25 hx0 hx1 hy25 hr (lv_sub hl [0, 1, 2, 4] rfl) h
theorem lX19_ways_52 (hst : zSt B ids) (F : zFx p m c cX19_ways 5 s args RX19 D cy B ids A) (hA : ∀ q : Nat, s.heap.size ≤ q → A q) {r : Int32} {z' : St} (E : zEnd p l e rmX19_ways s m args below meth c cX19_ways D cy B ids A Q none z' .return_ True) {N : Nat} {K20 : Nat → Nat → Int32 → St → Option (Int32 × St)} (hK20 : ∀ (x0 : Nat) (x1 : Nat) (x2 : Int32) (hx0 : (19, x0) ∈ ids) (hx1 : (12, x1) ∈ ids) {z : St} {H : Heap} {locs : List Loc} {ls : Array Slot} (hr : zRep D cy B ids A s.heap z H locs) (hl : lv_has ls 5 [(0, .ref (B 19 x0)), (1, .ref (B 12 x1)), (2, .int x2)]), K20 x0 x1 x2 z = some (r, z') → W p l e rmX19_ways s m args below meth c H locs 0 0 Q (F0 m 20 ls [])) : ∀ (n : Nat) (x0 : Nat) (x1 : Nat) (x2 : Int32) (x3 : Option Nat) (x4 : Int32) (hx0 : (19, x0) ∈ ids) (hx1 : (12, x1) ∈ ids) (hx3 : ∀ t, x3 = some t → (18, t) ∈ ids) {z : St} {H : Heap} {locs : List Loc} {ls : Array Slot} (hr : zRep D cy B ids A s.heap z H locs) (hl : lv_has ls 5 [(0, .ref (B 19 x0)), (1, .ref (B 12 x1)), (2, .int x2), (3, va_rf (Option.map (B 18) x3)), (4, .int x4)]), fX19_ways_52 N K20 n x0 x1 x2 x3 x4 z = some (r, z') → W p l e rmX19_ways s m args below meth c H locs 0 0 Q (F0 m 52 ls []) := by
  intro n
  induction n with
  | zero => intro x0 x1 x2 x3 x4 hx0 hx1 hx3 z H locs ls hr hl h; cases h
  | succ n ih => intro x0 x1 x2 x3 x4 hx0 hx1 hx3 z H locs ls hr hl h; exact bX19_ways_52 hst F hA E hK20 ih x0 x1 x2 x3 x4 hx0 hx1 hx3 hr hl h
def fX19_ways_20b (N : Nat) (K20 : Nat → Nat → Int32 → St → Option (Int32 × St)) (x0 : Nat) (x1 : Nat) (x2 : Int32) (z : St) : Option (Int32 × St) := if (24 : Int32) ≤ x2 then (some (0, z)) else (zk x2 24 <| zl (zsA z 155 x1 (Int32.toNatClampNeg x2) (-1 : Int32)) fun z3 => zk x2 24 <| zl (zsA z3 156 x1 (Int32.toNatClampNeg x2) (-1 : Int32)) fun z5 => zk x2 24 <| zl (zsA z5 157 x1 (Int32.toNatClampNeg x2) (-1 : Int32)) fun z7 => fX19_ways_52 N K20 N x0 x1 x2 none (0 : Int32) z7)
def fX19_ways_20 (N : Nat)  : Nat → Nat → Nat → Int32 → St → Option (Int32 × St)
  | 0 => fun _ _ _ _ => none
  | n + 1 => fX19_ways_20b N (fX19_ways_20 N  n)
set_option maxHeartbeats 4000000 in
set_option maxRecDepth 100000 in
theorem bX19_ways_20 (hst : zSt B ids) (F : zFx p m c cX19_ways 5 s args RX19 D cy B ids A) (hA : ∀ q : Nat, s.heap.size ≤ q → A q) {r : Int32} {z' : St} (E : zEnd p l e rmX19_ways s m args below meth c cX19_ways D cy B ids A Q none z' .return_ True) {N : Nat} {K20 : Nat → Nat → Int32 → St → Option (Int32 × St)} (hK20 : ∀ (x0 : Nat) (x1 : Nat) (x2 : Int32) (hx0 : (19, x0) ∈ ids) (hx1 : (12, x1) ∈ ids) {z : St} {H : Heap} {locs : List Loc} {ls : Array Slot} (hr : zRep D cy B ids A s.heap z H locs) (hl : lv_has ls 5 [(0, .ref (B 19 x0)), (1, .ref (B 12 x1)), (2, .int x2)]), K20 x0 x1 x2 z = some (r, z') → W p l e rmX19_ways s m args below meth c H locs 0 0 Q (F0 m 20 ls [])) (x0 : Nat) (x1 : Nat) (x2 : Int32) (hx0 : (19, x0) ∈ ids) (hx1 : (12, x1) ∈ ids) {z : St} {H : Heap} {locs : List Loc} {ls : Array Slot} (hr : zRep D cy B ids A s.heap z H locs) (hl : lv_has ls 5 [(0, .ref (B 19 x0)), (1, .ref (B 12 x1)), (2, .int x2)]) (h : fX19_ways_20b N K20 x0 x1 x2 z = some (r, z')) : W p l e rmX19_ways s m args below meth c H locs 0 0 Q (F0 m 20 ls []) := by
  unfold fX19_ways_20b at h
  refine lv_iload_n F.1 F.2.1 dX19_ways_20 rfl (lv_at hl 2 rfl) ?_
  refine lv_bipush (v := (24 : Int32)) F.1 F.2.1 dX19_ways_21 (by decide) ?_
  refine lv_icmp_ge (tgt := 155) F.1 F.2.1 dX19_ways_23 (by decide) (fun c1 => ?_) (fun c1 => ?_)
  · replace h := zi_t c1 h
    obtain ⟨rfl, rfl⟩ := zret h
    exact E _ _ _ _ dX19_ways_155 trivial hr
  · replace h := zi_f c1 h
    refine lv_aload_n F.1 F.2.1 dX19_ways_26 rfl (lv_at hl 1 rfl) ?_
    refine gf19_301 F hx1 hr dX19_ways_27 ?_
    refine lv_iload_n F.1 F.2.1 dX19_ways_30 rfl (lv_at hl 2 rfl) ?_
    refine lv_iconst (v := (-1 : Int32)) F.1 F.2.1 dX19_ways_31 (by decide) ?_
    replace h := zk_some h
    obtain ⟨c2, h⟩ := h
    refine zr_iast (k := 155) (by decide) rfl (by decide) F (zal_a F hx1 (j := 25) rfl) hr dX19_ways_32 c2 (fun H locs z3 ez3 hr => ?_)
    replace h := zl_sub ez3 h
    clear ez3
    refine lv_aload_n F.1 F.2.1 dX19_ways_33 rfl (lv_at hl 1 rfl) ?_
    refine gf19_307 F hx1 hr dX19_ways_34 ?_
    refine lv_iload_n F.1 F.2.1 dX19_ways_37 rfl (lv_at hl 2 rfl) ?_
    refine lv_iconst (v := (-1 : Int32)) F.1 F.2.1 dX19_ways_38 (by decide) ?_
    replace h := zk_some h
    obtain ⟨c4, h⟩ := h
    refine zr_iast (k := 156) (by decide) rfl (by decide) F (zal_a F hx1 (j := 26) rfl) hr dX19_ways_39 c4 (fun H locs z5 ez5 hr => ?_)
    replace h := zl_sub ez5 h
    clear ez5
    refine lv_aload_n F.1 F.2.1 dX19_ways_40 rfl (lv_at hl 1 rfl) ?_
    refine gf19_304 F hx1 hr dX19_ways_41 ?_
    refine lv_iload_n F.1 F.2.1 dX19_ways_44 rfl (lv_at hl 2 rfl) ?_
    refine lv_iconst (v := (-1 : Int32)) F.1 F.2.1 dX19_ways_45 (by decide) ?_
    replace h := zk_some h
    obtain ⟨c6, h⟩ := h
    refine zr_iast (k := 157) (by decide) rfl (by decide) F (zal_a F hx1 (j := 27) rfl) hr dX19_ways_46 c6 (fun H locs z7 ez7 hr => ?_)
    replace h := zl_sub ez7 h
    clear ez7
    refine lv_null F.1 F.2.1 dX19_ways_47 ?_
    refine lv_astore_nN (lv' := [(3, .null), (0, .ref (B 19 x0)), (1, .ref (B 12 x1)), (2, .int x2)]) F.1 F.2.1 dX19_ways_48 rfl hl (by decide) rfl (fun ls hl => ?_)
    refine lv_iconst (v := (0 : Int32)) F.1 F.2.1 dX19_ways_49 (by decide) ?_
    refine lv_istore (lv' := [(4, .int (0 : Int32)), (3, .null), (0, .ref (B 19 x0)), (1, .ref (B 12 x1)), (2, .int x2)]) F.1 F.2.1 dX19_ways_50 hl (by decide) rfl (fun ls hl => ?_)
    exact lX19_ways_52 hst F hA E hK20 _ x0 x1 x2 none (0 : Int32) hx0 hx1 zal_0 hr (lv_sub hl [2, 3, 4, 1, 0] rfl) h
theorem lX19_ways_20 (hst : zSt B ids) (F : zFx p m c cX19_ways 5 s args RX19 D cy B ids A) (hA : ∀ q : Nat, s.heap.size ≤ q → A q) {r : Int32} {z' : St} (E : zEnd p l e rmX19_ways s m args below meth c cX19_ways D cy B ids A Q none z' .return_ True) {N : Nat}  : ∀ (n : Nat) (x0 : Nat) (x1 : Nat) (x2 : Int32) (hx0 : (19, x0) ∈ ids) (hx1 : (12, x1) ∈ ids) {z : St} {H : Heap} {locs : List Loc} {ls : Array Slot} (hr : zRep D cy B ids A s.heap z H locs) (hl : lv_has ls 5 [(0, .ref (B 19 x0)), (1, .ref (B 12 x1)), (2, .int x2)]), fX19_ways_20 N  n x0 x1 x2 z = some (r, z') → W p l e rmX19_ways s m args below meth c H locs 0 0 Q (F0 m 20 ls []) := by
  intro n
  induction n with
  | zero => intro x0 x1 x2 hx0 hx1 z H locs ls hr hl h; cases h
  | succ n ih => intro x0 x1 x2 hx0 hx1 z H locs ls hr hl h; exact bX19_ways_20 hst F hA E ih x0 x1 x2 hx0 hx1 hr hl h
def fX19_ways (N : Nat)  (x0 : Nat) (x1 : Nat) (z : St) : Option (Int32 × St) := if ¬ (zgI z 12 23 x1) = 0 then (zl (zsI z 12 23 x1 (0 : Int32)) fun z2 => zc (fX19_leastSums N x0 x1 z2) fun _ z4 => fX19_ways_20 N N x0 x1 (0 : Int32) z4) else (some (0, z))
set_option maxHeartbeats 4000000 in
set_option maxRecDepth 100000 in
theorem bX19_ways_0 (hst : zSt B ids) (F : zFx p m c cX19_ways 5 s args RX19 D cy B ids A) (hA : ∀ q : Nat, s.heap.size ≤ q → A q) {r : Int32} {z' : St} (E : zEnd p l e rmX19_ways s m args below meth c cX19_ways D cy B ids A Q none z' .return_ True) {N : Nat}  (x0 : Nat) (x1 : Nat) (hx0 : (19, x0) ∈ ids) (hx1 : (12, x1) ∈ ids) {z : St} {H : Heap} {locs : List Loc} {ls : Array Slot} (hr : zRep D cy B ids A s.heap z H locs) (hl : lv_has ls 5 [(0, .ref (B 19 x0)), (1, .ref (B 12 x1))]) (h : fX19_ways N x0 x1 z = some (r, z')) : W p l e rmX19_ways s m args below meth c H locs 0 0 Q (F0 m 0 ls []) := by
  unfold fX19_ways at h
  refine lv_aload_n F.1 F.2.1 dX19_ways_0 rfl (lv_at hl 1 rfl) ?_
  refine gf19_489 F hx1 hr dX19_ways_1 ?_
  refine lv_if_ne (tgt := 8) F.1 F.2.1 dX19_ways_4 (by decide) (fun c1 => ?_) (fun c1 => ?_)
  · replace h := zi_t c1 h
    refine lv_aload_n F.1 F.2.1 dX19_ways_8 rfl (lv_at hl 1 rfl) ?_
    refine lv_iconst (v := (0 : Int32)) F.1 F.2.1 dX19_ways_9 (by decide) ?_
    refine pf19_489 F hx1 hr dX19_ways_10 (0 : Int32) (by decide) (fun H locs z2 ez2 hr => ?_)
    replace h := zl_sub ez2 h
    clear ez2
    refine lv_aload_n F.1 F.2.1 dX19_ways_13 rfl (lv_at hl 0 rfl) ?_
    refine lv_aload_n F.1 F.2.1 dX19_ways_14 rfl (lv_at hl 1 rfl) ?_
    replace h := zc_some h
    obtain ⟨r3, z4, hc5, h⟩ := h
    refine zr_callv (zrun_V (As := [.ref (B 12 x1)]) (rest := []) zq_2899 zq_2901 zs_X19_leastSums zq_2902 zq_4 hdX19_leastSums (by decide) (T := TX19) (N := 32) rfl (okX19_leastSums l D cy B ids hst N x0 hx0 x1 hx1 hr.2.2 hc5) F hr hx0 hl.1 rfl (by decide) dX19_ways_15 rfl rfl hroX19_ways_X19_leastSums ⟨Nat.zero_le _, Nat.zero_le _⟩) F hA hr (fun H locs hw6 hr => ?_)
    clear hc5
    refine lv_iconst (v := (0 : Int32)) F.1 F.2.1 dX19_ways_18 (by decide) ?_
    refine lv_istore_n (lv' := [(2, .int (0 : Int32)), (0, .ref (B 19 x0)), (1, .ref (B 12 x1))]) F.1 F.2.1 dX19_ways_19 rfl hl (by decide) rfl (fun ls hl => ?_)
    exact lX19_ways_20 hst F hA E  _ x0 x1 (0 : Int32) hx0 hx1 hr (lv_sub hl [1, 2, 0] rfl) h
  · replace h := zi_f (fun q => q c1) h
    obtain ⟨rfl, rfl⟩ := zret h
    exact E _ _ _ _ dX19_ways_7 trivial hr
end SX19_ways
set_option maxRecDepth 100000 in
theorem okX19_ways (l : Launch) (D : va_G) (cy : Nat → ClassId) (B : Nat → Nat → Nat) (ids : List (Nat × Nat)) (hst : zSt B ids) (N : Nat) (x0 : Nat) (hx0 : (19, x0) ∈ ids) (x1 : Nat) (hx1 : (12, x1) ∈ ids) {z : St} {r : Int32} {z' : St} (hW : zWf ids z) (h : fX19_ways N x0 x1 z = some (r, z')) : zM l yX19_ways (zws yX19_ways cX19_ways 5 none) rmX19_ways D cy B ids [.ref (B 19 x0), .ref (B 12 x1)] none True z z' :=
  zM_of hst hW (by decide +kernel) (Nat.le_of_ble_eq_true rfl) (fun p e s m args below meth c A ls F hA hret hlocks hr hl => bX19_ways_0 hst F hA (zEnd_v F hret hlocks) x0 x1 hx0 hx1 hr hl h)
abbrev rmX19_toldBy : Room := { frames := 2, cells := 0, slots := 0, locals := 47 }
theorem hdX19_toldBy : yX19_toldBy.cls ≠ "java/lang/invoke/MethodHandle" ∧ yX19_toldBy.cls ≠ "java/lang/invoke/VarHandle" ∧ (parseMethodDescriptor yX19_toldBy.desc).map (fun d => d.parameters.length) = some 4 := by decide +kernel
theorem hroX19_toldBy_X14_room : rmX14_room.frames + 1 ≤ rmX19_toldBy.frames ∧ 8 + (1 + 11) + rmX14_room.locals ≤ rmX19_toldBy.locals := by decide
theorem hroX19_toldBy_X19_newSegment : rmX19_newSegment.frames + 1 ≤ rmX19_toldBy.frames ∧ 8 + (5 + 11) + rmX19_newSegment.locals ≤ rmX19_toldBy.locals := by decide
theorem hroX19_toldBy_X19_setByte : rmX19_setByte.frames + 1 ≤ rmX19_toldBy.frames ∧ 8 + (6 + 11) + rmX19_setByte.locals ≤ rmX19_toldBy.locals := by decide
theorem hroX19_toldBy_X19_setSeg : rmX19_setSeg.frames + 1 ≤ rmX19_toldBy.frames ∧ 8 + (4 + 11) + rmX19_setSeg.locals ≤ rmX19_toldBy.locals := by decide
section SX19_toldBy
variable {p : Program} {l : Launch} {e : Env} {s : State} {m : MethodId} {args : Array Value} {below : List Frame} {meth : Method} {c : Code} {Q : State → Prop} {D : va_G} {cy : Nat → ClassId} {B : Nat → Nat → Nat} {ids : List (Nat × Nat)} {A : Nat → Prop}
def fX19_toldBy_128 (N : Nat)  (x5 : Int32) (s0 : Nat) (z : St) : Option (Int32 × St) := zl (zsI z 14 32 s0 (0 : Int32)) fun z1 => some (x5, z1)
set_option maxHeartbeats 4000000 in
set_option maxRecDepth 100000 in
theorem bX19_toldBy_128 (hst : zSt B ids) (F : zFx p m c cX19_toldBy 7 s args RX19 D cy B ids A) (hA : ∀ q : Nat, s.heap.size ≤ q → A q) {r : Int32} {z' : St} (E : zEnd p l e rmX19_toldBy s m args below meth c cX19_toldBy D cy B ids A Q (some (.int r)) z' .ireturn True) {N : Nat}  (x5 : Int32) (s0 : Nat) (hs0 : (14, s0) ∈ ids) {z : St} {H : Heap} {locs : List Loc} {ls : Array Slot} (hr : zRep D cy B ids A s.heap z H locs) (hl : lv_has ls 7 [(5, .int x5)]) (h : fX19_toldBy_128 N x5 s0 z = some (r, z')) : W p l e rmX19_toldBy s m args below meth c H locs 0 0 Q (F0 m 128 ls [.ref (B 14 s0)]) := by
  unfold fX19_toldBy_128 at h
  refine lv_iconst (v := (0 : Int32)) F.1 F.2.1 dX19_toldBy_128 (by decide) ?_
  refine pf19_616 F hs0 hr dX19_toldBy_129 (0 : Int32) (by decide) (fun H locs z1 ez1 hr => ?_)
  replace h := zl_sub ez1 h
  clear ez1
  refine lv_iload F.1 F.2.1 dX19_toldBy_132 (lv_at hl 0 rfl) ?_
  obtain ⟨rfl, rfl⟩ := zret h
  exact E _ _ _ _ dX19_toldBy_134 trivial hr
def fX19_toldBy_68b (N : Nat) (K68 : Nat → Nat → Int32 → Int32 → Int32 → Int32 → St → Option (Int32 × St)) (x0 : Nat) (x1 : Nat) (x3 : Int32) (x4 : Int32) (x5 : Int32) (x6 : Int32) (z : St) : Option (Int32 × St) := if x4 ≤ x6 then (if (zgI z 14 32 x1) = 0 then (fX19_toldBy_128 N x5 x1 z) else (if ¬ (zgI z 14 17 x1) = 0 then (fX19_toldBy_128 N x5 x1 z) else (zl (zsI z 14 32 x1 (1 : Int32)) fun z4 => some (x5, z4)))) else (zk (((x3 + x6) - ((zgI z 14 5 x1) + (1 : Int32))) &&& (2047 : Int32)) 2048 <| zc (fX19_setByte N x0 x5 x6 (zgA z 159 x1 (Int32.toNatClampNeg (((x3 + x6) - ((zgI z 14 5 x1) + (1 : Int32))) &&& (2047 : Int32)))) z) fun _ z7 => zl (x6 + 1) fun v10 => K68 x0 x1 x3 x4 x5 v10 z7)
def fX19_toldBy_68 (N : Nat)  : Nat → Nat → Nat → Int32 → Int32 → Int32 → Int32 → St → Option (Int32 × St)
  | 0 => fun _ _ _ _ _ _ _ => none
  | n + 1 => fX19_toldBy_68b N (fX19_toldBy_68 N  n)
set_option maxHeartbeats 4000000 in
set_option maxRecDepth 100000 in
theorem bX19_toldBy_68 (hst : zSt B ids) (F : zFx p m c cX19_toldBy 7 s args RX19 D cy B ids A) (hA : ∀ q : Nat, s.heap.size ≤ q → A q) {r : Int32} {z' : St} (E : zEnd p l e rmX19_toldBy s m args below meth c cX19_toldBy D cy B ids A Q (some (.int r)) z' .ireturn True) {N : Nat} {K68 : Nat → Nat → Int32 → Int32 → Int32 → Int32 → St → Option (Int32 × St)} (hK68 : ∀ (x0 : Nat) (x1 : Nat) (x3 : Int32) (x4 : Int32) (x5 : Int32) (x6 : Int32) (hx0 : (19, x0) ∈ ids) (hx1 : (14, x1) ∈ ids) {z : St} {H : Heap} {locs : List Loc} {ls : Array Slot} (hr : zRep D cy B ids A s.heap z H locs) (hl : lv_has ls 7 [(0, .ref (B 19 x0)), (1, .ref (B 14 x1)), (3, .int x3), (4, .int x4), (5, .int x5), (6, .int x6)]), K68 x0 x1 x3 x4 x5 x6 z = some (r, z') → W p l e rmX19_toldBy s m args below meth c H locs 0 0 Q (F0 m 68 ls [])) (x0 : Nat) (x1 : Nat) (x3 : Int32) (x4 : Int32) (x5 : Int32) (x6 : Int32) (hx0 : (19, x0) ∈ ids) (hx1 : (14, x1) ∈ ids) {z : St} {H : Heap} {locs : List Loc} {ls : Array Slot} (hr : zRep D cy B ids A s.heap z H locs) (hl : lv_has ls 7 [(0, .ref (B 19 x0)), (1, .ref (B 14 x1)), (3, .int x3), (4, .int x4), (5, .int x5), (6, .int x6)]) (h : fX19_toldBy_68b N K68 x0 x1 x3 x4 x5 x6 z = some (r, z')) : W p l e rmX19_toldBy s m args below meth c H locs 0 0 Q (F0 m 68 ls []) := by
  unfold fX19_toldBy_68b at h
  refine lv_iload F.1 F.2.1 dX19_toldBy_68 (lv_at hl 5 rfl) ?_
  refine lv_iload F.1 F.2.1 dX19_toldBy_70 (lv_at hl 3 rfl) ?_
  refine lv_icmp_ge (tgt := 109) F.1 F.2.1 dX19_toldBy_72 (by decide) (fun c1 => ?_) (fun c1 => ?_)
  · replace h := zi_t c1 h
    refine lv_aload_n F.1 F.2.1 dX19_toldBy_109 rfl (lv_at hl 1 rfl) ?_
    refine lv_aload_n F.1 F.2.1 dX19_toldBy_110 rfl (lv_at hl 1 rfl) ?_
    refine gf19_616 F hx1 hr dX19_toldBy_111 ?_
    refine lv_if_eq (tgt := 128) F.1 F.2.1 dX19_toldBy_114 (by decide) (fun c2 => ?_) (fun c2 => ?_)
    · replace h := zi_t c2 h
      exact bX19_toldBy_128 hst F hA E  x5 x1 hx1 hr (lv_sub hl [4] rfl) h
    · replace h := zi_f c2 h
      refine lv_aload_n F.1 F.2.1 dX19_toldBy_117 rfl (lv_at hl 1 rfl) ?_
      refine gf19_567 F hx1 hr dX19_toldBy_118 ?_
      refine lv_if_ne (tgt := 128) F.1 F.2.1 dX19_toldBy_121 (by decide) (fun c3 => ?_) (fun c3 => ?_)
      · replace h := zi_t c3 h
        exact bX19_toldBy_128 hst F hA E  x5 x1 hx1 hr (lv_sub hl [4] rfl) h
      · replace h := zi_f (fun q => q c3) h
        refine lv_iconst (v := (1 : Int32)) F.1 F.2.1 dX19_toldBy_124 (by decide) ?_
        refine lv_goto (tgt := 129) F.1 F.2.1 dX19_toldBy_125 (by decide) ?_
        refine pf19_616 F hx1 hr dX19_toldBy_129 (1 : Int32) (by decide) (fun H locs z4 ez4 hr => ?_)
        replace h := zl_sub ez4 h
        clear ez4
        refine lv_iload F.1 F.2.1 dX19_toldBy_132 (lv_at hl 4 rfl) ?_
        obtain ⟨rfl, rfl⟩ := zret h
        exact E _ _ _ _ dX19_toldBy_134 trivial hr
  · replace h := zi_f c1 h
    refine lv_aload_n F.1 F.2.1 dX19_toldBy_75 rfl (lv_at hl 0 rfl) ?_
    refine lv_iload F.1 F.2.1 dX19_toldBy_76 (lv_at hl 4 rfl) ?_
    refine lv_iload F.1 F.2.1 dX19_toldBy_78 (lv_at hl 5 rfl) ?_
    refine lv_aload_n F.1 F.2.1 dX19_toldBy_80 rfl (lv_at hl 1 rfl) ?_
    refine gf19_688 F hx1 hr dX19_toldBy_81 ?_
    refine lv_iload_n F.1 F.2.1 dX19_toldBy_84 rfl (lv_at hl 2 rfl) ?_
    refine lv_iload F.1 F.2.1 dX19_toldBy_85 (lv_at hl 5 rfl) ?_
    refine lv_iadd F.1 F.2.1 dX19_toldBy_87 ?_
    refine lv_aload_n F.1 F.2.1 dX19_toldBy_88 rfl (lv_at hl 1 rfl) ?_
    refine gf19_588 F hx1 hr dX19_toldBy_89 ?_
    refine lv_iconst (v := (1 : Int32)) F.1 F.2.1 dX19_toldBy_92 (by decide) ?_
    refine lv_iadd F.1 F.2.1 dX19_toldBy_93 ?_
    refine lv_isub F.1 F.2.1 dX19_toldBy_94 ?_
    refine lv_sipush (v := (2047 : Int32)) F.1 F.2.1 dX19_toldBy_95 (by decide) ?_
    refine lv_iand F.1 F.2.1 dX19_toldBy_98 ?_
    replace h := zk_some h
    obtain ⟨c5, h⟩ := h
    refine zr_bald (k := 159) (by decide) rfl (by decide) F (zal_a F hx1 (j := 10) rfl) hr dX19_toldBy_99 c5 ?_
    replace h := zc_some h
    obtain ⟨r6, z7, hc8, h⟩ := h
    refine zr_callv (zrun_V (As := [.int x5, .int x6, .int (zgA z 159 x1 (Int32.toNatClampNeg (((x3 + x6) - ((zgI z 14 5 x1) + (1 : Int32))) &&& (2047 : Int32))))]) (rest := []) zq_2945 zq_2947 zs_X19_setByte zq_2948 zq_4 hdX19_setByte (by decide) (T := TX19) (N := 32) rfl (okX19_setByte l D cy B ids hst N x0 hx0 x5  x6  (zgA z 159 x1 (Int32.toNatClampNeg (((x3 + x6) - ((zgI z 14 5 x1) + (1 : Int32))) &&& (2047 : Int32))))  hr.2.2 hc8) F hr hx0 hl.1 rfl (by decide) dX19_toldBy_100 rfl rfl hroX19_toldBy_X19_setByte ⟨Nat.zero_le _, Nat.zero_le _⟩) F hA hr (fun H locs hw9 hr => ?_)
    clear hc8
    obtain ⟨v10, ev10⟩ : ∃ y : Int32, y = (x6 + 1) := ⟨_, rfl⟩
    replace h := zl_sub ev10 h
    refine lv_iinc (v := v10) (lv' := [(6, .int v10), (0, .ref (B 19 x0)), (1, .ref (B 14 x1)), (3, .int x3), (4, .int x4), (5, .int x5)]) F.1 F.2.1 dX19_toldBy_103 hl (k := 5) rfl (by rw [ev10]; rfl) (by decide) rfl (fun ls hl => ?_)
    refine lv_goto (tgt := 68) F.1 F.2.1 dX19_toldBy_106 (by decide) ?_
    exact hK68 x0 x1 x3 x4 x5 v10 hx0 hx1 hr (lv_sub hl [1, 2, 3, 4, 5, 0] rfl) h
theorem lX19_toldBy_68 (hst : zSt B ids) (F : zFx p m c cX19_toldBy 7 s args RX19 D cy B ids A) (hA : ∀ q : Nat, s.heap.size ≤ q → A q) {r : Int32} {z' : St} (E : zEnd p l e rmX19_toldBy s m args below meth c cX19_toldBy D cy B ids A Q (some (.int r)) z' .ireturn True) {N : Nat}  : ∀ (n : Nat) (x0 : Nat) (x1 : Nat) (x3 : Int32) (x4 : Int32) (x5 : Int32) (x6 : Int32) (hx0 : (19, x0) ∈ ids) (hx1 : (14, x1) ∈ ids) {z : St} {H : Heap} {locs : List Loc} {ls : Array Slot} (hr : zRep D cy B ids A s.heap z H locs) (hl : lv_has ls 7 [(0, .ref (B 19 x0)), (1, .ref (B 14 x1)), (3, .int x3), (4, .int x4), (5, .int x5), (6, .int x6)]), fX19_toldBy_68 N  n x0 x1 x3 x4 x5 x6 z = some (r, z') → W p l e rmX19_toldBy s m args below meth c H locs 0 0 Q (F0 m 68 ls []) := by
  intro n
  induction n with
  | zero => intro x0 x1 x3 x4 x5 x6 hx0 hx1 z H locs ls hr hl h; cases h
  | succ n ih => intro x0 x1 x3 x4 x5 x6 hx0 hx1 z H locs ls hr hl h; exact bX19_toldBy_68 hst F hA E ih x0 x1 x3 x4 x5 x6 hx0 hx1 hr hl h
def fX19_toldBy_41 (N : Nat)  (x0 : Nat) (x1 : Nat) (x3 : Int32) (x4 : Int32) (x5 : Int32) (s0 : Nat) (s1 : Int32) (s2 : Int32) (s3 : Int32) (z : St) : Option (Int32 × St) := zc (fX19_setSeg N s0 s1 s2 s3 z) fun _ z2 => zc (fX14_room N x1 z2) fun r5 z6 => zc (fX19_setSeg N x0 x5 (5 : Int32) r5 z6) fun _ z10 => zc (fX19_setSeg N x0 x5 (7 : Int32) x4 z10) fun _ z14 => fX19_toldBy_68 N N x0 x1 x3 x4 x5 (0 : Int32) z14
set_option maxHeartbeats 4000000 in
set_option maxRecDepth 100000 in
theorem bX19_toldBy_41 (hst : zSt B ids) (F : zFx p m c cX19_toldBy 7 s args RX19 D cy B ids A) (hA : ∀ q : Nat, s.heap.size ≤ q → A q) {r : Int32} {z' : St} (E : zEnd p l e rmX19_toldBy s m args below meth c cX19_toldBy D cy B ids A Q (some (.int r)) z' .ireturn True) {N : Nat}  (x0 : Nat) (x1 : Nat) (x3 : Int32) (x4 : Int32) (x5 : Int32) (s0 : Nat) (s1 : Int32) (s2 : Int32) (s3 : Int32) (hx0 : (19, x0) ∈ ids) (hx1 : (14, x1) ∈ ids) (hs0 : (19, s0) ∈ ids) {z : St} {H : Heap} {locs : List Loc} {ls : Array Slot} (hr : zRep D cy B ids A s.heap z H locs) (hl : lv_has ls 7 [(0, .ref (B 19 x0)), (1, .ref (B 14 x1)), (3, .int x3), (4, .int x4), (5, .int x5)]) (h : fX19_toldBy_41 N x0 x1 x3 x4 x5 s0 s1 s2 s3 z = some (r, z')) : W p l e rmX19_toldBy s m args below meth c H locs 0 0 Q (F0 m 41 ls [.int s3, .int s2, .int s1, .ref (B 19 s0)]) := by
  unfold fX19_toldBy_41 at h
  replace h := zc_some h
  obtain ⟨r1, z2, hc3, h⟩ := h
  refine zr_callv (zrun_V (As := [.int s1, .int s2, .int s3]) (rest := []) zq_2757 zq_2759 zs_X19_setSeg zq_2760 zq_4 hdX19_setSeg (by decide) (T := TX19) (N := 32) rfl (okX19_setSeg l D cy B ids hst N s0 hs0 s1  s2  s3  hr.2.2 hc3) F hr hs0 hl.1 rfl (by decide) dX19_toldBy_41 rfl rfl hroX19_toldBy_X19_setSeg ⟨Nat.zero_le _, Nat.zero_le _⟩) F hA hr (fun H locs hw4 hr => ?_)
  clear hc3
  refine lv_aload_n F.1 F.2.1 dX19_toldBy_44 rfl (lv_at hl 0 rfl) ?_
  refine lv_iload F.1 F.2.1 dX19_toldBy_45 (lv_at hl 4 rfl) ?_
  refine lv_iconst (v := (5 : Int32)) F.1 F.2.1 dX19_toldBy_47 (by decide) ?_
  refine lv_aload_n F.1 F.2.1 dX19_toldBy_48 rfl (lv_at hl 1 rfl) ?_
  replace h := zc_some h
  obtain ⟨r5, z6, hc7, h⟩ := h
  refine zr_calli (zrun_VN (As := []) (rest := [.int (5 : Int32), .int x5, .ref (B 19 x0)]) zn_2723 zq_2708 zs_X14_room zq_2709 zq_21 hdX14_room (by decide) (T := TX14) (N := 47) rfl (okX14_room l D cy B ids hst N x1 hx1 hr.2.2 hc7) F hr hx1 hl.1 rfl (Nat.le_of_ble_eq_true rfl) dX19_toldBy_49 rfl rfl hroX19_toldBy_X14_room ⟨Nat.zero_le _, Nat.zero_le _⟩) F hA hr (fun H locs hw8 hr => ?_)
  clear hc7
  replace h := zc_some h
  obtain ⟨r9, z10, hc11, h⟩ := h
  refine zr_callv (zrun_V (As := [.int x5, .int (5 : Int32), .int r5]) (rest := []) zq_2757 zq_2759 zs_X19_setSeg zq_2760 zq_4 hdX19_setSeg (by decide) (T := TX19) (N := 32) rfl (okX19_setSeg l D cy B ids hst N x0 hx0 x5  (5 : Int32)  r5  hr.2.2 hc11) F hr hx0 hl.1 rfl (by decide) dX19_toldBy_52 rfl rfl hroX19_toldBy_X19_setSeg ⟨Nat.zero_le _, Nat.zero_le _⟩) F hA hr (fun H locs hw12 hr => ?_)
  clear hc11
  refine lv_aload_n F.1 F.2.1 dX19_toldBy_55 rfl (lv_at hl 0 rfl) ?_
  refine lv_iload F.1 F.2.1 dX19_toldBy_56 (lv_at hl 4 rfl) ?_
  refine lv_bipush (v := (7 : Int32)) F.1 F.2.1 dX19_toldBy_58 (by decide) ?_
  refine lv_iload F.1 F.2.1 dX19_toldBy_60 (lv_at hl 3 rfl) ?_
  replace h := zc_some h
  obtain ⟨r13, z14, hc15, h⟩ := h
  refine zr_callv (zrun_V (As := [.int x5, .int (7 : Int32), .int x4]) (rest := []) zq_2757 zq_2759 zs_X19_setSeg zq_2760 zq_4 hdX19_setSeg (by decide) (T := TX19) (N := 32) rfl (okX19_setSeg l D cy B ids hst N x0 hx0 x5  (7 : Int32)  x4  hr.2.2 hc15) F hr hx0 hl.1 rfl (by decide) dX19_toldBy_62 rfl rfl hroX19_toldBy_X19_setSeg ⟨Nat.zero_le _, Nat.zero_le _⟩) F hA hr (fun H locs hw16 hr => ?_)
  clear hc15
  refine lv_iconst (v := (0 : Int32)) F.1 F.2.1 dX19_toldBy_65 (by decide) ?_
  refine lv_istore (lv' := [(6, .int (0 : Int32)), (0, .ref (B 19 x0)), (1, .ref (B 14 x1)), (3, .int x3), (4, .int x4), (5, .int x5)]) F.1 F.2.1 dX19_toldBy_66 hl (by decide) rfl (fun ls hl => ?_)
  exact lX19_toldBy_68 hst F hA E  _ x0 x1 x3 x4 x5 (0 : Int32) hx0 hx1 hr (lv_sub hl [1, 2, 3, 4, 5, 0] rfl) h
def fX19_toldBy_16 (N : Nat)  (x0 : Nat) (x1 : Nat) (x3 : Int32) (x4 : Int32) (s0 : Nat) (s1 : Int32) (z : St) : Option (Int32 × St) := zc (fX19_newSegment N s0 s1 x3 z) fun r1 z2 => if (zgI z2 14 17 x1) = 0 then (fX19_toldBy_41 N x0 x1 x3 x4 r1 x0 r1 (4 : Int32) (0 : Int32) z2) else (fX19_toldBy_41 N x0 x1 x3 x4 r1 x0 r1 (4 : Int32) (zgI z2 14 16 x1) z2)
set_option maxHeartbeats 4000000 in
set_option maxRecDepth 100000 in
theorem bX19_toldBy_16 (hst : zSt B ids) (F : zFx p m c cX19_toldBy 7 s args RX19 D cy B ids A) (hA : ∀ q : Nat, s.heap.size ≤ q → A q) {r : Int32} {z' : St} (E : zEnd p l e rmX19_toldBy s m args below meth c cX19_toldBy D cy B ids A Q (some (.int r)) z' .ireturn True) {N : Nat}  (x0 : Nat) (x1 : Nat) (x3 : Int32) (x4 : Int32) (s0 : Nat) (s1 : Int32) (hx0 : (19, x0) ∈ ids) (hx1 : (14, x1) ∈ ids) (hs0 : (19, s0) ∈ ids) {z : St} {H : Heap} {locs : List Loc} {ls : Array Slot} (hr : zRep D cy B ids A s.heap z H locs) (hl : lv_has ls 7 [(0, .ref (B 19 x0)), (1, .ref (B 14 x1)), (3, .int x3), (4, .int x4)]) (h : fX19_toldBy_16 N x0 x1 x3 x4 s0 s1 z = some (r, z')) : W p l e rmX19_toldBy s m args below meth c H locs 0 0 Q (F0 m 16 ls [.int s1, .ref (B 19 s0)]) := by
  unfold fX19_toldBy_16 at h
  refine lv_iload_n F.1 F.2.1 dX19_toldBy_16 rfl (lv_at hl 2 rfl) ?_
  replace h := zc_some h
  obtain ⟨r1, z2, hc3, h⟩ := h
  refine zr_calli (zrun_V (As := [.int s1, .int x3]) (rest := []) zq_2753 zq_2755 zs_X19_newSegment zq_2756 zq_4 hdX19_newSegment (by decide) (T := TX19) (N := 32) rfl (okX19_newSegment l D cy B ids hst N s0 hs0 s1  x3  hr.2.2 hc3) F hr hs0 hl.1 rfl (by decide) dX19_toldBy_17 rfl rfl hroX19_toldBy_X19_newSegment ⟨Nat.zero_le _, Nat.zero_le _⟩) F hA hr (fun H locs hw4 hr => ?_)
  clear hc3
  refine lv_istore (lv' := [(5, .int r1), (0, .ref (B 19 x0)), (1, .ref (B 14 x1)), (3, .int x3), (4, .int x4)]) F.1 F.2.1 dX19_toldBy_20 hl (by decide) rfl (fun ls hl => ?_)
  refine lv_aload_n F.1 F.2.1 dX19_toldBy_22 rfl (lv_at hl 1 rfl) ?_
  refine lv_iload F.1 F.2.1 dX19_toldBy_23 (lv_at hl 0 rfl) ?_
  refine lv_iconst (v := (4 : Int32)) F.1 F.2.1 dX19_toldBy_25 (by decide) ?_
  refine lv_aload_n F.1 F.2.1 dX19_toldBy_26 rfl (lv_at hl 2 rfl) ?_
  refine gf19_567 F hx1 hr dX19_toldBy_27 ?_
  refine lv_if_eq (tgt := 40) F.1 F.2.1 dX19_toldBy_30 (by decide) (fun c5 => ?_) (fun c5 => ?_)
  · replace h := zi_t c5 h
    refine lv_iconst (v := (0 : Int32)) F.1 F.2.1 dX19_toldBy_40 (by decide) ?_
    exact bX19_toldBy_41 hst F hA E  x0 x1 x3 x4 r1 x0 r1 (4 : Int32) (0 : Int32) hx0 hx1 hx0 hr (lv_sub hl [1, 2, 3, 4, 0] rfl) h
  · replace h := zi_f c5 h
    refine lv_aload_n F.1 F.2.1 dX19_toldBy_33 rfl (lv_at hl 2 rfl) ?_
    refine gf19_570 F hx1 hr dX19_toldBy_34 ?_
    refine lv_goto (tgt := 41) F.1 F.2.1 dX19_toldBy_37 (by decide) ?_
    exact bX19_toldBy_41 hst F hA E  x0 x1 x3 x4 r1 x0 r1 (4 : Int32) (zgI z2 14 16 x1) hx0 hx1 hx0 hr (lv_sub hl [1, 2, 3, 4, 0] rfl) h
def fX19_toldBy (N : Nat)  (x0 : Nat) (x1 : Nat) (x2 : Int32) (x3 : Int32) (x4 : Int32) (z : St) : Option (Int32 × St) := if (zgI z 14 17 x1) = 0 then (fX19_toldBy_16 N x0 x1 x3 x4 x0 x2 z) else (fX19_toldBy_16 N x0 x1 x3 x4 x0 (x2 ||| (8 : Int32)) z)
set_option maxHeartbeats 4000000 in
set_option maxRecDepth 100000 in
theorem bX19_toldBy_0 (hst : zSt B ids) (F : zFx p m c cX19_toldBy 7 s args RX19 D cy B ids A) (hA : ∀ q : Nat, s.heap.size ≤ q → A q) {r : Int32} {z' : St} (E : zEnd p l e rmX19_toldBy s m args below meth c cX19_toldBy D cy B ids A Q (some (.int r)) z' .ireturn True) {N : Nat}  (x0 : Nat) (x1 : Nat) (x2 : Int32) (x3 : Int32) (x4 : Int32) (hx0 : (19, x0) ∈ ids) (hx1 : (14, x1) ∈ ids) {z : St} {H : Heap} {locs : List Loc} {ls : Array Slot} (hr : zRep D cy B ids A s.heap z H locs) (hl : lv_has ls 7 [(0, .ref (B 19 x0)), (1, .ref (B 14 x1)), (2, .int x2), (3, .int x3), (4, .int x4)]) (h : fX19_toldBy N x0 x1 x2 x3 x4 z = some (r, z')) : W p l e rmX19_toldBy s m args below meth c H locs 0 0 Q (F0 m 0 ls []) := by
  unfold fX19_toldBy at h
  refine lv_aload_n F.1 F.2.1 dX19_toldBy_0 rfl (lv_at hl 0 rfl) ?_
  refine lv_aload_n F.1 F.2.1 dX19_toldBy_1 rfl (lv_at hl 1 rfl) ?_
  refine gf19_567 F hx1 hr dX19_toldBy_2 ?_
  refine lv_if_eq (tgt := 15) F.1 F.2.1 dX19_toldBy_5 (by decide) (fun c1 => ?_) (fun c1 => ?_)
  · replace h := zi_t c1 h
    refine lv_iload_n F.1 F.2.1 dX19_toldBy_15 rfl (lv_at hl 2 rfl) ?_
    exact bX19_toldBy_16 hst F hA E  x0 x1 x3 x4 x0 x2 hx0 hx1 hx0 hr (lv_sub hl [0, 1, 3, 4] rfl) h
  · replace h := zi_f c1 h
    refine lv_iload_n F.1 F.2.1 dX19_toldBy_8 rfl (lv_at hl 2 rfl) ?_
    refine lv_bipush (v := (8 : Int32)) F.1 F.2.1 dX19_toldBy_9 (by decide) ?_
    refine lv_ior F.1 F.2.1 dX19_toldBy_11 ?_
    refine lv_goto (tgt := 16) F.1 F.2.1 dX19_toldBy_12 (by decide) ?_
    exact bX19_toldBy_16 hst F hA E  x0 x1 x3 x4 x0 (x2 ||| (8 : Int32)) hx0 hx1 hx0 hr (lv_sub hl [0, 1, 3, 4] rfl) h
end SX19_toldBy
set_option maxRecDepth 100000 in
theorem okX19_toldBy (l : Launch) (D : va_G) (cy : Nat → ClassId) (B : Nat → Nat → Nat) (ids : List (Nat × Nat)) (hst : zSt B ids) (N : Nat) (x0 : Nat) (hx0 : (19, x0) ∈ ids) (x1 : Nat) (hx1 : (14, x1) ∈ ids) (x2 : Int32) (x3 : Int32) (x4 : Int32) {z : St} {r : Int32} {z' : St} (hW : zWf ids z) (h : fX19_toldBy N x0 x1 x2 x3 x4 z = some (r, z')) : zM l yX19_toldBy (zws yX19_toldBy cX19_toldBy 7 (some .int)) rmX19_toldBy D cy B ids [.ref (B 19 x0), .ref (B 14 x1), .int x2, .int x3, .int x4] (some (.int r)) True z z' :=
  zM_of hst hW (by decide +kernel) (Nat.le_of_ble_eq_true rfl) (fun p e s m args below meth c A ls F hA hret hlocks hr hl => bX19_toldBy_0 hst F hA (zEnd_i F hret hlocks) x0 x1 x2 x3 x4 hx0 hx1 hr hl h)
