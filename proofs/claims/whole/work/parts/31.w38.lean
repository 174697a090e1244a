abbrev rmX19_strays : Room := { frames := 0, cells := 0, slots := 0, locals := 0 }
theorem hdX19_strays : yX19_strays.cls ≠ "java/lang/invoke/MethodHandle" ∧ yX19_strays.cls ≠ "java/lang/invoke/VarHandle" ∧ (parseMethodDescriptor yX19_strays.desc).map (fun d => d.parameters.length) = some 0 := by decide +kernel
section SX19_strays
variable {p : Program} {l : Launch} {e : Env} {s : State} {m : MethodId} {args : Array Value} {below : List Frame} {meth : Method} {c : Code} {Q : State → Prop} {D : va_G} {cy : Nat → ClassId} {B : Nat → Nat → Nat} {ids : List (Nat × Nat)} {A : Nat → Prop}
def fX19_strays (N : Nat)  (x0 : Nat) (z : St) : Option (Int32 × St) := zl (zsI z 19 25 x0 (0)) fun z1 => some ((zgI z1 19 26 x0), z1)
set_option maxHeartbeats 4000000 in
set_option maxRecDepth 100000 in
theorem bX19_strays_0 (hst : zSt B ids) (F : zFx p m c cX19_strays 1 s args RX19 D cy B ids A) (hA : ∀ q : Nat, s.heap.size ≤ q → A q) {r : Int32} {z' : St} (E : zEnd p l e rmX19_strays s m args below meth c cX19_strays D cy B ids A Q (some (.int r)) z' .ireturn True) {N : Nat}  (x0 : Nat) (hx0 : (19, x0) ∈ ids) {z : St} {H : Heap} {locs : List Loc} {ls : Array Slot} (hr : zRep D cy B ids A s.heap z H locs) (hl : lv_has ls 1 [(0, .ref (B 19 x0))]) (h : fX19_strays N x0 z = some (r, z')) : W p l e rmX19_strays s m args below meth c H locs 0 0 Q (F0 m 0 ls []) := by
  unfold fX19_strays at h
  refine lv_aload_n F.1 F.2.1 dX19_strays_0 rfl (lv_at hl 0 rfl) ?_
  refine lv_iconst (v := (0)) F.1 F.2.1 dX19_strays_1 (by decide) ?_
  refine pf19_140 F hx0 hr dX19_strays_2 (0) (fun H locs z1 ez1 hr => ?_)
  replace h := zl_sub ez1 h
  clear ez1
  refine lv_aload_n F.1 F.2.1 dX19_strays_5 rfl (lv_at hl 0 rfl) ?_
  refine gf19_807 F hx0 hr dX19_strays_6 ?_
  obtain ⟨rfl, rfl⟩ := zret h
  exact E _ _ _ _ dX19_strays_9 trivial hr
end SX19_strays
set_option maxRecDepth 100000 in
theorem okX19_strays (l : Launch) (D : va_G) (cy : Nat → ClassId) (B : Nat → Nat → Nat) (ids : List (Nat × Nat)) (hst : zSt B ids) (N : Nat) (x0 : Nat) (hx0 : (19, x0) ∈ ids) {z : St} {r : Int32} {z' : St} (hW : zWf ids z) (h : fX19_strays N x0 z = some (r, z')) : zM l yX19_strays (zws yX19_strays cX19_strays 1 (some .int)) rmX19_strays D cy B ids [.ref (B 19 x0)] (some (.int r)) True z z' :=
  zM_of hst hW (by decide +kernel) (Nat.le_of_ble_eq_true rfl) (fun p e s m args below meth c A ls F hA hret hlocks hr hl => bX19_strays_0 hst F hA (zEnd_i F hret hlocks) x0 hx0 hr hl h)
abbrev rmX19_areJoined : Room := { frames := 2, cells := 0, slots := 0, locals := 42 }
theorem hdX19_areJoined : yX19_areJoined.cls ≠ "java/lang/invoke/MethodHandle" ∧ yX19_areJoined.cls ≠ "java/lang/invoke/VarHandle" ∧ (parseMethodDescriptor yX19_areJoined.desc).map (fun d => d.parameters.length) = some 2 := by decide +kernel
theorem hroX19_areJoined_X19_isRouter : rmX19_isRouter.frames + 1 ≤ rmX19_areJoined.frames ∧ 8 + (2 + 11) + rmX19_isRouter.locals ≤ rmX19_areJoined.locals := by decide
section SX19_areJoined
variable {p : Program} {l : Launch} {e : Env} {s : State} {m : MethodId} {args : Array Value} {below : List Frame} {meth : Method} {c : Code} {Q : State → Prop} {D : va_G} {cy : Nat → ClassId} {B : Nat → Nat → Nat} {ids : List (Nat × Nat)} {A : Nat → Prop}
def fX19_areJoined_49 (N : Nat) (K28 : Nat → Int32 → Int32 → Int32 → St → Option (Int32 × St)) (K67 : Nat → Int32 → Int32 → Int32 → St → Option (Int32 × St)) (K82 : Nat → Int32 → Int32 → Int32 → Int32 → Int32 → St → Option (Int32 × St)) (K154 : Nat → Int32 → Int32 → Int32 → Int32 → Int32 → St → Option (Int32 × St)) (x0 : Nat) (x1 : Int32) (x2 : Int32) (x3 : Int32) (s0 : Nat) (s1 : Int32) (s2 : Int32) (z : St) : Option (Int32 × St) := zk s1 24 <| zl (zsA z 192 s0 s1.toNatClampNeg (vp_nar .boolean s2)) fun z2 => zl (x3 + 1) fun v3 => K28 x0 x1 x2 v3 z2
set_option maxHeartbeats 4000000 in
set_option maxRecDepth 100000 in
theorem bX19_areJoined_49 (hst : zSt B ids) (F : zFx p m c cX19_areJoined 8 s args RX19 D cy B ids A) (hA : ∀ q : Nat, s.heap.size ≤ q → A q) {r : Int32} {z' : St} (E : zEnd p l e rmX19_areJoined s m args below meth c cX19_areJoined D cy B ids A Q (some (.int r)) z' .ireturn (r = 0 ∨ r = 1)) {N : Nat} {K28 : Nat → Int32 → Int32 → Int32 → St → Option (Int32 × St)} {K67 : Nat → Int32 → Int32 → Int32 → St → Option (Int32 × St)} {K82 : Nat → Int32 → Int32 → Int32 → Int32 → Int32 → St → Option (Int32 × St)} {K154 : Nat → Int32 → Int32 → Int32 → Int32 → Int32 → St → Option (Int32 × St)} (hK28 : ∀ (x0 : Nat) (x1 : Int32) (x2 : Int32) (x3 : Int32) (hx0 : (19, x0) ∈ ids) {z : St} {H : Heap} {locs : List Loc} {ls : Array Slot} (hr : zRep D cy B ids A s.heap z H locs) (hl : lv_has ls 8 [(0, .ref (B 19 x0)), (1, .int x1), (2, .int x2), (3, .int x3)]), K28 x0 x1 x2 x3 z = some (r, z') → W p l e rmX19_areJoined s m args below meth c H locs 0 0 Q (F0 m 28 ls [])) (hK67 : ∀ (x0 : Nat) (x2 : Int32) (x3 : Int32) (x4 : Int32) (hx0 : (19, x0) ∈ ids) {z : St} {H : Heap} {locs : List Loc} {ls : Array Slot} (hr : zRep D cy B ids A s.heap z H locs) (hl : lv_has ls 8 [(0, .ref (B 19 x0)), (2, .int x2), (3, .int x3), (4, .int x4)]), K67 x0 x2 x3 x4 z = some (r, z') → W p l e rmX19_areJoined s m args below meth c H locs 0 0 Q (F0 m 67 ls [])) (hK82 : ∀ (x0 : Nat) (x2 : Int32) (x3 : Int32) (x4 : Int32) (x5 : Int32) (x6 : Int32) (hx0 : (19, x0) ∈ ids) {z : St} {H : Heap} {locs : List Loc} {ls : Array Slot} (hr : zRep D cy B ids A s.heap z H locs) (hl : lv_has ls 8 [(0, .ref (B 19 x0)), (2, .int x2), (3, .int x3), (4, .int x4), (5, .int x5), (6, .int x6)]), K82 x0 x2 x3 x4 x5 x6 z = some (r, z') → W p l e rmX19_areJoined s m args below meth c H locs 0 0 Q (F0 m 82 ls [])) (hK154 : ∀ (x0 : Nat) (x2 : Int32) (x3 : Int32) (x4 : Int32) (x5 : Int32) (x6 : Int32) (hx0 : (19, x0) ∈ ids) {z : St} {H : Heap} {locs : List Loc} {ls : Array Slot} (hr : zRep D cy B ids A s.heap z H locs) (hl : lv_has ls 8 [(0, .ref (B 19 x0)), (2, .int x2), (3, .int x3), (4, .int x4), (5, .int x5), (6, .int x6)]), K154 x0 x2 x3 x4 x5 x6 z = some (r, z') → W p l e rmX19_areJoined s m args below meth c H locs 0 0 Q (F0 m 154 ls [])) (x0 : Nat) (x1 : Int32) (x2 : Int32) (x3 : Int32) (s0 : Nat) (s1 : Int32) (s2 : Int32) (hx0 : (19, x0) ∈ ids) (hs0 : (192, s0) ∈ ids) {z : St} {H : Heap} {locs : List Loc} {ls : Array Slot} (hr : zRep D cy B ids A s.heap z H locs) (hl : lv_has ls 8 [(0, .ref (B 19 x0)), (1, .int x1), (2, .int x2), (3, .int x3)]) (h : fX19_areJoined_49 N K28 K67 K82 K154 x0 x1 x2 x3 s0 s1 s2 z = some (r, z')) : W p l e rmX19_areJoined s m args below meth c H locs 0 0 Q (F0 m 49 ls [.int s2, .int s1, .ref (B 192 s0)]) := by
  unfold fX19_areJoined_49 at h
  obtain ⟨c1, h⟩ := zk_some h
  refine zr_zast (k := 192) (by decide) rfl (by decide) F hs0 hr dX19_areJoined_49 c1 (fun H locs z2 ez2 hr => ?_)
  replace h := zl_sub ez2 h
  clear ez2
  obtain ⟨v3, ev3⟩ : ∃ y : Int32, y = (x3 + 1) := ⟨_, rfl⟩
  replace h := zl_sub ev3 h
  refine lv_iinc (v := v3) (lv' := [(3, .int v3), (0, .ref (B 19 x0)), (1, .int x1), (2, .int x2)]) F.1 F.2.1 dX19_areJoined_50 hl (k := 3) rfl (by rw [ev3]; rfl) (by decide) rfl (fun ls hl => ?_)
  refine lv_goto (tgt := 28) F.1 F.2.1 dX19_areJoined_53 (by decide) ?_
  exact hK28 x0 x1 x2 v3 hx0 hr (lv_sub hl [1, 2, 3, 0] rfl) h
def fX19_areJoined_58b (N : Nat) (K58 : Nat → Int32 → Int32 → St → Option (Int32 × St)) (K67 : Nat → Int32 → Int32 → Int32 → St → Option (Int32 × St)) (K82 : Nat → Int32 → Int32 → Int32 → Int32 → Int32 → St → Option (Int32 × St)) (K154 : Nat → Int32 → Int32 → Int32 → Int32 → Int32 → St → Option (Int32 × St)) (x0 : Nat) (x2 : Int32) (x3 : Int32) (z : St) : Option (Int32 × St) := if x3 = 0 then (zk x2 24 <| zq ((zgA z 192 x0 x2.toNatClampNeg) = 0 ∨ (zgA z 192 x0 x2.toNatClampNeg) = 1) <| some ((zgA z 192 x0 x2.toNatClampNeg), z)) else (K67 x0 x2 (0) (0) z)
def fX19_areJoined_58 (N : Nat) (K67 : Nat → Int32 → Int32 → Int32 → St → Option (Int32 × St)) (K82 : Nat → Int32 → Int32 → Int32 → Int32 → Int32 → St → Option (Int32 × St)) (K154 : Nat → Int32 → Int32 → Int32 → Int32 → Int32 → St → Option (Int32 × St)) : Nat → Nat → Int32 → Int32 → St → Option (Int32 × St)
  | 0 => fun _ _ _ _ => none
  | n + 1 => fX19_areJoined_58b N (fX19_areJoined_58 N K67 K82 K154 n) K67 K82 K154
set_option maxHeartbeats 4000000 in
set_option maxRecDepth 100000 in
theorem bX19_areJoined_58 (hst : zSt B ids) (F : zFx p m c cX19_areJoined 8 s args RX19 D cy B ids A) (hA : ∀ q : Nat, s.heap.size ≤ q → A q) {r : Int32} {z' : St} (E : zEnd p l e rmX19_areJoined s m args below meth c cX19_areJoined D cy B ids A Q (some (.int r)) z' .ireturn (r = 0 ∨ r = 1)) {N : Nat} {K58 : Nat → Int32 → Int32 → St → Option (Int32 × St)} {K67 : Nat → Int32 → Int32 → Int32 → St → Option (Int32 × St)} {K82 : Nat → Int32 → Int32 → Int32 → Int32 → Int32 → St → Option (Int32 × St)} {K154 : Nat → Int32 → Int32 → Int32 → Int32 → Int32 → St → Option (Int32 × St)} (hK58 : ∀ (x0 : Nat) (x2 : Int32) (x3 : Int32) (hx0 : (19, x0) ∈ ids) {z : St} {H : Heap} {locs : List Loc} {ls : Array Slot} (hr : zRep D cy B ids A s.heap z H locs) (hl : lv_has ls 8 [(0, .ref (B 19 x0)), (2, .int x2), (3, .int x3)]), K58 x0 x2 x3 z = some (r, z') → W p l e rmX19_areJoined s m args below meth c H locs 0 0 Q (F0 m 58 ls [])) (hK67 : ∀ (x0 : Nat) (x2 : Int32) (x3 : Int32) (x4 : Int32) (hx0 : (19, x0) ∈ ids) {z : St} {H : Heap} {locs : List Loc} {ls : Array Slot} (hr : zRep D cy B ids A s.heap z H locs) (hl : lv_has ls 8 [(0, .ref (B 19 x0)), (2, .int x2), (3, .int x3), (4, .int x4)]), K67 x0 x2 x3 x4 z = some (r, z') → W p l e rmX19_areJoined s m args below meth c H locs 0 0 Q (F0 m 67 ls [])) (hK82 : ∀ (x0 : Nat) (x2 : Int32) (x3 : Int32) (x4 : Int32) (x5 : Int32) (x6 : Int32) (hx0 : (19, x0) ∈ ids) {z : St} {H : Heap} {locs : List Loc} {ls : Array Slot} (hr : zRep D cy B ids A s.heap z H locs) (hl : lv_has ls 8 [(0, .ref (B 19 x0)), (2, .int x2), (3, .int x3), (4, .int x4), (5, .int x5), (6, .int x6)]), K82 x0 x2 x3 x4 x5 x6 z = some (r, z') → W p l e rmX19_areJoined s m args below meth c H locs 0 0 Q (F0 m 82 ls [])) (hK154 : ∀ (x0 : Nat) (x2 : Int32) (x3 : Int32) (x4 : Int32) (x5 : Int32) (x6 : Int32) (hx0 : (19, x0) ∈ ids) {z : St} {H : Heap} {locs : List Loc} {ls : Array Slot} (hr : zRep D cy B ids A s.heap z H locs) (hl : lv_has ls 8 [(0, .ref (B 19 x0)), (2, .int x2), (3, .int x3), (4, .int x4), (5, .int x5), (6, .int x6)]), K154 x0 x2 x3 x4 x5 x6 z = some (r, z') → W p l e rmX19_areJoined s m args below meth c H locs 0 0 Q (F0 m 154 ls [])) (x0 : Nat) (x2 : Int32) (x3 : Int32) (hx0 : (19, x0) ∈ ids) {z : St} {H : Heap} {locs : List Loc} {ls : Array Slot} (hr : zRep D cy B ids A s.heap z H locs) (hl : lv_has ls 8 [(0, .ref (B 19 x0)), (2, .int x2), (3, .int x3)]) (h : fX19_areJoined_58b N K58 K67 K82 K154 x0 x2 x3 z = some (r, z')) : W p l e rmX19_areJoined s m args below meth c H locs 0 0 Q (F0 m 58 ls []) := by
  unfold fX19_areJoined_58b at h
  refine lv_iload_n F.1 F.2.1 dX19_areJoined_58 rfl (lv_at hl 2 rfl) ?_
  refine lv_if_eq (tgt := 241) F.1 F.2.1 dX19_areJoined_59 (by decide) (fun c1 => ?_) (fun c1 => ?_)
  · replace h := zi_t c1 h
    refine lv_aload_n F.1 F.2.1 dX19_areJoined_241 rfl (lv_at hl 0 rfl) ?_
    refine gf19_136 F hx0 hr dX19_areJoined_242 ?_
    refine lv_iload_n F.1 F.2.1 dX19_areJoined_245 rfl (lv_at hl 1 rfl) ?_
    obtain ⟨c2, h⟩ := zk_some h
    refine zr_zald (k := 192) (by decide) rfl (by decide) F (zal_a F hx0 (j := 31) rfl) hr dX19_areJoined_246 c2 ?_
    obtain ⟨c3, h⟩ := zq_some h
    obtain ⟨rfl, rfl⟩ := zret h
    exact E _ _ _ _ dX19_areJoined_247 c3 hr
  · replace h := zi_f c1 h
    refine lv_iconst (v := (0)) F.1 F.2.1 dX19_areJoined_62 (by decide) ?_
    refine lv_istore_n (lv' := [(3, .int (0)), (0, .ref (B 19 x0)), (2, .int x2)]) F.1 F.2.1 dX19_areJoined_63 rfl hl (by decide) rfl (fun ls hl => ?_)
    refine lv_iconst (v := (0)) F.1 F.2.1 dX19_areJoined_64 (by decide) ?_
    refine lv_istore (lv' := [(4, .int (0)), (3, .int (0)), (0, .ref (B 19 x0)), (2, .int x2)]) F.1 F.2.1 dX19_areJoined_65 hl (by decide) rfl (fun ls hl => ?_)
    exact hK67 x0 x2 (0) (0) hx0 hr (lv_sub hl [2, 3, 1, 0] rfl) h
theorem lX19_areJoined_58 (hst : zSt B ids) (F : zFx p m c cX19_areJoined 8 s args RX19 D cy B ids A) (hA : ∀ q : Nat, s.heap.size ≤ q → A q) {r : Int32} {z' : St} (E : zEnd p l e rmX19_areJoined s m args below meth c cX19_areJoined D cy B ids A Q (some (.int r)) z' .ireturn (r = 0 ∨ r = 1)) {N : Nat} {K67 : Nat → Int32 → Int32 → Int32 → St → Option (Int32 × St)} {K82 : Nat → Int32 → Int32 → Int32 → Int32 → Int32 → St → Option (Int32 × St)} {K154 : Nat → Int32 → Int32 → Int32 → Int32 → Int32 → St → Option (Int32 × St)} (hK67 : ∀ (x0 : Nat) (x2 : Int32) (x3 : Int32) (x4 : Int32) (hx0 : (19, x0) ∈ ids) {z : St} {H : Heap} {locs : List Loc} {ls : Array Slot} (hr : zRep D cy B ids A s.heap z H locs) (hl : lv_has ls 8 [(0, .ref (B 19 x0)), (2, .int x2), (3, .int x3), (4, .int x4)]), K67 x0 x2 x3 x4 z = some (r, z') → W p l e rmX19_areJoined s m args below meth c H locs 0 0 Q (F0 m 67 ls [])) (hK82 : ∀ (x0 : Nat) (x2 : Int32) (x3 : Int32) (x4 : Int32) (x5 : Int32) (x6 : Int32) (hx0 : (19, x0) ∈ ids) {z : St} {H : Heap} {locs : List Loc} {ls : Array Slot} (hr : zRep D cy B ids A s.heap z H locs) (hl : lv_has ls 8 [(0, .ref (B 19 x0)), (2, .int x2), (3, .int x3), (4, .int x4), (5, .int x5), (6, .int x6)]), K82 x0 x2 x3 x4 x5 x6 z = some (r, z') → W p l e rmX19_areJoined s m args below meth c H locs 0 0 Q (F0 m 82 ls [])) (hK154 : ∀ (x0 : Nat) (x2 : Int32) (x3 : Int32) (x4 : Int32) (x5 : Int32) (x6 : Int32) (hx0 : (19, x0) ∈ ids) {z : St} {H : Heap} {locs : List Loc} {ls : Array Slot} (hr : zRep D cy B ids A s.heap z H locs) (hl : lv_has ls 8 [(0, .ref (B 19 x0)), (2, .int x2), (3, .int x3), (4, .int x4), (5, .int x5), (6, .int x6)]), K154 x0 x2 x3 x4 x5 x6 z = some (r, z') → W p l e rmX19_areJoined s m args below meth c H locs 0 0 Q (F0 m 154 ls [])) : ∀ (n : Nat) (x0 : Nat) (x2 : Int32) (x3 : Int32) (hx0 : (19, x0) ∈ ids) {z : St} {H : Heap} {locs : List Loc} {ls : Array Slot} (hr : zRep D cy B ids A s.heap z H locs) (hl : lv_has ls 8 [(0, .ref (B 19 x0)), (2, .int x2), (3, .int x3)]), fX19_areJoined_58 N K67 K82 K154 n x0 x2 x3 z = some (r, z') → W p l e rmX19_areJoined s m args below meth c H locs 0 0 Q (F0 m 58 ls []) := by
  intro n
  induction n with
  | zero => intro x0 x2 x3 hx0 z H locs ls hr hl h; cases h
  | succ n ih => intro x0 x2 x3 hx0 z H locs ls hr hl h; exact bX19_areJoined_58 hst F hA E ih hK67 hK82 hK154 x0 x2 x3 hx0 hr hl h
def fX19_areJoined_28b (N : Nat) (K28 : Nat → Int32 → Int32 → Int32 → St → Option (Int32 × St)) (K67 : Nat → Int32 → Int32 → Int32 → St → Option (Int32 × St)) (K82 : Nat → Int32 → Int32 → Int32 → Int32 → Int32 → St → Option (Int32 × St)) (K154 : Nat → Int32 → Int32 → Int32 → Int32 → Int32 → St → Option (Int32 × St)) (x0 : Nat) (x1 : Int32) (x2 : Int32) (x3 : Int32) (z : St) : Option (Int32 × St) := if (24) ≤ x3 then (fX19_areJoined_58 N K67 K82 K154 N x0 x2 (1) z) else (if ¬ x3 = x1 then (fX19_areJoined_49 N K28 K67 K82 K154 x0 x1 x2 x3 x0 x3 (0) z) else (fX19_areJoined_49 N K28 K67 K82 K154 x0 x1 x2 x3 x0 x3 (1) z))
def fX19_areJoined_28 (N : Nat) (K67 : Nat → Int32 → Int32 → Int32 → St → Option (Int32 × St)) (K82 : Nat → Int32 → Int32 → Int32 → Int32 → Int32 → St → Option (Int32 × St)) (K154 : Nat → Int32 → Int32 → Int32 → Int32 → Int32 → St → Option (Int32 × St)) : Nat → Nat → Int32 → Int32 → Int32 → St → Option (Int32 × St)
  | 0 => fun _ _ _ _ _ => none
  | n + 1 => fX19_areJoined_28b N (fX19_areJoined_28 N K67 K82 K154 n) K67 K82 K154
set_option maxHeartbeats 4000000 in
set_option maxRecDepth 100000 in
theorem bX19_areJoined_28 (hst : zSt B ids) (F : zFx p m c cX19_areJoined 8 s args RX19 D cy B ids A) (hA : ∀ q : Nat, s.heap.size ≤ q → A q) {r : Int32} {z' : St} (E : zEnd p l e rmX19_areJoined s m args below meth c cX19_areJoined D cy B ids A Q (some (.int r)) z' .ireturn (r = 0 ∨ r = 1)) {N : Nat} {K28 : Nat → Int32 → Int32 → Int32 → St → Option (Int32 × St)} {K67 : Nat → Int32 → Int32 → Int32 → St → Option (Int32 × St)} {K82 : Nat → Int32 → Int32 → Int32 → Int32 → Int32 → St → Option (Int32 × St)} {K154 : Nat → Int32 → Int32 → Int32 → Int32 → Int32 → St → Option (Int32 × St)} (hK28 : ∀ (x0 : Nat) (x1 : Int32) (x2 : Int32) (x3 : Int32) (hx0 : (19, x0) ∈ ids) {z : St} {H : Heap} {locs : List Loc} {ls : Array Slot} (hr : zRep D cy B ids A s.heap z H locs) (hl : lv_has ls 8 [(0, .ref (B 19 x0)), (1, .int x1), (2, .int x2), (3, .int x3)]), K28 x0 x1 x2 x3 z = some (r, z') → W p l e rmX19_areJoined s m args below meth c H locs 0 0 Q (F0 m 28 ls [])) (hK67 : ∀ (x0 : Nat) (x2 : Int32) (x3 : Int32) (x4 : Int32) (hx0 : (19, x0) ∈ ids) {z : St} {H : Heap} {locs : List Loc} {ls : Array Slot} (hr : zRep D cy B ids A s.heap z H locs) (hl : lv_has ls 8 [(0, .ref (B 19 x0)), (2, .int x2), (3, .int x3), (4, .int x4)]), K67 x0 x2 x3 x4 z = some (r, z') → W p l e rmX19_areJoined s m args below meth c H locs 0 0 Q (F0 m 67 ls [])) (hK82 : ∀ (x0 : Nat) (x2 : Int32) (x3 : Int32) (x4 : Int32) (x5 : Int32) (x6 : Int32) (hx0 : (19, x0) ∈ ids) {z : St} {H : Heap} {locs : List Loc} {ls : Array Slot} (hr : zRep D cy B ids A s.heap z H locs) (hl : lv_has ls 8 [(0, .ref (B 19 x0)), (2, .int x2), (3, .int x3), (4, .int x4), (5, .int x5), (6, .int x6)]), K82 x0 x2 x3 x4 x5 x6 z = some (r, z') → W p l e rmX19_areJoined s m args below meth c H locs 0 0 Q (F0 m 82 ls [])) (hK154 : ∀ (x0 : Nat) (x2 : Int32) (x3 : Int32) (x4 : Int32) (x5 : Int32) (x6 : Int32) (hx0 : (19, x0) ∈ ids) {z : St} {H : Heap} {locs : List Loc} {ls : Array Slot} (hr : zRep D cy B ids A s.heap z H locs) (hl : lv_has ls 8 [(0, .ref (B 19 x0)), (2, .int x2), (3, .int x3), (4, .int x4), (5, .int x5), (6, .int x6)]), K154 x0 x2 x3 x4 x5 x6 z = some (r, z') → W p l e rmX19_areJoined s m args below meth c H locs 0 0 Q (F0 m 154 ls [])) (x0 : Nat) (x1 : Int32) (x2 : Int32) (x3 : Int32) (hx0 : (19, x0) ∈ ids) {z : St} {H : Heap} {locs : List Loc} {ls : Array Slot} (hr : zRep D cy B ids A s.heap z H locs) (hl : lv_has ls 8 [(0, .ref (B 19 x0)), (1, .int x1), (2, .int x2), (3, .int x3)]) (h : fX19_areJoined_28b N K28 K67 K82 K154 x0 x1 x2 x3 z = some (r, z')) : W p l e rmX19_areJoined s m args below meth c H locs 0 0 Q (F0 m 28 ls []) := by
  unfold fX19_areJoined_28b at h
  refine lv_iload_n F.1 F.2.1 dX19_areJoined_28 rfl (lv_at hl 3 rfl) ?_
  refine lv_bipush (v := (24)) F.1 F.2.1 dX19_areJoined_29 (by decide) ?_
  refine lv_icmp_ge (tgt := 56) F.1 F.2.1 dX19_areJoined_31 (by decide) (fun c1 => ?_) (fun c1 => ?_)
  · replace h := zi_t c1 h
    refine lv_iconst (v := (1)) F.1 F.2.1 dX19_areJoined_56 (by decide) ?_
    refine lv_istore_n (lv' := [(3, .int (1)), (0, .ref (B 19 x0)), (1, .int x1), (2, .int x2)]) F.1 F.2.1 dX19_areJoined_57 rfl hl (by decide) rfl (fun ls hl => ?_)
    exact lX19_areJoined_58 hst F hA E hK67 hK82 hK154 _ x0 x2 (1) hx0 hr (lv_sub hl [1, 3, 0] rfl) h
  · replace h := zi_f c1 h
    refine lv_aload_n F.1 F.2.1 dX19_areJoined_34 rfl (lv_at hl 0 rfl) ?_
    refine gf19_136 F hx0 hr dX19_areJoined_35 ?_
    refine lv_iload_n F.1 F.2.1 dX19_areJoined_38 rfl (lv_at hl 3 rfl) ?_
    refine lv_iload_n F.1 F.2.1 dX19_areJoined_39 rfl (lv_at hl 3 rfl) ?_
    refine lv_iload_n F.1 F.2.1 dX19_areJoined_40 rfl (lv_at hl 1 rfl) ?_
    refine lv_icmp_ne (tgt := 48) F.1 F.2.1 dX19_areJoined_41 (by decide) (fun c2 => ?_) (fun c2 => ?_)
    · replace h := zi_t c2 h
      refine lv_iconst (v := (0)) F.1 F.2.1 dX19_areJoined_48 (by decide) ?_
      exact bX19_areJoined_49 hst F hA E hK28 hK67 hK82 hK154 x0 x1 x2 x3 x0 x3 (0) hx0 (zal_a F hx0 (j := 31) rfl) hr (lv_sub hl [0, 1, 2, 3] rfl) h
    · replace h := zi_f (fun q => q c2) h
      refine lv_iconst (v := (1)) F.1 F.2.1 dX19_areJoined_44 (by decide) ?_
      refine lv_goto (tgt := 49) F.1 F.2.1 dX19_areJoined_45 (by decide) ?_
      exact bX19_areJoined_49 hst F hA E hK28 hK67 hK82 hK154 x0 x1 x2 x3 x0 x3 (1) hx0 (zal_a F hx0 (j := 31) rfl) hr (lv_sub hl [0, 1, 2, 3] rfl) h
theorem lX19_areJoined_28 (hst : zSt B ids) (F : zFx p m c cX19_areJoined 8 s args RX19 D cy B ids A) (hA : ∀ q : Nat, s.heap.size ≤ q → A q) {r : Int32} {z' : St} (E : zEnd p l e rmX19_areJoined s m args below meth c cX19_areJoined D cy B ids A Q (some (.int r)) z' .ireturn (r = 0 ∨ r = 1)) {N : Nat} {K67 : Nat → Int32 → Int32 → Int32 → St → Option (Int32 × St)} {K82 : Nat → Int32 → Int32 → Int32 → Int32 → Int32 → St → Option (Int32 × St)} {K154 : Nat → Int32 → Int32 → Int32 → Int32 → Int32 → St → Option (Int32 × St)} (hK67 : ∀ (x0 : Nat) (x2 : Int32) (x3 : Int32) (x4 : Int32) (hx0 : (19, x0) ∈ ids) {z : St} {H : Heap} {locs : List Loc} {ls : Array Slot} (hr : zRep D cy B ids A s.heap z H locs) (hl : lv_has ls 8 [(0, .ref (B 19 x0)), (2, .int x2), (3, .int x3), (4, .int x4)]), K67 x0 x2 x3 x4 z = some (r, z') → W p l e rmX19_areJoined s m args below meth c H locs 0 0 Q (F0 m 67 ls [])) (hK82 : ∀ (x0 : Nat) (x2 : Int32) (x3 : Int32) (x4 : Int32) (x5 : Int32) (x6 : Int32) (hx0 : (19, x0) ∈ ids) {z : St} {H : Heap} {locs : List Loc} {ls : Array Slot} (hr : zRep D cy B ids A s.heap z H locs) (hl : lv_has ls 8 [(0, .ref (B 19 x0)), (2, .int x2), (3, .int x3), (4, .int x4), (5, .int x5), (6, .int x6)]), K82 x0 x2 x3 x4 x5 x6 z = some (r, z') → W p l e rmX19_areJoined s m args below meth c H locs 0 0 Q (F0 m 82 ls [])) (hK154 : ∀ (x0 : Nat) (x2 : Int32) (x3 : Int32) (x4 : Int32) (x5 : Int32) (x6 : Int32) (hx0 : (19, x0) ∈ ids) {z : St} {H : Heap} {locs : List Loc} {ls : Array Slot} (hr : zRep D cy B ids A s.heap z H locs) (hl : lv_has ls 8 [(0, .ref (B 19 x0)), (2, .int x2), (3, .int x3), (4, .int x4), (5, .int x5), (6, .int x6)]), K154 x0 x2 x3 x4 x5 x6 z = some (r, z') → W p l e rmX19_areJoined s m args below meth c H locs 0 0 Q (F0 m 154 ls [])) : ∀ (n : Nat) (x0 : Nat) (x1 : Int32) (x2 : Int32) (x3 : Int32) (hx0 : (19, x0) ∈ ids) {z : St} {H : Heap} {locs : List Loc} {ls : Array Slot} (hr : zRep D cy B ids A s.heap z H locs) (hl : lv_has ls 8 [(0, .ref (B 19 x0)), (1, .int x1), (2, .int x2), (3, .int x3)]), fX19_areJoined_28 N K67 K82 K154 n x0 x1 x2 x3 z = some (r, z') → W p l e rmX19_areJoined s m args below meth c H locs 0 0 Q (F0 m 28 ls []) := by
  intro n
  induction n with
  | zero => intro x0 x1 x2 x3 hx0 z H locs ls hr hl h; cases h
  | succ n ih => intro x0 x1 x2 x3 hx0 z H locs ls hr hl h; exact bX19_areJoined_28 hst F hA E ih hK67 hK82 hK154 x0 x1 x2 x3 hx0 hr hl h
def fX19_areJoined (N : Nat) (K67 : Nat → Int32 → Int32 → Int32 → St → Option (Int32 × St)) (K82 : Nat → Int32 → Int32 → Int32 → Int32 → Int32 → St → Option (Int32 × St)) (K154 : Nat → Int32 → Int32 → Int32 → Int32 → Int32 → St → Option (Int32 × St)) (x0 : Nat) (x1 : Int32) (x2 : Int32) (z : St) : Option (Int32 × St) := zk x1 24 <| zl (zgQ z 187 x0 x1.toNatClampNeg) fun y2 => zd y2 fun a3 => if (zgI z 16 3 a3) = 0 then (some ((0), z)) else (zk x2 24 <| zl (zgQ z 187 x0 x2.toNatClampNeg) fun y6 => zd y6 fun a7 => if ¬ (zgI z 16 3 a7) = 0 then (fX19_areJoined_28 N K67 K82 K154 N x0 x1 x2 (0) z) else (some ((0), z)))
set_option maxHeartbeats 4000000 in
set_option maxRecDepth 100000 in
theorem bX19_areJoined_0 (hst : zSt B ids) (F : zFx p m c cX19_areJoined 8 s args RX19 D cy B ids A) (hA : ∀ q : Nat, s.heap.size ≤ q → A q) {r : Int32} {z' : St} (E : zEnd p l e rmX19_areJoined s m args below meth c cX19_areJoined D cy B ids A Q (some (.int r)) z' .ireturn (r = 0 ∨ r = 1)) {N : Nat} {K67 : Nat → Int32 → Int32 → Int32 → St → Option (Int32 × St)} {K82 : Nat → Int32 → Int32 → Int32 → Int32 → Int32 → St → Option (Int32 × St)} {K154 : Nat → Int32 → Int32 → Int32 → Int32 → Int32 → St → Option (Int32 × St)} (hK67 : ∀ (x0 : Nat) (x2 : Int32) (x3 : Int32) (x4 : Int32) (hx0 : (19, x0) ∈ ids) {z : St} {H : Heap} {locs : List Loc} {ls : Array Slot} (hr : zRep D cy B ids A s.heap z H locs) (hl : lv_has ls 8 [(0, .ref (B 19 x0)), (2, .int x2), (3, .int x3), (4, .int x4)]), K67 x0 x2 x3 x4 z = some (r, z') → W p l e rmX19_areJoined s m args below meth c H locs 0 0 Q (F0 m 67 ls [])) (hK82 : ∀ (x0 : Nat) (x2 : Int32) (x3 : Int32) (x4 : Int32) (x5 : Int32) (x6 : Int32) (hx0 : (19, x0) ∈ ids) {z : St} {H : Heap} {locs : List Loc} {ls : Array Slot} (hr : zRep D cy B ids A s.heap z H locs) (hl : lv_has ls 8 [(0, .ref (B 19 x0)), (2, .int x2), (3, .int x3), (4, .int x4), (5, .int x5), (6, .int x6)]), K82 x0 x2 x3 x4 x5 x6 z = some (r, z') → W p l e rmX19_areJoined s m args below meth c H locs 0 0 Q (F0 m 82 ls [])) (hK154 : ∀ (x0 : Nat) (x2 : Int32) (x3 : Int32) (x4 : Int32) (x5 : Int32) (x6 : Int32) (hx0 : (19, x0) ∈ ids) {z : St} {H : Heap} {locs : List Loc} {ls : Array Slot} (hr : zRep D cy B ids A s.heap z H locs) (hl : lv_has ls 8 [(0, .ref (B 19 x0)), (2, .int x2), (3, .int x3), (4, .int x4), (5, .int x5), (6, .int x6)]), K154 x0 x2 x3 x4 x5 x6 z = some (r, z') → W p l e rmX19_areJoined s m args below meth c H locs 0 0 Q (F0 m 154 ls [])) (x0 : Nat) (x1 : Int32) (x2 : Int32) (hx0 : (19, x0) ∈ ids) {z : St} {H : Heap} {locs : List Loc} {ls : Array Slot} (hr : zRep D cy B ids A s.heap z H locs) (hl : lv_has ls 8 [(0, .ref (B 19 x0)), (1, .int x1), (2, .int x2)]) (h : fX19_areJoined N K67 K82 K154 x0 x1 x2 z = some (r, z')) : W p l e rmX19_areJoined s m args below meth c H locs 0 0 Q (F0 m 0 ls []) := by
  unfold fX19_areJoined at h
  refine lv_aload_n F.1 F.2.1 dX19_areJoined_0 rfl (lv_at hl 0 rfl) ?_
  refine gf19_120 F hx0 hr dX19_areJoined_1 ?_
  refine lv_iload_n F.1 F.2.1 dX19_areJoined_4 rfl (lv_at hl 1 rfl) ?_
  obtain ⟨c1, h⟩ := zk_some h
  refine zr_aaldv (k := 187) (by decide) rfl rfl (zlen_d (by decide)) F (zal_a F hx0 (j := 20) rfl) hr dX19_areJoined_5 c1 (fun y2 ey2 => ?_)
  replace h := zl_sub ey2 h
  have hy2 := zal_q hr (zal_a F hx0 (j := 20) rfl) rfl ey2
  clear ey2
  obtain ⟨a3, rfl, h⟩ := zd_some h
  refine gf19_158 F (hy2 _ rfl) hr dX19_areJoined_6 ?_
  refine lv_if_eq (tgt := 24) F.1 F.2.1 dX19_areJoined_9 (by decide) (fun c4 => ?_) (fun c4 => ?_)
  · replace h := zi_t c4 h
    refine lv_iconst (v := (0)) F.1 F.2.1 dX19_areJoined_24 (by decide) ?_
    obtain ⟨rfl, rfl⟩ := zret h
    exact E _ _ _ _ dX19_areJoined_25 (by decide) hr
  · replace h := zi_f c4 h
    refine lv_aload_n F.1 F.2.1 dX19_areJoined_12 rfl (lv_at hl 0 rfl) ?_
    refine gf19_120 F hx0 hr dX19_areJoined_13 ?_
    refine lv_iload_n F.1 F.2.1 dX19_areJoined_16 rfl (lv_at hl 2 rfl) ?_
    obtain ⟨c5, h⟩ := zk_some h
    refine zr_aaldv (k := 187) (by decide) rfl rfl (zlen_d (by decide)) F (zal_a F hx0 (j := 20) rfl) hr dX19_areJoined_17 c5 (fun y6 ey6 => ?_)
    replace h := zl_sub ey6 h
    have hy6 := zal_q hr (zal_a F hx0 (j := 20) rfl) rfl ey6
    clear ey6
    obtain ⟨a7, rfl, h⟩ := zd_some h
    refine gf19_158 F (hy6 _ rfl) hr dX19_areJoined_18 ?_
    refine lv_if_ne (tgt := 26) F.1 F.2.1 dX19_areJoined_21 (by decide) (fun c8 => ?_) (fun c8 => ?_)
    · replace h := zi_t c8 h
      refine lv_iconst (v := (0)) F.1 F.2.1 dX19_areJoined_26 (by decide) ?_
      refine lv_istore_n (lv' := [(3, .int (0)), (0, .ref (B 19 x0)), (1, .int x1), (2, .int x2)]) F.1 F.2.1 dX19_areJoined_27 rfl hl (by decide) rfl (fun ls hl => ?_)
      exact lX19_areJoined_28 hst F hA E hK67 hK82 hK154 _ x0 x1 x2 (0) hx0 hr (lv_sub hl [1, 2, 3, 0] rfl) h
    · replace h := zi_f (fun q => q c8) h
      refine lv_iconst (v := (0)) F.1 F.2.1 dX19_areJoined_24 (by decide) ?_
      obtain ⟨rfl, rfl⟩ := zret h
      exact E _ _ _ _ dX19_areJoined_25 (by decide) hr
end SX19_areJoined
set_option maxRecDepth 100000 in
theorem okX19_areJoined (l : Launch) (D : va_G) (cy : Nat → ClassId) (B : Nat → Nat → Nat) (ids : List (Nat × Nat)) (hst : zSt B ids) (N : Nat) (x0 : Nat) (hx0 : (19, x0) ∈ ids) (x1 : Int32) (x2 : Int32) {z : St} {r : Int32} {z' : St} (hW : zWf ids z) (h : fX19_areJoined N x0 x1 x2 z = some (r, z')) : zM l yX19_areJoined (zws yX19_areJoined cX19_areJoined 8 (some .boolean)) rmX19_areJoined D cy B ids [.ref (B 19 x0), .int x1, .int x2] (some (.int r)) (r = 0 ∨ r = 1) z z' :=
  zM_of hst hW (by decide +kernel) (Nat.le_of_ble_eq_true rfl) (fun p e s m args below meth c A ls F hA hret hlocks hr hl => bX19_areJoined_0 hst F hA (zEnd_z F hret hlocks) x0 x1 x2 hx0 hr hl h)
abbrev rmX19_netOfHost : Room := { frames := 2, cells := 0, slots := 0, locals := 43 }
theorem hdX19_netOfHost : yX19_netOfHost.cls ≠ "java/lang/invoke/MethodHandle" ∧ yX19_netOfHost.cls ≠ "java/lang/invoke/VarHandle" ∧ (parseMethodDescriptor yX19_netOfHost.desc).map (fun d => d.parameters.length) = some 1 := by decide +kernel
theorem hroX19_netOfHost_X19_isOwn : rmX19_isOwn.frames + 1 ≤ rmX19_netOfHost.frames ∧ 8 + (4 + 11) + rmX19_isOwn.locals ≤ rmX19_netOfHost.locals := by decide
section SX19_netOfHost
variable {p : Program} {l : Launch} {e : Env} {s : State} {m : MethodId} {args : Array Value} {below : List Frame} {meth : Method} {c : Code} {Q : State → Prop} {D : va_G} {cy : Nat → ClassId} {B : Nat → Nat → Nat} {ids : List (Nat × Nat)} {A : Nat → Prop}
def fX19_netOfHost_54 (N : Nat) (K2 : Nat → Int32 → Int32 → St → Option (Int32 × St)) (x0 : Nat) (x1 : Int32) (x2 : Int32) (z : St) : Option (Int32 × St) := zl (x2 + 1) fun v1 => K2 x0 x1 v1 z
set_option maxHeartbeats 4000000 in
set_option maxRecDepth 100000 in
theorem bX19_netOfHost_54 (hst : zSt B ids) (F : zFx p m c cX19_netOfHost 3 s args RX19 D cy B ids A) (hA : ∀ q : Nat, s.heap.size ≤ q → A q) {r : Int32} {z' : St} (E : zEnd p l e rmX19_netOfHost s m args below meth c cX19_netOfHost D cy B ids A Q (some (.int r)) z' .ireturn True) {N : Nat} {K2 : Nat → Int32 → Int32 → St → Option (Int32 × St)} (hK2 : ∀ (x0 : Nat) (x1 : Int32) (x2 : Int32) (hx0 : (19, x0) ∈ ids) {z : St} {H : Heap} {locs : List Loc} {ls : Array Slot} (hr : zRep D cy B ids A s.heap z H locs) (hl : lv_has ls 3 [(0, .ref (B 19 x0)), (1, .int x1), (2, .int x2)]), K2 x0 x1 x2 z = some (r, z') → W p l e rmX19_netOfHost s m args below meth c H locs 0 0 Q (F0 m 2 ls [])) (x0 : Nat) (x1 : Int32) (x2 : Int32) (hx0 : (19, x0) ∈ ids) {z : St} {H : Heap} {locs : List Loc} {ls : Array Slot} (hr : zRep D cy B ids A s.heap z H locs) (hl : lv_has ls 3 [(0, .ref (B 19 x0)), (1, .int x1), (2, .int x2)]) (h : fX19_netOfHost_54 N K2 x0 x1 x2 z = some (r, z')) : W p l e rmX19_netOfHost s m args below meth c H locs 0 0 Q (F0 m 54 ls []) := by
  unfold fX19_netOfHost_54 at h
  obtain ⟨v1, ev1⟩ : ∃ y : Int32, y = (x2 + 1) := ⟨_, rfl⟩
  replace h := zl_sub ev1 h
  refine lv_iinc (v := v1) (lv' := [(2, .int v1), (0, .ref (B 19 x0)), (1, .int x1)]) F.1 F.2.1 dX19_netOfHost_54 hl (k := 2) rfl (by rw [ev1]; rfl) (by decide) rfl (fun ls hl => ?_)
  refine lv_goto (tgt := 2) F.1 F.2.1 dX19_netOfHost_57 (by decide) ?_
  exact hK2 x0 x1 v1 hx0 hr (lv_sub hl [1, 2, 0] rfl) h
def fX19_netOfHost_2b (N : Nat) (K2 : Nat → Int32 → Int32 → St → Option (Int32 × St)) (x0 : Nat) (x1 : Int32) (x2 : Int32) (z : St) : Option (Int32 × St) := if (zgI z 19 19 x0) ≤ x2 then (some ((-1), z)) else (zk x2 16 <| zl (zgQ z 186 x0 x2.toNatClampNeg) fun y3 => zd y3 fun a4 => if ¬ (zgI z 12 1 a4) = 0 then (fX19_netOfHost_54 N K2 x0 x1 x2 z) else (zk x2 16 <| zl (zgQ z 186 x0 x2.toNatClampNeg) fun y7 => zd y7 fun a8 => zc (fX19_isOwn N x0 a8 x1 z) fun r9 z10 => if r9 = 0 then (fX19_netOfHost_54 N K2 x0 x1 x2 z10) else (zk x2 16 <| zl (zgQ z10 186 x0 x2.toNatClampNeg) fun y15 => zd y15 fun a16 => zk (0) 6 <| zl (zgQ z10 147 a16 (0).toNatClampNeg) fun y18 => zd y18 fun a19 => zl (zgR z10 18 2 a19) fun y20 => zd y20 fun a21 => some ((zgI z10 16 0 a21), z10))))
def fX19_netOfHost_2 (N : Nat)  : Nat → Nat → Int32 → Int32 → St → Option (Int32 × St)
  | 0 => fun _ _ _ _ => none
  | n + 1 => fX19_netOfHost_2b N (fX19_netOfHost_2 N  n)
set_option maxHeartbeats 4000000 in
set_option maxRecDepth 100000 in
theorem bX19_netOfHost_2 (hst : zSt B ids) (F : zFx p m c cX19_netOfHost 3 s args RX19 D cy B ids A) (hA : ∀ q : Nat, s.heap.size ≤ q → A q) {r : Int32} {z' : St} (E : zEnd p l e rmX19_netOfHost s m args below meth c cX19_netOfHost D cy B ids A Q (some (.int r)) z' .ireturn True) {N : Nat} {K2 : Nat → Int32 → Int32 → St → Option (Int32 × St)} (hK2 : ∀ (x0 : Nat) (x1 : Int32) (x2 : Int32) (hx0 : (19, x0) ∈ ids) {z : St} {H : Heap} {locs : List Loc} {ls : Array Slot} (hr : zRep D cy B ids A s.heap z H locs) (hl : lv_has ls 3 [(0, .ref (B 19 x0)), (1, .int x1), (2, .int x2)]), K2 x0 x1 x2 z = some (r, z') → W p l e rmX19_netOfHost s m args below meth c H locs 0 0 Q (F0 m 2 ls [])) (x0 : Nat) (x1 : Int32) (x2 : Int32) (hx0 : (19, x0) ∈ ids) {z : St} {H : Heap} {locs : List Loc} {ls : Array Slot} (hr : zRep D cy B ids A s.heap z H locs) (hl : lv_has ls 3 [(0, .ref (B 19 x0)), (1, .int x1), (2, .int x2)]) (h : fX19_netOfHost_2b N K2 x0 x1 x2 z = some (r, z')) : W p l e rmX19_netOfHost s m args below meth c H locs 0 0 Q (F0 m 2 ls []) := by
  unfold fX19_netOfHost_2b at h
  refine lv_iload_n F.1 F.2.1 dX19_netOfHost_2 rfl (lv_at hl 2 rfl) ?_
  refine lv_aload_n F.1 F.2.1 dX19_netOfHost_3 rfl (lv_at hl 0 rfl) ?_
  refine gf19_831 F hx0 hr dX19_netOfHost_4 ?_
  refine lv_icmp_ge (tgt := 60) F.1 F.2.1 dX19_netOfHost_7 (by decide) (fun c1 => ?_) (fun c1 => ?_)
  · replace h := zi_t c1 h
    refine lv_iconst (v := (-1)) F.1 F.2.1 dX19_netOfHost_60 (by decide) ?_
    obtain ⟨rfl, rfl⟩ := zret h
    exact E _ _ _ _ dX19_netOfHost_61 trivial hr
  · replace h := zi_f c1 h
    refine lv_aload_n F.1 F.2.1 dX19_netOfHost_10 rfl (lv_at hl 0 rfl) ?_
    refine gf19_114 F hx0 hr dX19_netOfHost_11 ?_
    refine lv_iload_n F.1 F.2.1 dX19_netOfHost_14 rfl (lv_at hl 2 rfl) ?_
    obtain ⟨c2, h⟩ := zk_some h
    refine zr_aaldv (k := 186) (by decide) rfl rfl (zlen_d (by decide)) F (zal_a F hx0 (j := 18) rfl) hr dX19_netOfHost_15 c2 (fun y3 ey3 => ?_)
    replace h := zl_sub ey3 h
    have hy3 := zal_q hr (zal_a F hx0 (j := 18) rfl) rfl ey3
    clear ey3
    obtain ⟨a4, rfl, h⟩ := zd_some h
    refine gf19_298 F (hy3 _ rfl) hr dX19_netOfHost_16 ?_
    refine lv_if_ne (tgt := 54) F.1 F.2.1 dX19_netOfHost_19 (by decide) (fun c5 => ?_) (fun c5 => ?_)
    · replace h := zi_t c5 h
      exact bX19_netOfHost_54 hst F hA E hK2 x0 x1 x2 hx0 hr (lv_sub hl [0, 1, 2] rfl) h
    · replace h := zi_f (fun q => q c5) h
      refine lv_aload_n F.1 F.2.1 dX19_netOfHost_22 rfl (lv_at hl 0 rfl) ?_
      refine lv_aload_n F.1 F.2.1 dX19_netOfHost_23 rfl (lv_at hl 0 rfl) ?_
      refine gf19_114 F hx0 hr dX19_netOfHost_24 ?_
      refine lv_iload_n F.1 F.2.1 dX19_netOfHost_27 rfl (lv_at hl 2 rfl) ?_
      obtain ⟨c6, h⟩ := zk_some h
      refine zr_aaldv (k := 186) (by decide) rfl rfl (zlen_d (by decide)) F (zal_a F hx0 (j := 18) rfl) hr dX19_netOfHost_28 c6 (fun y7 ey7 => ?_)
      replace h := zl_sub ey7 h
      have hy7 := zal_q hr (zal_a F hx0 (j := 18) rfl) rfl ey7
      clear ey7
      refine lv_iload_n F.1 F.2.1 dX19_netOfHost_29 rfl (lv_at hl 1 rfl) ?_
      obtain ⟨a8, rfl, h⟩ := zd_some h
      obtain ⟨r9, z10, hc11, h⟩ := zc_some h
      refine zr_calli (zrun_V (As := [.ref (B 12 a8), .int x1]) (rest := []) zq_2627 zq_2629 zs_X19_isOwn zq_2630 zq_4 hdX19_isOwn (by decide) (T := TX19) (N := 32) rfl (okX19_isOwn l D cy B ids hst N x0 hx0 a8 (hy7 _ rfl) x1  hr.2.2 hc11) F hr hx0 hl.1 rfl (by decide) dX19_netOfHost_30 rfl rfl hroX19_netOfHost_X19_isOwn ⟨Nat.zero_le _, Nat.zero_le _⟩) F hA hr (fun H locs hx12 hr => ?_)
      clear hc11
      refine lv_if_eq (tgt := 54) F.1 F.2.1 dX19_netOfHost_33 (by decide) (fun c13 => ?_) (fun c13 => ?_)
      · replace h := zi_t c13 h
        exact bX19_netOfHost_54 hst F hA E hK2 x0 x1 x2 hx0 hr (lv_sub hl [0, 1, 2] rfl) h
      · replace h := zi_f c13 h
        refine lv_aload_n F.1 F.2.1 dX19_netOfHost_36 rfl (lv_at hl 0 rfl) ?_
        refine gf19_114 F hx0 hr dX19_netOfHost_37 ?_
        refine lv_iload_n F.1 F.2.1 dX19_netOfHost_40 rfl (lv_at hl 2 rfl) ?_
        obtain ⟨c14, h⟩ := zk_some h
        refine zr_aaldv (k := 186) (by decide) rfl rfl (zlen_d (by decide)) F (zal_a F hx0 (j := 18) rfl) hr dX19_netOfHost_41 c14 (fun y15 ey15 => ?_)
        replace h := zl_sub ey15 h
        have hy15 := zal_q hr (zal_a F hx0 (j := 18) rfl) rfl ey15
        clear ey15
        obtain ⟨a16, rfl, h⟩ := zd_some h
        refine gf19_276 F (hy15 _ rfl) hr dX19_netOfHost_42 ?_
        refine lv_iconst (v := (0)) F.1 F.2.1 dX19_netOfHost_45 (by decide) ?_
        obtain ⟨c17, h⟩ := zk_some h
        refine zr_aaldv (k := 147) (by decide) rfl rfl (zlen_d (by decide)) F (zal_a F (hy15 _ rfl) (j := 2) rfl) hr dX19_netOfHost_46 c17 (fun y18 ey18 => ?_)
        replace h := zl_sub ey18 h
        have hy18 := zal_q hr (zal_a F (hy15 _ rfl) (j := 2) rfl) rfl ey18
        clear ey18
        obtain ⟨a19, rfl, h⟩ := zd_some h
        refine gf19_149 F (hy18 _ rfl) hr dX19_netOfHost_47 (fun y20 ey20 => ?_)
        replace h := zl_sub ey20 h
        have hy20 := zal_g hr (hy18 _ rfl) (j := 2) rfl ey20
        clear ey20
        obtain ⟨a21, rfl, h⟩ := zd_some h
        refine gf19_181 F (hy20 _ rfl) hr dX19_netOfHost_50 ?_
        obtain ⟨rfl, rfl⟩ := zret h
        exact E _ _ _ _ dX19_netOfHost_53 trivial hr
theorem lX19_netOfHost_2 (hst : zSt B ids) (F : zFx p m c cX19_netOfHost 3 s args RX19 D cy B ids A) (hA : ∀ q : Nat, s.heap.size ≤ q → A q) {r : Int32} {z' : St} (E : zEnd p l e rmX19_netOfHost s m args below meth c cX19_netOfHost D cy B ids A Q (some (.int r)) z' .ireturn True) {N : Nat}  : ∀ (n : Nat) (x0 : Nat) (x1 : Int32) (x2 : Int32) (hx0 : (19, x0) ∈ ids) {z : St} {H : Heap} {locs : List Loc} {ls : Array Slot} (hr : zRep D cy B ids A s.heap z H locs) (hl : lv_has ls 3 [(0, .ref (B 19 x0)), (1, .int x1), (2, .int x2)]), fX19_netOfHost_2 N  n x0 x1 x2 z = some (r, z') → W p l e rmX19_netOfHost s m args below meth c H locs 0 0 Q (F0 m 2 ls []) := by
  intro n
  induction n with
  | zero => intro x0 x1 x2 hx0 z H locs ls hr hl h; cases h
  | succ n ih => intro x0 x1 x2 hx0 z H locs ls hr hl h; exact bX19_netOfHost_2 hst F hA E ih x0 x1 x2 hx0 hr hl h
def fX19_netOfHost (N : Nat)  (x0 : Nat) (x1 : Int32) (z : St) : Option (Int32 × St) := fX19_netOfHost_2 N N x0 x1 (0) z
set_option maxHeartbeats 4000000 in
set_option maxRecDepth 100000 in
theorem bX19_netOfHost_0 (hst : zSt B ids) (F : zFx p m c cX19_netOfHost 3 s args RX19 D cy B ids A) (hA : ∀ q : Nat, s.heap.size ≤ q → A q) {r : Int32} {z' : St} (E : zEnd p l e rmX19_netOfHost s m args below meth c cX19_netOfHost D cy B ids A Q (some (.int r)) z' .ireturn True) {N : Nat}  (x0 : Nat) (x1 : Int32) (hx0 : (19, x0) ∈ ids) {z : St} {H : Heap} {locs : List Loc} {ls : Array Slot} (hr : zRep D cy B ids A s.heap z H locs) (hl : lv_has ls 3 [(0, .ref (B 19 x0)), (1, .int x1)]) (h : fX19_netOfHost N x0 x1 z = some (r, z')) : W p l e rmX19_netOfHost s m args below meth c H locs 0 0 Q (F0 m 0 ls []) := by
  unfold fX19_netOfHost at h
  refine lv_iconst (v := (0)) F.1 F.2.1 dX19_netOfHost_0 (by decide) ?_
  refine lv_istore_n (lv' := [(2, .int (0)), (0, .ref (B 19 x0)), (1, .int x1)]) F.1 F.2.1 dX19_netOfHost_1 rfl hl (by decide) rfl (fun ls hl => ?_)
  exact lX19_netOfHost_2 hst F hA E  _ x0 x1 (0) hx0 hr (lv_sub hl [1, 2, 0] rfl) h
end SX19_netOfHost
set_option maxRecDepth 100000 in
theorem okX19_netOfHost (l : Launch) (D : va_G) (cy : Nat → ClassId) (B : Nat → Nat → Nat) (ids : List (Nat × Nat)) (hst : zSt B ids) (N : Nat) (x0 : Nat) (hx0 : (19, x0) ∈ ids) (x1 : Int32) {z : St} {r : Int32} {z' : St} (hW : zWf ids z) (h : fX19_netOfHost N x0 x1 z = some (r, z')) : zM l yX19_netOfHost (zws yX19_netOfHost cX19_netOfHost 3 (some .int)) rmX19_netOfHost D cy B ids [.ref (B 19 x0), .int x1] (some (.int r)) True z z' :=
  zM_of hst hW (by decide +kernel) (Nat.le_of_ble_eq_true rfl) (fun p e s m args below meth c A ls F hA hret hlocks hr hl => bX19_netOfHost_0 hst F hA (zEnd_i F hret hlocks) x0 x1 hx0 hr hl h)
abbrev rmX19_isLate : Room := { frames := 3, cells := 0, slots := 0, locals := 69 }
theorem hdX19_isLate : yX19_isLate.cls ≠ "java/lang/invoke/MethodHandle" ∧ yX19_isLate.cls ≠ "java/lang/invoke/VarHandle" ∧ (parseMethodDescriptor yX19_isLate.desc).map (fun d => d.parameters.length) = some 2 := by decide +kernel
theorem hroX19_isLate_X14_unthanked : rmX14_unthanked.frames + 1 ≤ rmX19_isLate.frames ∧ 8 + (2 + 11) + rmX14_unthanked.locals ≤ rmX19_isLate.locals := by decide
theorem hroX19_isLate_X19_areJoined : rmX19_areJoined.frames + 1 ≤ rmX19_isLate.frames ∧ 8 + (8 + 11) + rmX19_areJoined.locals ≤ rmX19_isLate.locals := by decide
theorem hroX19_isLate_X19_netOfHost : rmX19_netOfHost.frames + 1 ≤ rmX19_isLate.frames ∧ 8 + (3 + 11) + rmX19_netOfHost.locals ≤ rmX19_isLate.locals := by decide
section SX19_isLate
variable {p : Program} {l : Launch} {e : Env} {s : State} {m : MethodId} {args : Array Value} {below : List Frame} {meth : Method} {c : Code} {Q : State → Prop} {D : va_G} {cy : Nat → ClassId} {B : Nat → Nat → Nat} {ids : List (Nat × Nat)} {A : Nat → Prop}
def fX19_isLate (N : Nat)  (x0 : Nat) (x1 : Nat) (x2 : Nat) (z : St) : Option (Int32 × St) := if (zgI z 13 3 x2) = 0 then (some ((0), z)) else (zl (zgR z 13 4 x2) fun y2 => zd y2 fun a3 => if (zgI z 14 0 a3) < (4) then (some ((0), z)) else (zl (zgR z 13 4 x2) fun y5 => zd y5 fun a6 => if (zgI z 14 0 a6) = (11) then (some ((0), z)) else (zl (zgR z 13 4 x2) fun y8 => zd y8 fun a9 => zc (fX14_unthanked N a9 z) fun r10 z11 => if ¬ r10 = 0 then (zl (zgR z11 13 4 x2) fun y15 => zd y15 fun a16 => zc (fX19_netOfHost N x0 (zgI z11 14 3 a16) z11) fun r17 z18 => if r17 = (-1) then (some ((0), z18)) else (zk (0) 6 <| zl (zgQ z18 147 x1 (0).toNatClampNeg) fun y23 => zd y23 fun a24 => zl (zgR z18 18 2 a24) fun y25 => zd y25 fun a26 => zc (fX19_areJoined N x0 (zgI z18 16 0 a26) r17 z18) fun r27 z28 => if r27 = 0 then (some ((0), z28)) else (some ((1), z28)))) else (some ((0), z11)))))
set_option maxHeartbeats 4000000 in
set_option maxRecDepth 100000 in
theorem bX19_isLate_0 (hst : zSt B ids) (F : zFx p m c cX19_isLate 4 s args RX19 D cy B ids A) (hA : ∀ q : Nat, s.heap.size ≤ q → A q) {r : Int32} {z' : St} (E : zEnd p l e rmX19_isLate s m args below meth c cX19_isLate D cy B ids A Q (some (.int r)) z' .ireturn (r = 0 ∨ r = 1)) {N : Nat}  (x0 : Nat) (x1 : Nat) (x2 : Nat) (hx0 : (19, x0) ∈ ids) (hx1 : (12, x1) ∈ ids) (hx2 : (13, x2) ∈ ids) {z : St} {H : Heap} {locs : List Loc} {ls : Array Slot} (hr : zRep D cy B ids A s.heap z H locs) (hl : lv_has ls 4 [(0, .ref (B 19 x0)), (1, .ref (B 12 x1)), (2, .ref (B 13 x2))]) (h : fX19_isLate N x0 x1 x2 z = some (r, z')) : W p l e rmX19_isLate s m args below meth c H locs 0 0 Q (F0 m 0 ls []) := by
  unfold fX19_isLate at h
  refine lv_aload_n F.1 F.2.1 dX19_isLate_0 rfl (lv_at hl 2 rfl) ?_
  refine gf19_350 F hx2 hr dX19_isLate_1 ?_
  refine lv_if_eq (tgt := 40) F.1 F.2.1 dX19_isLate_4 (by decide) (fun c1 => ?_) (fun c1 => ?_)
  · replace h := zi_t c1 h
    refine lv_iconst (v := (0)) F.1 F.2.1 dX19_isLate_40 (by decide) ?_
    obtain ⟨rfl, rfl⟩ := zret h
    exact E _ _ _ _ dX19_isLate_41 (by decide) hr
  · replace h := zi_f c1 h
    refine lv_aload_n F.1 F.2.1 dX19_isLate_7 rfl (lv_at hl 2 rfl) ?_
    refine gf19_344 F hx2 hr dX19_isLate_8 (fun y2 ey2 => ?_)
    replace h := zl_sub ey2 h
    have hy2 := zal_g hr hx2 (j := 4) rfl ey2
    clear ey2
    obtain ⟨a3, rfl, h⟩ := zd_some h
    refine gf19_353 F (hy2 _ rfl) hr dX19_isLate_11 ?_
    refine lv_iconst (v := (4)) F.1 F.2.1 dX19_isLate_14 (by decide) ?_
    refine lv_icmp_lt (tgt := 40) F.1 F.2.1 dX19_isLate_15 (by decide) (fun c4 => ?_) (fun c4 => ?_)
    · replace h := zi_t c4 h
      refine lv_iconst (v := (0)) F.1 F.2.1 dX19_isLate_40 (by decide) ?_
      obtain ⟨rfl, rfl⟩ := zret h
      exact E _ _ _ _ dX19_isLate_41 (by decide) hr
    · replace h := zi_f c4 h
      refine lv_aload_n F.1 F.2.1 dX19_isLate_18 rfl (lv_at hl 2 rfl) ?_
      refine gf19_344 F hx2 hr dX19_isLate_19 (fun y5 ey5 => ?_)
      replace h := zl_sub ey5 h
      have hy5 := zal_g hr hx2 (j := 4) rfl ey5
      clear ey5
      obtain ⟨a6, rfl, h⟩ := zd_some h
      refine gf19_353 F (hy5 _ rfl) hr dX19_isLate_22 ?_
      refine lv_bipush (v := (11)) F.1 F.2.1 dX19_isLate_25 (by decide) ?_
      refine lv_icmp_eq (tgt := 40) F.1 F.2.1 dX19_isLate_27 (by decide) (fun c7 => ?_) (fun c7 => ?_)
      · replace h := zi_t c7 h
        refine lv_iconst (v := (0)) F.1 F.2.1 dX19_isLate_40 (by decide) ?_
        obtain ⟨rfl, rfl⟩ := zret h
        exact E _ _ _ _ dX19_isLate_41 (by decide) hr
      · replace h := zi_f c7 h
        refine lv_aload_n F.1 F.2.1 dX19_isLate_30 rfl (lv_at hl 2 rfl) ?_
        refine gf19_344 F hx2 hr dX19_isLate_31 (fun y8 ey8 => ?_)
        replace h := zl_sub ey8 h
        have hy8 := zal_g hr hx2 (j := 4) rfl ey8
        clear ey8
        obtain ⟨a9, rfl, h⟩ := zd_some h
        obtain ⟨r10, z11, hc12, h⟩ := zc_some h
        refine zr_calli (zrun_VN (As := []) (rest := []) zn_3033 zq_3035 zs_X14_unthanked zq_3036 zq_21 hdX14_unthanked (by decide) (T := TX14) (N := 47) rfl (okX14_unthanked l D cy B ids hst N a9 (hy8 _ rfl) hr.2.2 hc12) F hr (hy8 _ rfl) hl.1 rfl (by decide) dX19_isLate_34 rfl rfl hroX19_isLate_X14_unthanked ⟨Nat.zero_le _, Nat.zero_le _⟩) F hA hr (fun H locs hx13 hr => ?_)
        clear hc12
        refine lv_if_ne (tgt := 42) F.1 F.2.1 dX19_isLate_37 (by decide) (fun c14 => ?_) (fun c14 => ?_)
        · replace h := zi_t c14 h
          refine lv_aload_n F.1 F.2.1 dX19_isLate_42 rfl (lv_at hl 0 rfl) ?_
          refine lv_aload_n F.1 F.2.1 dX19_isLate_43 rfl (lv_at hl 2 rfl) ?_
          refine gf19_344 F hx2 hr dX19_isLate_44 (fun y15 ey15 => ?_)
          replace h := zl_sub ey15 h
          have hy15 := zal_g hr hx2 (j := 4) rfl ey15
          clear ey15
          obtain ⟨a16, rfl, h⟩ := zd_some h
          refine gf19_361 F (hy15 _ rfl) hr dX19_isLate_47 ?_
          obtain ⟨r17, z18, hc19, h⟩ := zc_some h
          refine zr_calli (zrun_V (As := [.int (zgI z11 14 3 a16)]) (rest := []) zq_3145 zq_3147 zs_X19_netOfHost zq_3148 zq_4 hdX19_netOfHost (by decide) (T := TX19) (N := 32) rfl (okX19_netOfHost l D cy B ids hst N x0 hx0 (zgI z11 14 3 a16)  hr.2.2 hc19) F hr hx0 hl.1 rfl (by decide) dX19_isLate_50 rfl rfl hroX19_isLate_X19_netOfHost ⟨Nat.zero_le _, Nat.zero_le _⟩) F hA hr (fun H locs hx20 hr => ?_)
          clear hc19
          refine lv_istore_n (lv' := [(3, .int r17), (0, .ref (B 19 x0)), (1, .ref (B 12 x1)), (2, .ref (B 13 x2))]) F.1 F.2.1 dX19_isLate_53 rfl hl (by decide) rfl (fun ls hl => ?_)
          refine lv_iload_n F.1 F.2.1 dX19_isLate_54 rfl (lv_at hl 0 rfl) ?_
          refine lv_iconst (v := (-1)) F.1 F.2.1 dX19_isLate_55 (by decide) ?_
          refine lv_icmp_eq (tgt := 83) F.1 F.2.1 dX19_isLate_56 (by decide) (fun c21 => ?_) (fun c21 => ?_)
          · replace h := zi_t c21 h
            refine lv_iconst (v := (0)) F.1 F.2.1 dX19_isLate_83 (by decide) ?_
            obtain ⟨rfl, rfl⟩ := zret h
            exact E _ _ _ _ dX19_isLate_84 (by decide) hr
          · replace h := zi_f c21 h
            refine lv_aload_n F.1 F.2.1 dX19_isLate_59 rfl (lv_at hl 1 rfl) ?_
            refine lv_aload_n F.1 F.2.1 dX19_isLate_60 rfl (lv_at hl 2 rfl) ?_
            refine gf19_276 F hx1 hr dX19_isLate_61 ?_
            refine lv_iconst (v := (0)) F.1 F.2.1 dX19_isLate_64 (by decide) ?_
            obtain ⟨c22, h⟩ := zk_some h
            refine zr_aaldv (k := 147) (by decide) rfl rfl (zlen_d (by decide)) F (zal_a F hx1 (j := 2) rfl) hr dX19_isLate_65 c22 (fun y23 ey23 => ?_)
            replace h := zl_sub ey23 h
            have hy23 := zal_q hr (zal_a F hx1 (j := 2) rfl) rfl ey23
            clear ey23
            obtain ⟨a24, rfl, h⟩ := zd_some h
            refine gf19_149 F (hy23 _ rfl) hr dX19_isLate_66 (fun y25 ey25 => ?_)
            replace h := zl_sub ey25 h
            have hy25 := zal_g hr (hy23 _ rfl) (j := 2) rfl ey25
            clear ey25
            obtain ⟨a26, rfl, h⟩ := zd_some h
            refine gf19_181 F (hy25 _ rfl) hr dX19_isLate_69 ?_
            refine lv_iload_n F.1 F.2.1 dX19_isLate_72 rfl (lv_at hl 0 rfl) ?_
            obtain ⟨r27, z28, hc29, h⟩ := zc_some h
            refine zr_calli (zrun_V (As := [.int (zgI z18 16 0 a26), .int r17]) (rest := []) zq_3149 zq_3151 zs_X19_areJoined zq_3152 zq_4 hdX19_areJoined (by decide) (T := TX19) (N := 32) rfl (okX19_areJoined l D cy B ids hst N x0 hx0 (zgI z18 16 0 a26)  r17  hr.2.2 hc29) F hr hx0 hl.1 rfl (by decide) dX19_isLate_73 rfl rfl hroX19_isLate_X19_areJoined ⟨Nat.zero_le _, Nat.zero_le _⟩) F hA hr (fun H locs hx30 hr => ?_)
            clear hc29
            refine lv_if_eq (tgt := 83) F.1 F.2.1 dX19_isLate_76 (by decide) (fun c31 => ?_) (fun c31 => ?_)
            · replace h := zi_t c31 h
              refine lv_iconst (v := (0)) F.1 F.2.1 dX19_isLate_83 (by decide) ?_
              obtain ⟨rfl, rfl⟩ := zret h
              exact E _ _ _ _ dX19_isLate_84 (by decide) hr
            · replace h := zi_f c31 h
              refine lv_iconst (v := (1)) F.1 F.2.1 dX19_isLate_79 (by decide) ?_
              refine lv_goto (tgt := 84) F.1 F.2.1 dX19_isLate_80 (by decide) ?_
              obtain ⟨rfl, rfl⟩ := zret h
              exact E _ _ _ _ dX19_isLate_84 (by decide) hr
        · replace h := zi_f (fun q => q c14) h
          refine lv_iconst (v := (0)) F.1 F.2.1 dX19_isLate_40 (by decide) ?_
          obtain ⟨rfl, rfl⟩ := zret h
          exact E _ _ _ _ dX19_isLate_41 (by decide) hr
end SX19_isLate
set_option maxRecDepth 100000 in
theorem okX19_isLate (l : Launch) (D : va_G) (cy : Nat → ClassId) (B : Nat → Nat → Nat) (ids : List (Nat × Nat)) (hst : zSt B ids) (N : Nat) (x0 : Nat) (hx0 : (19, x0) ∈ ids) (x1 : Nat) (hx1 : (12, x1) ∈ ids) (x2 : Nat) (hx2 : (13, x2) ∈ ids) {z : St} {r : Int32} {z' : St} (hW : zWf ids z) (h : fX19_isLate N x0 x1 x2 z = some (r, z')) : zM l yX19_isLate (zws yX19_isLate cX19_isLate 4 (some .boolean)) rmX19_isLate D cy B ids [.ref (B 19 x0), .ref (B 12 x1), .ref (B 13 x2)] (some (.int r)) (r = 0 ∨ r = 1) z z' :=
  zM_of hst hW (by decide +kernel) (Nat.le_of_ble_eq_true rfl) (fun p e s m args below meth c A ls F hA hret hlocks hr hl => bX19_isLate_0 hst F hA (zEnd_z F hret hlocks) x0 x1 x2 hx0 hx1 hx2 hr hl h)
abbrev rmX19_overdue : Room := { frames := 4, cells := 0, slots := 0, locals := 92 }
theorem hdX19_overdue : yX19_overdue.cls ≠ "java/lang/invoke/MethodHandle" ∧ yX19_overdue.cls ≠ "java/lang/invoke/VarHandle" ∧ (parseMethodDescriptor yX19_overdue.desc).map (fun d => d.parameters.length) = some 0 := by decide +kernel
theorem hroX19_overdue_X19_boundNow : rmX19_boundNow.frames + 1 ≤ rmX19_overdue.frames ∧ 8 + (3 + 11) + rmX19_boundNow.locals ≤ rmX19_overdue.locals := by decide
theorem hroX19_overdue_X19_costAbove : rmX19_costAbove.frames + 1 ≤ rmX19_overdue.frames ∧ 8 + (7 + 11) + rmX19_costAbove.locals ≤ rmX19_overdue.locals := by decide
theorem hroX19_overdue_X19_fromAbove : rmX19_fromAbove.frames + 1 ≤ rmX19_overdue.frames ∧ 8 + (5 + 11) + rmX19_fromAbove.locals ≤ rmX19_overdue.locals := by decide
theorem hroX19_overdue_X19_isLate : rmX19_isLate.frames + 1 ≤ rmX19_overdue.frames ∧ 8 + (4 + 11) + rmX19_isLate.locals ≤ rmX19_overdue.locals := by decide
section SX19_overdue
variable {p : Program} {l : Launch} {e : Env} {s : State} {m : MethodId} {args : Array Value} {below : List Frame} {meth : Method} {c : Code} {Q : State → Prop} {D : va_G} {cy : Nat → ClassId} {B : Nat → Nat → Nat} {ids : List (Nat × Nat)} {A : Nat → Prop}
def fX19_overdue_27b (N : Nat) (K27 : Nat → Int32 → Int32 → St → Option (Int32 × St)) (K54 : Nat → Int32 → Int32 → Int32 → St → Option (Int32 × St)) (K101 : Nat → Int32 → Int32 → Int32 → St → Option (Int32 × St)) (x0 : Nat) (x1 : Int32) (x2 : Int32) (z : St) : Option (Int32 × St) := if (zgI z 19 19 x0) ≤ x2 then (some (x1, z)) else (zk x2 16 <| zl (zgQ z 186 x0 x2.toNatClampNeg) fun y3 => zd y3 fun a4 => if (zgI z 12 1 a4) = 0 then (K101 x0 x1 x2 (0) z) else (zc (fX19_fromAbove N x0 x2 z) fun _ z7 => K54 x0 x1 x2 (0) z7))
def fX19_overdue_27 (N : Nat) (K54 : Nat → Int32 → Int32 → Int32 → St → Option (Int32 × St)) (K101 : Nat → Int32 → Int32 → Int32 → St → Option (Int32 × St)) : Nat → Nat → Int32 → Int32 → St → Option (Int32 × St)
  | 0 => fun _ _ _ _ => none
  | n + 1 => fX19_overdue_27b N (fX19_overdue_27 N K54 K101 n) K54 K101
set_option maxHeartbeats 4000000 in
set_option maxRecDepth 100000 in
theorem bX19_overdue_27 (hst : zSt B ids) (F : zFx p m c cX19_overdue 4 s args RX19 D cy B ids A) (hA : ∀ q : Nat, s.heap.size ≤ q → A q) {r : Int32} {z' : St} (E : zEnd p l e rmX19_overdue s m args below meth c cX19_overdue D cy B ids A Q (some (.int r)) z' .ireturn True) {N : Nat} {K27 : Nat → Int32 → Int32 → St → Option (Int32 × St)} {K54 : Nat → Int32 → Int32 → Int32 → St → Option (Int32 × St)} {K101 : Nat → Int32 → Int32 → Int32 → St → Option (Int32 × St)} (hK27 : ∀ (x0 : Nat) (x1 : Int32) (x2 : Int32) (hx0 : (19, x0) ∈ ids) {z : St} {H : Heap} {locs : List Loc} {ls : Array Slot} (hr : zRep D cy B ids A s.heap z H locs) (hl : lv_has ls 4 [(0, .ref (B 19 x0)), (1, .int x1), (2, .int x2)]), K27 x0 x1 x2 z = some (r, z') → W p l e rmX19_overdue s m args below meth c H locs 0 0 Q (F0 m 27 ls [])) (hK54 : ∀ (x0 : Nat) (x1 : Int32) (x2 : Int32) (x3 : Int32) (hx0 : (19, x0) ∈ ids) {z : St} {H : Heap} {locs : List Loc} {ls : Array Slot} (hr : zRep D cy B ids A s.heap z H locs) (hl : lv_has ls 4 [(0, .ref (B 19 x0)), (1, .int x1), (2, .int x2), (3, .int x3)]), K54 x0 x1 x2 x3 z = some (r, z') → W p l e rmX19_overdue s m args below meth c H locs 0 0 Q (F0 m 54 ls [])) (hK101 : ∀ (x0 : Nat) (x1 : Int32) (x2 : Int32) (x3 : Int32) (hx0 : (19, x0) ∈ ids) {z : St} {H : Heap} {locs : List Loc} {ls : Array Slot} (hr : zRep D cy B ids A s.heap z H locs) (hl : lv_has ls 4 [(0, .ref (B 19 x0)), (1, .int x1), (2, .int x2), (3, .int x3)]), K101 x0 x1 x2 x3 z = some (r, z') → W p l e rmX19_overdue s m args below meth c H locs 0 0 Q (F0 m 101 ls [])) (x0 : Nat) (x1 : Int32) (x2 : Int32) (hx0 : (19, x0) ∈ ids) {z : St} {H : Heap} {locs : List Loc} {ls : Array Slot} (hr : zRep D cy B ids A s.heap z H locs) (hl : lv_has ls 4 [(0, .ref (B 19 x0)), (1, .int x1), (2, .int x2)]) (h : fX19_overdue_27b N K27 K54 K101 x0 x1 x2 z = some (r, z')) : W p l e rmX19_overdue s m args below meth c H locs 0 0 Q (F0 m 27 ls []) := by
  unfold fX19_overdue_27b at h
  refine lv_iload_n F.1 F.2.1 dX19_overdue_27 rfl (lv_at hl 2 rfl) ?_
  refine lv_aload_n F.1 F.2.1 dX19_overdue_28 rfl (lv_at hl 0 rfl) ?_
  refine gf19_831 F hx0 hr dX19_overdue_29 ?_
  refine lv_icmp_ge (tgt := 151) F.1 F.2.1 dX19_overdue_32 (by decide) (fun c1 => ?_) (fun c1 => ?_)
  · replace h := zi_t c1 h
    refine lv_iload_n F.1 F.2.1 dX19_overdue_151 rfl (lv_at hl 1 rfl) ?_
    obtain ⟨rfl, rfl⟩ := zret h
    exact E _ _ _ _ dX19_overdue_152 trivial hr
  · replace h := zi_f c1 h
    refine lv_aload_n F.1 F.2.1 dX19_overdue_35 rfl (lv_at hl 0 rfl) ?_
    refine gf19_114 F hx0 hr dX19_overdue_36 ?_
    refine lv_iload_n F.1 F.2.1 dX19_overdue_39 rfl (lv_at hl 2 rfl) ?_
    obtain ⟨c2, h⟩ := zk_some h
    refine zr_aaldv (k := 186) (by decide) rfl rfl (zlen_d (by decide)) F (zal_a F hx0 (j := 18) rfl) hr dX19_overdue_40 c2 (fun y3 ey3 => ?_)
    replace h := zl_sub ey3 h
    have hy3 := zal_q hr (zal_a F hx0 (j := 18) rfl) rfl ey3
    clear ey3
    obtain ⟨a4, rfl, h⟩ := zd_some h
    refine gf19_298 F (hy3 _ rfl) hr dX19_overdue_41 ?_
    refine lv_if_eq (tgt := 99) F.1 F.2.1 dX19_overdue_44 (by decide) (fun c5 => ?_) (fun c5 => ?_)
    · replace h := zi_t c5 h
      refine lv_iconst (v := (0)) F.1 F.2.1 dX19_overdue_99 (by decide) ?_
      refine lv_istore_n (lv' := [(3, .int (0)), (0, .ref (B 19 x0)), (1, .int x1), (2, .int x2)]) F.1 F.2.1 dX19_overdue_100 rfl hl (by decide) rfl (fun ls hl => ?_)
      exact hK101 x0 x1 x2 (0) hx0 hr (lv_sub hl [1, 2, 3, 0] rfl) h
    · replace h := zi_f c5 h
      refine lv_aload_n F.1 F.2.1 dX19_overdue_47 rfl (lv_at hl 0 rfl) ?_
      refine lv_iload_n F.1 F.2.1 dX19_overdue_48 rfl (lv_at hl 2 rfl) ?_
      obtain ⟨r6, z7, hc8, h⟩ := zc_some h
      refine zr_callv (zrun_V (As := [.int x2]) (rest := []) zq_3105 zq_3107 zs_X19_fromAbove zq_3108 zq_4 hdX19_fromAbove (by decide) (T := TX19) (N := 32) rfl (okX19_fromAbove l D cy B ids hst N x0 hx0 x2  hr.2.2 hc8) F hr hx0 hl.1 rfl (by decide) dX19_overdue_49 rfl rfl hroX19_overdue_X19_fromAbove ⟨Nat.zero_le _, Nat.zero_le _⟩) F hA hr (fun H locs hx9 hr => ?_)
      clear hc8
      refine lv_iconst (v := (0)) F.1 F.2.1 dX19_overdue_52 (by decide) ?_
      refine lv_istore_n (lv' := [(3, .int (0)), (0, .ref (B 19 x0)), (1, .int x1), (2, .int x2)]) F.1 F.2.1 dX19_overdue_53 rfl hl (by decide) rfl (fun ls hl => ?_)
      exact hK54 x0 x1 x2 (0) hx0 hr (lv_sub hl [1, 2, 3, 0] rfl) h
theorem lX19_overdue_27 (hst : zSt B ids) (F : zFx p m c cX19_overdue 4 s args RX19 D cy B ids A) (hA : ∀ q : Nat, s.heap.size ≤ q → A q) {r : Int32} {z' : St} (E : zEnd p l e rmX19_overdue s m args below meth c cX19_overdue D cy B ids A Q (some (.int r)) z' .ireturn True) {N : Nat} {K54 : Nat → Int32 → Int32 → Int32 → St → Option (Int32 × St)} {K101 : Nat → Int32 → Int32 → Int32 → St → Option (Int32 × St)} (hK54 : ∀ (x0 : Nat) (x1 : Int32) (x2 : Int32) (x3 : Int32) (hx0 : (19, x0) ∈ ids) {z : St} {H : Heap} {locs : List Loc} {ls : Array Slot} (hr : zRep D cy B ids A s.heap z H locs) (hl : lv_has ls 4 [(0, .ref (B 19 x0)), (1, .int x1), (2, .int x2), (3, .int x3)]), K54 x0 x1 x2 x3 z = some (r, z') → W p l e rmX19_overdue s m args below meth c H locs 0 0 Q (F0 m 54 ls [])) (hK101 : ∀ (x0 : Nat) (x1 : Int32) (x2 : Int32) (x3 : Int32) (hx0 : (19, x0) ∈ ids) {z : St} {H : Heap} {locs : List Loc} {ls : Array Slot} (hr : zRep D cy B ids A s.heap z H locs) (hl : lv_has ls 4 [(0, .ref (B 19 x0)), (1, .int x1), (2, .int x2), (3, .int x3)]), K101 x0 x1 x2 x3 z = some (r, z') → W p l e rmX19_overdue s m args below meth c H locs 0 0 Q (F0 m 101 ls [])) : ∀ (n : Nat) (x0 : Nat) (x1 : Int32) (x2 : Int32) (hx0 : (19, x0) ∈ ids) {z : St} {H : Heap} {locs : List Loc} {ls : Array Slot} (hr : zRep D cy B ids A s.heap z H locs) (hl : lv_has ls 4 [(0, .ref (B 19 x0)), (1, .int x1), (2, .int x2)]), fX19_overdue_27 N K54 K101 n x0 x1 x2 z = some (r, z') → W p l e rmX19_overdue s m args below meth c H locs 0 0 Q (F0 m 27 ls []) := by
  intro n
  induction n with
  | zero => intro x0 x1 x2 hx0 z H locs ls hr hl h; cases h
  | succ n ih => intro x0 x1 x2 hx0 z H locs ls hr hl h; exact bX19_overdue_27 hst F hA E ih hK54 hK101 x0 x1 x2 hx0 hr hl h
def fX19_overdue (N : Nat) (K54 : Nat → Int32 → Int32 → Int32 → St → Option (Int32 × St)) (K101 : Nat → Int32 → Int32 → Int32 → St → Option (Int32 × St)) (x0 : Nat) (z : St) : Option (Int32 × St) := zl (zsI z 19 25 x0 (0)) fun z1 => zc (fX19_boundNow N x0 z1) fun r2 z3 => if r2 ≤ ((zgI z1 19 24 x0) - (zgI z1 19 27 x0)) then (fX19_overdue_27 N K54 K101 N x0 (0) (0) z3) else (some ((0), z3))
set_option maxHeartbeats 4000000 in
set_option maxRecDepth 100000 in
theorem bX19_overdue_0 (hst : zSt B ids) (F : zFx p m c cX19_overdue 4 s args RX19 D cy B ids A) (hA : ∀ q : Nat, s.heap.size ≤ q → A q) {r : Int32} {z' : St} (E : zEnd p l e rmX19_overdue s m args below meth c cX19_overdue D cy B ids A Q (some (.int r)) z' .ireturn True) {N : Nat} {K54 : Nat → Int32 → Int32 → Int32 → St → Option (Int32 × St)} {K101 : Nat → Int32 → Int32 → Int32 → St → Option (Int32 × St)} (hK54 : ∀ (x0 : Nat) (x1 : Int32) (x2 : Int32) (x3 : Int32) (hx0 : (19, x0) ∈ ids) {z : St} {H : Heap} {locs : List Loc} {ls : Array Slot} (hr : zRep D cy B ids A s.heap z H locs) (hl : lv_has ls 4 [(0, .ref (B 19 x0)), (1, .int x1), (2, .int x2), (3, .int x3)]), K54 x0 x1 x2 x3 z = some (r, z') → W p l e rmX19_overdue s m args below meth c H locs 0 0 Q (F0 m 54 ls [])) (hK101 : ∀ (x0 : Nat) (x1 : Int32) (x2 : Int32) (x3 : Int32) (hx0 : (19, x0) ∈ ids) {z : St} {H : Heap} {locs : List Loc} {ls : Array Slot} (hr : zRep D cy B ids A s.heap z H locs) (hl : lv_has ls 4 [(0, .ref (B 19 x0)), (1, .int x1), (2, .int x2), (3, .int x3)]), K101 x0 x1 x2 x3 z = some (r, z') → W p l e rmX19_overdue s m args below meth c H locs 0 0 Q (F0 m 101 ls [])) (x0 : Nat) (hx0 : (19, x0) ∈ ids) {z : St} {H : Heap} {locs : List Loc} {ls : Array Slot} (hr : zRep D cy B ids A s.heap z H locs) (hl : lv_has ls 4 [(0, .ref (B 19 x0))]) (h : fX19_overdue N K54 K101 x0 z = some (r, z')) : W p l e rmX19_overdue s m args below meth c H locs 0 0 Q (F0 m 0 ls []) := by
  unfold fX19_overdue at h
  refine lv_aload_n F.1 F.2.1 dX19_overdue_0 rfl (lv_at hl 0 rfl) ?_
  refine lv_iconst (v := (0)) F.1 F.2.1 dX19_overdue_1 (by decide) ?_
  refine pf19_140 F hx0 hr dX19_overdue_2 (0) (fun H locs z1 ez1 hr => ?_)
  replace h := zl_sub ez1 h
  clear ez1
  refine lv_aload_n F.1 F.2.1 dX19_overdue_5 rfl (lv_at hl 0 rfl) ?_
  refine gf19_143 F hx0 hr dX19_overdue_6 ?_
  refine lv_aload_n F.1 F.2.1 dX19_overdue_9 rfl (lv_at hl 0 rfl) ?_
  refine gf19_146 F hx0 hr dX19_overdue_10 ?_
  refine lv_isub F.1 F.2.1 dX19_overdue_13 ?_
  refine lv_aload_n F.1 F.2.1 dX19_overdue_14 rfl (lv_at hl 0 rfl) ?_
  obtain ⟨r2, z3, hc4, h⟩ := zc_some h
  refine zr_calli (zrun_V (As := []) (rest := [.int ((zgI z1 19 24 x0) - (zgI z1 19 27 x0))]) zq_3121 zq_3123 zs_X19_boundNow zq_3124 zq_4 hdX19_boundNow (by decide) (T := TX19) (N := 32) rfl (okX19_boundNow l D cy B ids hst N x0 hx0 hr.2.2 hc4) F hr hx0 hl.1 rfl (Nat.le_of_ble_eq_true rfl) dX19_overdue_15 rfl rfl hroX19_overdue_X19_boundNow ⟨Nat.zero_le _, Nat.zero_le _⟩) F hA hr (fun H locs hx5 hr => ?_)
  clear hc4
  refine lv_icmp_ge (tgt := 23) F.1 F.2.1 dX19_overdue_18 (by decide) (fun c6 => ?_) (fun c6 => ?_)
  · replace h := zi_t c6 h
    refine lv_iconst (v := (0)) F.1 F.2.1 dX19_overdue_23 (by decide) ?_
    refine lv_istore_n (lv' := [(1, .int (0)), (0, .ref (B 19 x0))]) F.1 F.2.1 dX19_overdue_24 rfl hl (by decide) rfl (fun ls hl => ?_)
    refine lv_iconst (v := (0)) F.1 F.2.1 dX19_overdue_25 (by decide) ?_
    refine lv_istore_n (lv' := [(2, .int (0)), (1, .int (0)), (0, .ref (B 19 x0))]) F.1 F.2.1 dX19_overdue_26 rfl hl (by decide) rfl (fun ls hl => ?_)
    exact lX19_overdue_27 hst F hA E hK54 hK101 _ x0 (0) (0) hx0 hr (lv_sub hl [2, 1, 0] rfl) h
  · replace h := zi_f c6 h
    refine lv_iconst (v := (0)) F.1 F.2.1 dX19_overdue_21 (by decide) ?_
    obtain ⟨rfl, rfl⟩ := zret h
    exact E _ _ _ _ dX19_overdue_22 trivial hr
end SX19_overdue
set_option maxRecDepth 100000 in
theorem okX19_overdue (l : Launch) (D : va_G) (cy : Nat → ClassId) (B : Nat → Nat → Nat) (ids : List (Nat × Nat)) (hst : zSt B ids) (N : Nat) (x0 : Nat) (hx0 : (19, x0) ∈ ids) {z : St} {r : Int32} {z' : St} (hW : zWf ids z) (h : fX19_overdue N x0 z = some (r, z')) : zM l yX19_overdue (zws yX19_overdue cX19_overdue 4 (some .int)) rmX19_overdue D cy B ids [.ref (B 19 x0)] (some (.int r)) True z z' :=
  zM_of hst hW (by decide +kernel) (Nat.le_of_ble_eq_true rfl) (fun p e s m args below meth c A ls F hA hret hlocks hr hl => bX19_overdue_0 hst F hA (zEnd_i F hret hlocks) x0 hx0 hr hl h)
