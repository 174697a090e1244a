abbrev rmX14_abort : Room := { frames := 1, cells := 0, slots := 0, locals := 23 }
theorem hdX14_abort : yX14_abort.cls ≠ "java/lang/invoke/MethodHandle" ∧ yX14_abort.cls ≠ "java/lang/invoke/VarHandle" ∧ (parseMethodDescriptor yX14_abort.desc).map (fun d => d.parameters.length) = some 1 := by decide +kernel
theorem hroX14_abort_X14_become : rmX14_become.frames + 1 ≤ rmX14_abort.frames ∧ 8 + (3 + 11) + rmX14_become.locals ≤ rmX14_abort.locals := by decide
theorem hroX14_abort_X14_resetWith : rmX14_resetWith.frames + 1 ≤ rmX14_abort.frames ∧ 8 + (4 + 11) + rmX14_resetWith.locals ≤ rmX14_abort.locals := by decide
section SX14_abort
variable {p : Program} {l : Launch} {e : Env} {s : State} {m : MethodId} {args : Array Value} {below : List Frame} {meth : Method} {c : Code} {Q : State → Prop} {D : va_G} {cy : Nat → ClassId} {B : Nat → Nat → Nat} {ids : List (Nat × Nat)} {A : Nat → Prop}
def fX14_abort_64 (N : Nat)  (s0 : Nat) (s1 : Int32) (s2 : Int32) (s3 : Int32) (z : St) : Option (Int32 × St) := zc (fX14_resetWith N s0 s1 s2 s3 z) fun _ z2 => some (0, z2)
set_option maxHeartbeats 4000000 in
set_option maxRecDepth 100000 in
theorem bX14_abort_64 (hst : zSt B ids) (F : zFx p m c cX14_abort 3 s args RX14 D cy B ids A) (hA : ∀ q : Nat, s.heap.size ≤ q → A q) {r : Int32} {z' : St} (E : zEnd p l e rmX14_abort s m args below meth c cX14_abort D cy B ids A Q none z' .return_ True) {N : Nat}  (s0 : Nat) (s1 : Int32) (s2 : Int32) (s3 : Int32) (hs0 : (14, s0) ∈ ids) {z : St} {H : Heap} {locs : List Loc} {ls : Array Slot} (hr : zRep D cy B ids A s.heap z H locs) (hl : lv_has ls 3 []) (h : fX14_abort_64 N s0 s1 s2 s3 z = some (r, z')) : W p l e rmX14_abort s m args below meth c H locs 0 0 Q (F0 m 64 ls [.int s3, .int s2, .int s1, .ref (B 14 s0)]) := by
  unfold fX14_abort_64 at h
  replace h := zc_some h
  obtain ⟨r1, z2, hc3, h⟩ := h
  refine zr_callv (zrun_V (As := [.int s1, .int s2, .int s3]) (rest := []) zq_3064 zq_2673 zs_X14_resetWith zq_2674 zq_21 hdX14_resetWith (by decide) (T := TX14) (N := 47) rfl (okX14_resetWith l D cy B ids hst N s0 hs0 s1  s2  s3  hr.2.2 hc3) F hr hs0 hl.1 rfl (by decide) dX14_abort_64 rfl rfl hroX14_abort_X14_resetWith ⟨Nat.zero_le _, Nat.zero_le _⟩) F hA hr (fun H locs hw4 hr => ?_)
  clear hc3
  obtain ⟨rfl, rfl⟩ := zret h
  exact E _ _ _ _ dX14_abort_67 trivial hr
def fX14_abort_30 (N : Nat)  (x0 : Nat) (x1 : Int32) (s0 : Int32) (z : St) : Option (Int32 × St) := zc (fX14_become N x0 (11 : Int32) x1 z) fun _ z2 => if s0 = 0 then (some (0, z2)) else (if (zgI z2 14 17 x0) = 0 then (fX14_abort_64 N x0 (12 : Int32) (zgI z2 14 7 x0) (0 : Int32) z2) else (fX14_abort_64 N x0 (12 : Int32) (zgI z2 14 7 x0) (zgI z2 14 16 x0) z2))
set_option maxHeartbeats 4000000 in
set_option maxRecDepth 100000 in
theorem bX14_abort_30 (hst : zSt B ids) (F : zFx p m c cX14_abort 3 s args RX14 D cy B ids A) (hA : ∀ q : Nat, s.heap.size ≤ q → A q) {r : Int32} {z' : St} (E : zEnd p l e rmX14_abort s m args below meth c cX14_abort D cy B ids A Q none z' .return_ True) {N : Nat}  (x0 : Nat) (x1 : Int32) (s0 : Int32) (hx0 : (14, x0) ∈ ids) {z : St} {H : Heap} {locs : List Loc} {ls : Array Slot} (hr : zRep D cy B ids A s.heap z H locs) (hl : lv_has ls 3 [(0, .ref (B 14 x0)), (1, .int x1)]) (h : fX14_abort_30 N x0 x1 s0 z = some (r, z')) : W p l e rmX14_abort s m args below meth c H locs 0 0 Q (F0 m 30 ls [.int s0]) := by
  unfold fX14_abort_30 at h
  refine lv_istore_n (lv' := [(2, .int s0), (0, .ref (B 14 x0)), (1, .int x1)]) F.1 F.2.1 dX14_abort_30 rfl hl (by decide) rfl (fun ls hl => ?_)
  refine lv_aload_n F.1 F.2.1 dX14_abort_31 rfl (lv_at hl 1 rfl) ?_
  refine lv_bipush (v := (11 : Int32)) F.1 F.2.1 dX14_abort_32 (by decide) ?_
  refine lv_iload_n F.1 F.2.1 dX14_abort_34 rfl (lv_at hl 2 rfl) ?_
  replace h := zc_some h
  obtain ⟨r1, z2, hc3, h⟩ := h
  refine zr_callv (zrun_V (As := [.int (11 : Int32), .int x1]) (rest := []) zq_2932 zq_2645 zs_X14_become zq_2646 zq_21 hdX14_become (by decide) (T := TX14) (N := 47) rfl (okX14_become l D cy B ids hst N x0 hx0 (11 : Int32)  x1  hr.2.2 hc3) F hr hx0 hl.1 rfl (by decide) dX14_abort_35 rfl rfl hroX14_abort_X14_become ⟨Nat.zero_le _, Nat.zero_le _⟩) F hA hr (fun H locs hw4 hr => ?_)
  clear hc3
  refine lv_iload_n F.1 F.2.1 dX14_abort_38 rfl (lv_at hl 0 rfl) ?_
  refine lv_if_eq (tgt := 67) F.1 F.2.1 dX14_abort_39 (by decide) (fun c5 => ?_) (fun c5 => ?_)
  · replace h := zi_t c5 h
    obtain ⟨rfl, rfl⟩ := zret h
    exact E _ _ _ _ dX14_abort_67 trivial hr
  · replace h := zi_f c5 h
    refine lv_aload_n F.1 F.2.1 dX14_abort_42 rfl (lv_at hl 1 rfl) ?_
    refine lv_bipush (v := (12 : Int32)) F.1 F.2.1 dX14_abort_43 (by decide) ?_
    refine lv_aload_n F.1 F.2.1 dX14_abort_45 rfl (lv_at hl 1 rfl) ?_
    refine gf14_48 F hx0 hr dX14_abort_46 ?_
    refine lv_aload_n F.1 F.2.1 dX14_abort_49 rfl (lv_at hl 1 rfl) ?_
    refine gf14_69 F hx0 hr dX14_abort_50 ?_
    refine lv_if_eq (tgt := 63) F.1 F.2.1 dX14_abort_53 (by decide) (fun c6 => ?_) (fun c6 => ?_)
    · replace h := zi_t c6 h
      refine lv_iconst (v := (0 : Int32)) F.1 F.2.1 dX14_abort_63 (by decide) ?_
      exact bX14_abort_64 hst F hA E  x0 (12 : Int32) (zgI z2 14 7 x0) (0 : Int32) hx0 hr (lv_sub hl [] rfl) h
    · replace h := zi_f c6 h
      refine lv_aload_n F.1 F.2.1 dX14_abort_56 rfl (lv_at hl 1 rfl) ?_
      refine gf14_66 F hx0 hr dX14_abort_57 ?_
      refine lv_goto (tgt := 64) F.1 F.2.1 dX14_abort_60 (by decide) ?_
      exact bX14_abort_64 hst F hA E  x0 (12 : Int32) (zgI z2 14 7 x0) (zgI z2 14 16 x0) hx0 hr (lv_sub hl [] rfl) h
def fX14_abort_29 (N : Nat)  (x0 : Nat) (x1 : Int32) (z : St) : Option (Int32 × St) := fX14_abort_30 N x0 x1 (0 : Int32) z
set_option maxHeartbeats 4000000 in
set_option maxRecDepth 100000 in
theorem bX14_abort_29 (hst : zSt B ids) (F : zFx p m c cX14_abort 3 s args RX14 D cy B ids A) (hA : ∀ q : Nat, s.heap.size ≤ q → A q) {r : Int32} {z' : St} (E : zEnd p l e rmX14_abort s m args below meth c cX14_abort D cy B ids A Q none z' .return_ True) {N : Nat}  (x0 : Nat) (x1 : Int32) (hx0 : (14, x0) ∈ ids) {z : St} {H : Heap} {locs : List Loc} {ls : Array Slot} (hr : zRep D cy B ids A s.heap z H locs) (hl : lv_has ls 3 [(0, .ref (B 14 x0)), (1, .int x1)]) (h : fX14_abort_29 N x0 x1 z = some (r, z')) : W p l e rmX14_abort s m args below meth c H locs 0 0 Q (F0 m 29 ls []) := by
  unfold fX14_abort_29 at h
  refine lv_iconst (v := (0 : Int32)) F.1 F.2.1 dX14_abort_29 (by decide) ?_
  exact bX14_abort_30 hst F hA E  x0 x1 (0 : Int32) hx0 hr (lv_sub hl [0, 1] rfl) h
def fX14_abort (N : Nat)  (x0 : Nat) (x1 : Int32) (z : St) : Option (Int32 × St) := if (zgI z 14 0 x0) = (1 : Int32) then (fX14_abort_29 N x0 x1 z) else (if (zgI z 14 0 x0) = (2 : Int32) then (fX14_abort_29 N x0 x1 z) else (if (zgI z 14 0 x0) = (10 : Int32) then (fX14_abort_29 N x0 x1 z) else (fX14_abort_30 N x0 x1 (1 : Int32) z)))
set_option maxHeartbeats 4000000 in
set_option maxRecDepth 100000 in
theorem bX14_abort_0 (hst : zSt B ids) (F : zFx p m c cX14_abort 3 s args RX14 D cy B ids A) (hA : ∀ q : Nat, s.heap.size ≤ q → A q) {r : Int32} {z' : St} (E : zEnd p l e rmX14_abort s m args below meth c cX14_abort D cy B ids A Q none z' .return_ True) {N : Nat}  (x0 : Nat) (x1 : Int32) (hx0 : (14, x0) ∈ ids) {z : St} {H : Heap} {locs : List Loc} {ls : Array Slot} (hr : zRep D cy B ids A s.heap z H locs) (hl : lv_has ls 3 [(0, .ref (B 14 x0)), (1, .int x1)]) (h : fX14_abort N x0 x1 z = some (r, z')) : W p l e rmX14_abort s m args below meth c H locs 0 0 Q (F0 m 0 ls []) := by
  unfold fX14_abort at h
  refine lv_aload_n F.1 F.2.1 dX14_abort_0 rfl (lv_at hl 0 rfl) ?_
  refine gf14_29 F hx0 hr dX14_abort_1 ?_
  refine lv_iconst (v := (1 : Int32)) F.1 F.2.1 dX14_abort_4 (by decide) ?_
  refine lv_icmp_eq (tgt := 29) F.1 F.2.1 dX14_abort_5 (by decide) (fun c1 => ?_) (fun c1 => ?_)
  · replace h := zi_t c1 h
    exact bX14_abort_29 hst F hA E  x0 x1 hx0 hr (lv_sub hl [0, 1] rfl) h
  · replace h := zi_f c1 h
    refine lv_aload_n F.1 F.2.1 dX14_abort_8 rfl (lv_at hl 0 rfl) ?_
    refine gf14_29 F hx0 hr dX14_abort_9 ?_
    refine lv_iconst (v := (2 : Int32)) F.1 F.2.1 dX14_abort_12 (by decide) ?_
    refine lv_icmp_eq (tgt := 29) F.1 F.2.1 dX14_abort_13 (by decide) (fun c2 => ?_) (fun c2 => ?_)
    · replace h := zi_t c2 h
      exact bX14_abort_29 hst F hA E  x0 x1 hx0 hr (lv_sub hl [0, 1] rfl) h
    · replace h := zi_f c2 h
      refine lv_aload_n F.1 F.2.1 dX14_abort_16 rfl (lv_at hl 0 rfl) ?_
      refine gf14_29 F hx0 hr dX14_abort_17 ?_
      refine lv_bipush (v := (10 : Int32)) F.1 F.2.1 dX14_abort_20 (by decide) ?_
      refine lv_icmp_eq (tgt := 29) F.1 F.2.1 dX14_abort_22 (by decide) (fun c3 => ?_) (fun c3 => ?_)
      · replace h := zi_t c3 h
        exact bX14_abort_29 hst F hA E  x0 x1 hx0 hr (lv_sub hl [0, 1] rfl) h
      · replace h := zi_f c3 h
        refine lv_iconst (v := (1 : Int32)) F.1 F.2.1 dX14_abort_25 (by decide) ?_
        refine lv_goto (tgt := 30) F.1 F.2.1 dX14_abort_26 (by decide) ?_
        exact bX14_abort_30 hst F hA E  x0 x1 (1 : Int32) hx0 hr (lv_sub hl [0, 1] rfl) h
end SX14_abort
set_option maxRecDepth 100000 in
theorem okX14_abort (l : Launch) (D : va_G) (cy : Nat → ClassId) (B : Nat → Nat → Nat) (ids : List (Nat × Nat)) (hst : zSt B ids) (N : Nat) (x0 : Nat) (hx0 : (14, x0) ∈ ids) (x1 : Int32) {z : St} {r : Int32} {z' : St} (hW : zWf ids z) (h : fX14_abort N x0 x1 z = some (r, z')) : zM l yX14_abort (zws yX14_abort cX14_abort 3 none) rmX14_abort D cy B ids [.ref (B 14 x0), .int x1] none True z z' :=
  zM_of hst hW (by decide +kernel) (Nat.le_of_ble_eq_true rfl) (fun p e s m args below meth c A ls F hA hret hlocks hr hl => bX14_abort_0 hst F hA (zEnd_v F hret hlocks) x0 x1 hx0 hr hl h)
abbrev rmX17_isWhole : Room := { frames := 0, cells := 0, slots := 0, locals := 0 }
theorem hdX17_isWhole : yX17_isWhole.cls ≠ "java/lang/invoke/MethodHandle" ∧ yX17_isWhole.cls ≠ "java/lang/invoke/VarHandle" ∧ (parseMethodDescriptor yX17_isWhole.desc).map (fun d => d.parameters.length) = some 0 := by decide +kernel
section SX17_isWhole
variable {p : Program} {l : Launch} {e : Env} {s : State} {m : MethodId} {args : Array Value} {below : List Frame} {meth : Method} {c : Code} {Q : State → Prop} {D : va_G} {cy : Nat → ClassId} {B : Nat → Nat → Nat} {ids : List (Nat × Nat)} {A : Nat → Prop}
def fX17_isWhole_2b (N : Nat) (K2 : Nat → Int32 → St → Option (Int32 × St)) (x0 : Nat) (x1 : Int32) (z : St) : Option (Int32 × St) := if (((zgI z 17 5 x0) + (7 : Int32)) / (8 : Int32)) ≤ x1 then (if (zgI z 17 5 x0) = (-1 : Int32) then (some ((0 : Int32), z)) else (some ((1 : Int32), z))) else (zk x1 192 <| if ¬ (zgA z 166 x0 (Int32.toNatClampNeg x1)) = 0 then (zl (x1 + 1) fun v5 => K2 x0 v5 z) else (some ((0 : Int32), z)))
def fX17_isWhole_2 (N : Nat)  : Nat → Nat → Int32 → St → Option (Int32 × St)
  | 0 => fun _ _ _ => none
  | n + 1 => fX17_isWhole_2b N (fX17_isWhole_2 N  n)
set_option maxHeartbeats 4000000 in
set_option maxRecDepth 100000 in
theorem bX17_isWhole_2 (hst : zSt B ids) (F : zFx p m c cX17_isWhole 2 s args RX17 D cy B ids A) (hA : ∀ q : Nat, s.heap.size ≤ q → A q) {r : Int32} {z' : St} (E : zEnd p l e rmX17_isWhole s m args below meth c cX17_isWhole D cy B ids A Q (some (.int r)) z' .ireturn (r = 0 ∨ r = 1)) {N : Nat} {K2 : Nat → Int32 → St → Option (Int32 × St)} (hK2 : ∀ (x0 : Nat) (x1 : Int32) (hx0 : (17, x0) ∈ ids) {z : St} {H : Heap} {locs : List Loc} {ls : Array Slot} (hr : zRep D cy B ids A s.heap z H locs) (hl : lv_has ls 2 [(0, .ref (B 17 x0)), (1, .int x1)]), K2 x0 x1 z = some (r, z') → W p l e rmX17_isWhole s m args below meth c H locs 0 0 Q (F0 m 2 ls [])) (x0 : Nat) (x1 : Int32) (hx0 : (17, x0) ∈ ids) {z : St} {H : Heap} {locs : List Loc} {ls : Array Slot} (hr : zRep D cy B ids A s.heap z H locs) (hl : lv_has ls 2 [(0, .ref (B 17 x0)), (1, .int x1)]) (h : fX17_isWhole_2b N K2 x0 x1 z = some (r, z')) : W p l e rmX17_isWhole s m args below meth c H locs 0 0 Q (F0 m 2 ls []) := by
  unfold fX17_isWhole_2b at h
  refine lv_iload_n F.1 F.2.1 dX17_isWhole_2 rfl (lv_at hl 1 rfl) ?_
  refine lv_aload_n F.1 F.2.1 dX17_isWhole_3 rfl (lv_at hl 0 rfl) ?_
  refine gf17_15 F hx0 hr dX17_isWhole_4 ?_
  refine lv_bipush (v := (7 : Int32)) F.1 F.2.1 dX17_isWhole_7 (by decide) ?_
  refine lv_iadd F.1 F.2.1 dX17_isWhole_9 ?_
  refine lv_bipush (v := (8 : Int32)) F.1 F.2.1 dX17_isWhole_10 (by decide) ?_
  refine lv_idiv F.1 F.2.1 dX17_isWhole_12 (by decide) ?_
  refine lv_icmp_ge (tgt := 33) F.1 F.2.1 dX17_isWhole_13 (by decide) (fun c1 => ?_) (fun c1 => ?_)
  · replace h := zi_t c1 h
    refine lv_aload_n F.1 F.2.1 dX17_isWhole_33 rfl (lv_at hl 0 rfl) ?_
    refine gf17_15 F hx0 hr dX17_isWhole_34 ?_
    refine lv_iconst (v := (-1 : Int32)) F.1 F.2.1 dX17_isWhole_37 (by decide) ?_
    refine lv_icmp_eq (tgt := 45) F.1 F.2.1 dX17_isWhole_38 (by decide) (fun c2 => ?_) (fun c2 => ?_)
    · replace h := zi_t c2 h
      refine lv_iconst (v := (0 : Int32)) F.1 F.2.1 dX17_isWhole_45 (by decide) ?_
      obtain ⟨rfl, rfl⟩ := zret h
      exact E _ _ _ _ dX17_isWhole_46 (by decide) hr
    · replace h := zi_f c2 h
      refine lv_iconst (v := (1 : Int32)) F.1 F.2.1 dX17_isWhole_41 (by decide) ?_
      refine lv_goto (tgt := 46) F.1 F.2.1 dX17_isWhole_42 (by decide) ?_
      obtain ⟨rfl, rfl⟩ := zret h
      exact E _ _ _ _ dX17_isWhole_46 (by decide) hr
  · replace h := zi_f c1 h
    refine lv_aload_n F.1 F.2.1 dX17_isWhole_16 rfl (lv_at hl 0 rfl) ?_
    refine gf17_9 F hx0 hr dX17_isWhole_17 ?_
    refine lv_iload_n F.1 F.2.1 dX17_isWhole_20 rfl (lv_at hl 1 rfl) ?_
    replace h := zk_some h
    obtain ⟨c3, h⟩ := h
    refine zr_zald (k := 166) (by decide) rfl (by decide) F (zal_a F hx0 (j := 6) rfl) hr dX17_isWhole_21 c3 ?_
    refine lv_if_ne (tgt := 27) F.1 F.2.1 dX17_isWhole_22 (by decide) (fun c4 => ?_) (fun c4 => ?_)
    · replace h := zi_t c4 h
      obtain ⟨v5, ev5⟩ : ∃ y : Int32, y = (x1 + 1) := ⟨_, rfl⟩
      replace h := zl_sub ev5 h
      refine lv_iinc (v := v5) (lv' := [(1, .int v5), (0, .ref (B 17 x0))]) F.1 F.2.1 dX17_isWhole_27 hl (k := 1) rfl (by rw [ev5]; rfl) (by decide) rfl (fun ls hl => ?_)
      refine lv_goto (tgt := 2) F.1 F.2.1 dX17_isWhole_30 (by decide) ?_
      exact hK2 x0 v5 hx0 hr (lv_sub hl [1, 0] rfl) h
    · replace h := zi_f (fun q => q c4) h
      refine lv_iconst (v := (0 : Int32)) F.1 F.2.1 dX17_isWhole_25 (by decide) ?_
      obtain ⟨rfl, rfl⟩ := zret h
      exact E _ _ _ _ dX17_isWhole_26 (by decide) hr
theorem lX17_isWhole_2 (hst : zSt B ids) (F : zFx p m c cX17_isWhole 2 s args RX17 D cy B ids A) (hA : ∀ q : Nat, s.heap.size ≤ q → A q) {r : Int32} {z' : St} (E : zEnd p l e rmX17_isWhole s m args below meth c cX17_isWhole D cy B ids A Q (some (.int r)) z' .ireturn (r = 0 ∨ r = 1)) {N : Nat}  : ∀ (n : Nat) (x0 : Nat) (x1 : Int32) (hx0 : (17, x0) ∈ ids) {z : St} {H : Heap} {locs : List Loc} {ls : Array Slot} (hr : zRep D cy B ids A s.heap z H locs) (hl : lv_has ls 2 [(0, .ref (B 17 x0)), (1, .int x1)]), fX17_isWhole_2 N  n x0 x1 z = some (r, z') → W p l e rmX17_isWhole s m args below meth c H locs 0 0 Q (F0 m 2 ls []) := by
  intro n
  induction n with
  | zero => intro x0 x1 hx0 z H locs ls hr hl h; cases h
  | succ n ih => intro x0 x1 hx0 z H locs ls hr hl h; exact bX17_isWhole_2 hst F hA E ih x0 x1 hx0 hr hl h
def fX17_isWhole (N : Nat)  (x0 : Nat) (z : St) : Option (Int32 × St) := fX17_isWhole_2 N N x0 (0 : Int32) z
set_option maxHeartbeats 4000000 in
set_option maxRecDepth 100000 in
theorem bX17_isWhole_0 (hst : zSt B ids) (F : zFx p m c cX17_isWhole 2 s args RX17 D cy B ids A) (hA : ∀ q : Nat, s.heap.size ≤ q → A q) {r : Int32} {z' : St} (E : zEnd p l e rmX17_isWhole s m args below meth c cX17_isWhole D cy B ids A Q (some (.int r)) z' .ireturn (r = 0 ∨ r = 1)) {N : Nat}  (x0 : Nat) (hx0 : (17, x0) ∈ ids) {z : St} {H : Heap} {locs : List Loc} {ls : Array Slot} (hr : zRep D cy B ids A s.heap z H locs) (hl : lv_has ls 2 [(0, .ref (B 17 x0))]) (h : fX17_isWhole N x0 z = some (r, z')) : W p l e rmX17_isWhole s m args below meth c H locs 0 0 Q (F0 m 0 ls []) := by
  unfold fX17_isWhole at h
  refine lv_iconst (v := (0 : Int32)) F.1 F.2.1 dX17_isWhole_0 (by decide) ?_
  refine lv_istore_n (lv' := [(1, .int (0 : Int32)), (0, .ref (B 17 x0))]) F.1 F.2.1 dX17_isWhole_1 rfl hl (by decide) rfl (fun ls hl => ?_)
  exact lX17_isWhole_2 hst F hA E  _ x0 (0 : Int32) hx0 hr (lv_sub hl [1, 0] rfl) h
end SX17_isWhole
set_option maxRecDepth 100000 in
theorem okX17_isWhole (l : Launch) (D : va_G) (cy : Nat → ClassId) (B : Nat → Nat → Nat) (ids : List (Nat × Nat)) (hst : zSt B ids) (N : Nat) (x0 : Nat) (hx0 : (17, x0) ∈ ids) {z : St} {r : Int32} {z' : St} (hW : zWf ids z) (h : fX17_isWhole N x0 z = some (r, z')) : zM l yX17_isWhole (zws yX17_isWhole cX17_isWhole 2 (some .boolean)) rmX17_isWhole D cy B ids [.ref (B 17 x0)] (some (.int r)) (r = 0 ∨ r = 1) z z' :=
  zM_of hst hW (by decide +kernel) (Nat.le_of_ble_eq_true rfl) (fun p e s m args below meth c A ls F hA hret hlocks hr hl => bX17_isWhole_0 hst F hA (zEnd_z F hret hlocks) x0 hx0 hr hl h)
abbrev rmX18_address : Room := { frames := 0, cells := 0, slots := 0, locals := 0 }
theorem hdX18_address : yX18_address.cls ≠ "java/lang/invoke/MethodHandle" ∧ yX18_address.cls ≠ "java/lang/invoke/VarHandle" ∧ (parseMethodDescriptor yX18_address.desc).map (fun d => d.parameters.length) = some 0 := by decide +kernel
section SX18_address
variable {p : Program} {l : Launch} {e : Env} {s : State} {m : MethodId} {args : Array Value} {below : List Frame} {meth : Method} {c : Code} {Q : State → Prop} {D : va_G} {cy : Nat → ClassId} {B : Nat → Nat → Nat} {ids : List (Nat × Nat)} {A : Nat → Prop}
def fX18_address (N : Nat)  (x0 : Nat) (z : St) : Option (Int32 × St) := zl (zgR z 18 2 x0) fun y1 => zd y1 fun a2 => some (((((167772160 : Int32) + ((zgI z 16 0 a2) <<< ((16 : Int32) &&& 31))) + (zgI z 18 3 x0)) + (1 : Int32)), z)
set_option maxHeartbeats 4000000 in
set_option maxRecDepth 100000 in
theorem bX18_address_0 (hst : zSt B ids) (F : zFx p m c cX18_address 1 s args RX18 D cy B ids A) (hA : ∀ q : Nat, s.heap.size ≤ q → A q) {r : Int32} {z' : St} (E : zEnd p l e rmX18_address s m args below meth c cX18_address D cy B ids A Q (some (.int r)) z' .ireturn True) {N : Nat}  (x0 : Nat) (hx0 : (18, x0) ∈ ids) {z : St} {H : Heap} {locs : List Loc} {ls : Array Slot} (hr : zRep D cy B ids A s.heap z H locs) (hl : lv_has ls 1 [(0, .ref (B 18 x0))]) (h : fX18_address N x0 z = some (r, z')) : W p l e rmX18_address s m args below meth c H locs 0 0 Q (F0 m 0 ls []) := by
  unfold fX18_address at h
  refine lv_ldc (v := (167772160)) F.1 F.2.1 F.2.2.2.1 (F.2.2.2.2.1 _ zq_2524) dX18_address_0 ?_
  refine lv_aload_n F.1 F.2.1 dX18_address_2 rfl (lv_at hl 0 rfl) ?_
  refine gf18_36 F hx0 hr dX18_address_3 (fun y1 ey1 => ?_)
  replace h := zl_sub ey1 h
  have hy1 := zal_g hr hx0 (j := 2) rfl ey1
  clear ey1
  replace h := zd_some h
  obtain ⟨a2, rfl, h⟩ := h
  refine gf18_40 F (hy1 _ rfl) hr dX18_address_6 ?_
  refine lv_bipush (v := (16 : Int32)) F.1 F.2.1 dX18_address_9 (by decide) ?_
  refine lv_ishl F.1 F.2.1 dX18_address_11 ?_
  refine lv_iadd F.1 F.2.1 dX18_address_12 ?_
  refine lv_aload_n F.1 F.2.1 dX18_address_13 rfl (lv_at hl 0 rfl) ?_
  refine gf18_45 F hx0 hr dX18_address_14 ?_
  refine lv_iadd F.1 F.2.1 dX18_address_17 ?_
  refine lv_iconst (v := (1 : Int32)) F.1 F.2.1 dX18_address_18 (by decide) ?_
  refine lv_iadd F.1 F.2.1 dX18_address_19 ?_
  obtain ⟨rfl, rfl⟩ := zret h
  exact E _ _ _ _ dX18_address_20 trivial hr
end SX18_address
set_option maxRecDepth 100000 in
theorem okX18_address (l : Launch) (D : va_G) (cy : Nat → ClassId) (B : Nat → Nat → Nat) (ids : List (Nat × Nat)) (hst : zSt B ids) (N : Nat) (x0 : Nat) (hx0 : (18, x0) ∈ ids) {z : St} {r : Int32} {z' : St} (hW : zWf ids z) (h : fX18_address N x0 z = some (r, z')) : zM l yX18_address (zws yX18_address cX18_address 1 (some .int)) rmX18_address D cy B ids [.ref (B 18 x0)] (some (.int r)) True z z' :=
  zM_of hst hW (by decide +kernel) (Nat.le_of_ble_eq_true rfl) (fun p e s m args below meth c A ls F hA hret hlocks hr hl => bX18_address_0 hst F hA (zEnd_i F hret hlocks) x0 hx0 hr hl h)
abbrev rmX18_askingOf : Room := { frames := 0, cells := 0, slots := 0, locals := 0 }
theorem hdX18_askingOf : yX18_askingOf.cls ≠ "java/lang/invoke/MethodHandle" ∧ yX18_askingOf.cls ≠ "java/lang/invoke/VarHandle" ∧ (parseMethodDescriptor yX18_askingOf.desc).map (fun d => d.parameters.length) = some 1 := by decide +kernel
section SX18_askingOf
variable {p : Program} {l : Launch} {e : Env} {s : State} {m : MethodId} {args : Array Value} {below : List Frame} {meth : Method} {c : Code} {Q : State → Prop} {D : va_G} {cy : Nat → ClassId} {B : Nat → Nat → Nat} {ids : List (Nat × Nat)} {A : Nat → Prop}
def fX18_askingOf_2b (N : Nat) (K2 : Nat → Int32 → Int32 → St → Option (Int32 × St)) (x0 : Nat) (x1 : Int32) (x2 : Int32) (z : St) : Option (Int32 × St) := if (zgI z 18 9 x0) ≤ x2 then (some ((-1 : Int32), z)) else (zk x2 8 <| if ¬ (zgA z 168 x0 (Int32.toNatClampNeg x2)) = x1 then (zl (x2 + 1) fun v4 => K2 x0 x1 v4 z) else (some (x2, z)))
def fX18_askingOf_2 (N : Nat)  : Nat → Nat → Int32 → Int32 → St → Option (Int32 × St)
  | 0 => fun _ _ _ _ => none
  | n + 1 => fX18_askingOf_2b N (fX18_askingOf_2 N  n)
set_option maxHeartbeats 4000000 in
set_option maxRecDepth 100000 in
theorem bX18_askingOf_2 (hst : zSt B ids) (F : zFx p m c cX18_askingOf 3 s args RX18 D cy B ids A) (hA : ∀ q : Nat, s.heap.size ≤ q → A q) {r : Int32} {z' : St} (E : zEnd p l e rmX18_askingOf s m args below meth c cX18_askingOf D cy B ids A Q (some (.int r)) z' .ireturn True) {N : Nat} {K2 : Nat → Int32 → Int32 → St → Option (Int32 × St)} (hK2 : ∀ (x0 : Nat) (x1 : Int32) (x2 : Int32) (hx0 : (18, x0) ∈ ids) {z : St} {H : Heap} {locs : List Loc} {ls : Array Slot} (hr : zRep D cy B ids A s.heap z H locs) (hl : lv_has ls 3 [(0, .ref (B 18 x0)), (1, .int x1), (2, .int x2)]), K2 x0 x1 x2 z = some (r, z') → W p l e rmX18_askingOf s m args below meth c H locs 0 0 Q (F0 m 2 ls [])) (x0 : Nat) (x1 : Int32) (x2 : Int32) (hx0 : (18, x0) ∈ ids) {z : St} {H : Heap} {locs : List Loc} {ls : Array Slot} (hr : zRep D cy B ids A s.heap z H locs) (hl : lv_has ls 3 [(0, .ref (B 18 x0)), (1, .int x1), (2, .int x2)]) (h : fX18_askingOf_2b N K2 x0 x1 x2 z = some (r, z')) : W p l e rmX18_askingOf s m args below meth c H locs 0 0 Q (F0 m 2 ls []) := by
  unfold fX18_askingOf_2b at h
  refine lv_iload_n F.1 F.2.1 dX18_askingOf_2 rfl (lv_at hl 2 rfl) ?_
  refine lv_aload_n F.1 F.2.1 dX18_askingOf_3 rfl (lv_at hl 0 rfl) ?_
  refine gf18_48 F hx0 hr dX18_askingOf_4 ?_
  refine lv_icmp_ge (tgt := 28) F.1 F.2.1 dX18_askingOf_7 (by decide) (fun c1 => ?_) (fun c1 => ?_)
  · replace h := zi_t c1 h
    refine lv_iconst (v := (-1 : Int32)) F.1 F.2.1 dX18_askingOf_28 (by decide) ?_
    obtain ⟨rfl, rfl⟩ := zret h
    exact E _ _ _ _ dX18_askingOf_29 trivial hr
  · replace h := zi_f c1 h
    refine lv_aload_n F.1 F.2.1 dX18_askingOf_10 rfl (lv_at hl 0 rfl) ?_
    refine gf18_23 F hx0 hr dX18_askingOf_11 ?_
    refine lv_iload_n F.1 F.2.1 dX18_askingOf_14 rfl (lv_at hl 2 rfl) ?_
    replace h := zk_some h
    obtain ⟨c2, h⟩ := h
    refine zr_iald (k := 168) (by decide) rfl (by decide) F (zal_a F hx0 (j := 7) rfl) hr dX18_askingOf_15 c2 ?_
    refine lv_iload_n F.1 F.2.1 dX18_askingOf_16 rfl (lv_at hl 1 rfl) ?_
    refine lv_icmp_ne (tgt := 22) F.1 F.2.1 dX18_askingOf_17 (by decide) (fun c3 => ?_) (fun c3 => ?_)
    · replace h := zi_t c3 h
      obtain ⟨v4, ev4⟩ : ∃ y : Int32, y = (x2 + 1) := ⟨_, rfl⟩
      replace h := zl_sub ev4 h
      refine lv_iinc (v := v4) (lv' := [(2, .int v4), (0, .ref (B 18 x0)), (1, .int x1)]) F.1 F.2.1 dX18_askingOf_22 hl (k := 2) rfl (by rw [ev4]; rfl) (by decide) rfl (fun ls hl => ?_)
      refine lv_goto (tgt := 2) F.1 F.2.1 dX18_askingOf_25 (by decide) ?_
      exact hK2 x0 x1 v4 hx0 hr (lv_sub hl [1, 2, 0] rfl) h
    · replace h := zi_f (fun q => q c3) h
      refine lv_iload_n F.1 F.2.1 dX18_askingOf_20 rfl (lv_at hl 2 rfl) ?_
      obtain ⟨rfl, rfl⟩ := zret h
      exact E _ _ _ _ dX18_askingOf_21 trivial hr
theorem lX18_askingOf_2 (hst : zSt B ids) (F : zFx p m c cX18_askingOf 3 s args RX18 D cy B ids A) (hA : ∀ q : Nat, s.heap.size ≤ q → A q) {r : Int32} {z' : St} (E : zEnd p l e rmX18_askingOf s m args below meth c cX18_askingOf D cy B ids A Q (some (.int r)) z' .ireturn True) {N : Nat}  : ∀ (n : Nat) (x0 : Nat) (x1 : Int32) (x2 : Int32) (hx0 : (18, x0) ∈ ids) {z : St} {H : Heap} {locs : List Loc} {ls : Array Slot} (hr : zRep D cy B ids A s.heap z H locs) (hl : lv_has ls 3 [(0, .ref (B 18 x0)), (1, .int x1), (2, .int x2)]), fX18_askingOf_2 N  n x0 x1 x2 z = some (r, z') → W p l e rmX18_askingOf s m args below meth c H locs 0 0 Q (F0 m 2 ls []) := by
  intro n
  induction n with
  | zero => intro x0 x1 x2 hx0 z H locs ls hr hl h; cases h
  | succ n ih => intro x0 x1 x2 hx0 z H locs ls hr hl h; exact bX18_askingOf_2 hst F hA E ih x0 x1 x2 hx0 hr hl h
def fX18_askingOf (N : Nat)  (x0 : Nat) (x1 : Int32) (z : St) : Option (Int32 × St) := fX18_askingOf_2 N N x0 x1 (0 : Int32) z
set_option maxHeartbeats 4000000 in
set_option maxRecDepth 100000 in
theorem bX18_askingOf_0 (hst : zSt B ids) (F : zFx p m c cX18_askingOf 3 s args RX18 D cy B ids A) (hA : ∀ q : Nat, s.heap.size ≤ q → A q) {r : Int32} {z' : St} (E : zEnd p l e rmX18_askingOf s m args below meth c cX18_askingOf D cy B ids A Q (some (.int r)) z' .ireturn True) {N : Nat}  (x0 : Nat) (x1 : Int32) (hx0 : (18, x0) ∈ ids) {z : St} {H : Heap} {locs : List Loc} {ls : Array Slot} (hr : zRep D cy B ids A s.heap z H locs) (hl : lv_has ls 3 [(0, .ref (B 18 x0)), (1, .int x1)]) (h : fX18_askingOf N x0 x1 z = some (r, z')) : W p l e rmX18_askingOf s m args below meth c H locs 0 0 Q (F0 m 0 ls []) := by
  unfold fX18_askingOf at h
  refine lv_iconst (v := (0 : Int32)) F.1 F.2.1 dX18_askingOf_0 (by decide) ?_
  refine lv_istore_n (lv' := [(2, .int (0 : Int32)), (0, .ref (B 18 x0)), (1, .int x1)]) F.1 F.2.1 dX18_askingOf_1 rfl hl (by decide) rfl (fun ls hl => ?_)
  exact lX18_askingOf_2 hst F hA E  _ x0 x1 (0 : Int32) hx0 hr (lv_sub hl [1, 2, 0] rfl) h
end SX18_askingOf
set_option maxRecDepth 100000 in
theorem okX18_askingOf (l : Launch) (D : va_G) (cy : Nat → ClassId) (B : Nat → Nat → Nat) (ids : List (Nat × Nat)) (hst : zSt B ids) (N : Nat) (x0 : Nat) (hx0 : (18, x0) ∈ ids) (x1 : Int32) {z : St} {r : Int32} {z' : St} (hW : zWf ids z) (h : fX18_askingOf N x0 x1 z = some (r, z')) : zM l yX18_askingOf (zws yX18_askingOf cX18_askingOf 3 (some .int)) rmX18_askingOf D cy B ids [.ref (B 18 x0), .int x1] (some (.int r)) True z z' :=
  zM_of hst hW (by decide +kernel) (Nat.le_of_ble_eq_true rfl) (fun p e s m args below meth c A ls F hA hret hlocks hr hl => bX18_askingOf_0 hst F hA (zEnd_i F hret hlocks) x0 x1 hx0 hr hl h)
abbrev rmX18_someWaitFor : Room := { frames := 0, cells := 0, slots := 0, locals := 0 }
theorem hdX18_someWaitFor : yX18_someWaitFor.cls ≠ "java/lang/invoke/MethodHandle" ∧ yX18_someWaitFor.cls ≠ "java/lang/invoke/VarHandle" ∧ (parseMethodDescriptor yX18_someWaitFor.desc).map (fun d => d.parameters.length) = some 1 := by decide +kernel
section SX18_someWaitFor
variable {p : Program} {l : Launch} {e : Env} {s : State} {m : MethodId} {args : Array Value} {below : List Frame} {meth : Method} {c : Code} {Q : State → Prop} {D : va_G} {cy : Nat → ClassId} {B : Nat → Nat → Nat} {ids : List (Nat × Nat)} {A : Nat → Prop}
def fX18_someWaitFor_2b (N : Nat) (K2 : Nat → Int32 → Int32 → St → Option (Int32 × St)) (x0 : Nat) (x1 : Int32) (x2 : Int32) (z : St) : Option (Int32 × St) := if (zgI z 18 12 x0) ≤ x2 then (some ((0 : Int32), z)) else (zk x2 17 <| if ¬ (zgA z 171 x0 (Int32.toNatClampNeg x2)) = x1 then (zl (x2 + 1) fun v4 => K2 x0 x1 v4 z) else (some ((1 : Int32), z)))
def fX18_someWaitFor_2 (N : Nat)  : Nat → Nat → Int32 → Int32 → St → Option (Int32 × St)
  | 0 => fun _ _ _ _ => none
  | n + 1 => fX18_someWaitFor_2b N (fX18_someWaitFor_2 N  n)
set_option maxHeartbeats 4000000 in
set_option maxRecDepth 100000 in
theorem bX18_someWaitFor_2 (hst : zSt B ids) (F : zFx p m c cX18_someWaitFor 3 s args RX18 D cy B ids A) (hA : ∀ q : Nat, s.heap.size ≤ q → A q) {r : Int32} {z' : St} (E : zEnd p l e rmX18_someWaitFor s m args below meth c cX18_someWaitFor D cy B ids A Q (some (.int r)) z' .ireturn (r = 0 ∨ r = 1)) {N : Nat} {K2 : Nat → Int32 → Int32 → St → Option (Int32 × St)} (hK2 : ∀ (x0 : Nat) (x1 : Int32) (x2 : Int32) (hx0 : (18, x0) ∈ ids) {z : St} {H : Heap} {locs : List Loc} {ls : Array Slot} (hr : zRep D cy B ids A s.heap z H locs) (hl : lv_has ls 3 [(0, .ref (B 18 x0)), (1, .int x1), (2, .int x2)]), K2 x0 x1 x2 z = some (r, z') → W p l e rmX18_someWaitFor s m args below meth c H locs 0 0 Q (F0 m 2 ls [])) (x0 : Nat) (x1 : Int32) (x2 : Int32) (hx0 : (18, x0) ∈ ids) {z : St} {H : Heap} {locs : List Loc} {ls : Array Slot} (hr : zRep D cy B ids A s.heap z H locs) (hl : lv_has ls 3 [(0, .ref (B 18 x0)), (1, .int x1), (2, .int x2)]) (h : fX18_someWaitFor_2b N K2 x0 x1 x2 z = some (r, z')) : W p l e rmX18_someWaitFor s m args below meth c H locs 0 0 Q (F0 m 2 ls []) := by
  unfold fX18_someWaitFor_2b at h
  refine lv_iload_n F.1 F.2.1 dX18_someWaitFor_2 rfl (lv_at hl 2 rfl) ?_
  refine lv_aload_n F.1 F.2.1 dX18_someWaitFor_3 rfl (lv_at hl 0 rfl) ?_
  refine gf18_51 F hx0 hr dX18_someWaitFor_4 ?_
  refine lv_icmp_ge (tgt := 28) F.1 F.2.1 dX18_someWaitFor_7 (by decide) (fun c1 => ?_) (fun c1 => ?_)
  · replace h := zi_t c1 h
    refine lv_iconst (v := (0 : Int32)) F.1 F.2.1 dX18_someWaitFor_28 (by decide) ?_
    obtain ⟨rfl, rfl⟩ := zret h
    exact E _ _ _ _ dX18_someWaitFor_29 (by decide) hr
  · replace h := zi_f c1 h
    refine lv_aload_n F.1 F.2.1 dX18_someWaitFor_10 rfl (lv_at hl 0 rfl) ?_
    refine gf18_32 F hx0 hr dX18_someWaitFor_11 ?_
    refine lv_iload_n F.1 F.2.1 dX18_someWaitFor_14 rfl (lv_at hl 2 rfl) ?_
    replace h := zk_some h
    obtain ⟨c2, h⟩ := h
    refine zr_iald (k := 171) (by decide) rfl (by decide) F (zal_a F hx0 (j := 11) rfl) hr dX18_someWaitFor_15 c2 ?_
    refine lv_iload_n F.1 F.2.1 dX18_someWaitFor_16 rfl (lv_at hl 1 rfl) ?_
    refine lv_icmp_ne (tgt := 22) F.1 F.2.1 dX18_someWaitFor_17 (by decide) (fun c3 => ?_) (fun c3 => ?_)
    · replace h := zi_t c3 h
      obtain ⟨v4, ev4⟩ : ∃ y : Int32, y = (x2 + 1) := ⟨_, rfl⟩
      replace h := zl_sub ev4 h
      refine lv_iinc (v := v4) (lv' := [(2, .int v4), (0, .ref (B 18 x0)), (1, .int x1)]) F.1 F.2.1 dX18_someWaitFor_22 hl (k := 2) rfl (by rw [ev4]; rfl) (by decide) rfl (fun ls hl => ?_)
      refine lv_goto (tgt := 2) F.1 F.2.1 dX18_someWaitFor_25 (by decide) ?_
      exact hK2 x0 x1 v4 hx0 hr (lv_sub hl [1, 2, 0] rfl) h
    · replace h := zi_f (fun q => q c3) h
      refine lv_iconst (v := (1 : Int32)) F.1 F.2.1 dX18_someWaitFor_20 (by decide) ?_
      obtain ⟨rfl, rfl⟩ := zret h
      exact E _ _ _ _ dX18_someWaitFor_21 (by decide) hr
theorem lX18_someWaitFor_2 (hst : zSt B ids) (F : zFx p m c cX18_someWaitFor 3 s args RX18 D cy B ids A) (hA : ∀ q : Nat, s.heap.size ≤ q → A q) {r : Int32} {z' : St} (E : zEnd p l e rmX18_someWaitFor s m args below meth c cX18_someWaitFor D cy B ids A Q (some (.int r)) z' .ireturn (r = 0 ∨ r = 1)) {N : Nat}  : ∀ (n : Nat) (x0 : Nat) (x1 : Int32) (x2 : Int32) (hx0 : (18, x0) ∈ ids) {z : St} {H : Heap} {locs : List Loc} {ls : Array Slot} (hr : zRep D cy B ids A s.heap z H locs) (hl : lv_has ls 3 [(0, .ref (B 18 x0)), (1, .int x1), (2, .int x2)]), fX18_someWaitFor_2 N  n x0 x1 x2 z = some (r, z') → W p l e rmX18_someWaitFor s m args below meth c H locs 0 0 Q (F0 m 2 ls []) := by
  intro n
  induction n with
  | zero => intro x0 x1 x2 hx0 z H locs ls hr hl h; cases h
  | succ n ih => intro x0 x1 x2 hx0 z H locs ls hr hl h; exact bX18_someWaitFor_2 hst F hA E ih x0 x1 x2 hx0 hr hl h
def fX18_someWaitFor (N : Nat)  (x0 : Nat) (x1 : Int32) (z : St) : Option (Int32 × St) := fX18_someWaitFor_2 N N x0 x1 (0 : Int32) z
set_option maxHeartbeats 4000000 in
set_option maxRecDepth 100000 in
theorem bX18_someWaitFor_0 (hst : zSt B ids) (F : zFx p m c cX18_someWaitFor 3 s args RX18 D cy B ids A) (hA : ∀ q : Nat, s.heap.size ≤ q → A q) {r : Int32} {z' : St} (E : zEnd p l e rmX18_someWaitFor s m args below meth c cX18_someWaitFor D cy B ids A Q (some (.int r)) z' .ireturn (r = 0 ∨ r = 1)) {N : Nat}  (x0 : Nat) (x1 : Int32) (hx0 : (18, x0) ∈ ids) {z : St} {H : Heap} {locs : List Loc} {ls : Array Slot} (hr : zRep D cy B ids A s.heap z H locs) (hl : lv_has ls 3 [(0, .ref (B 18 x0)), (1, .int x1)]) (h : fX18_someWaitFor N x0 x1 z = some (r, z')) : W p l e rmX18_someWaitFor s m args below meth c H locs 0 0 Q (F0 m 0 ls []) := by
  unfold fX18_someWaitFor at h
  refine lv_iconst (v := (0 : Int32)) F.1 F.2.1 dX18_someWaitFor_0 (by decide) ?_
  refine lv_istore_n (lv' := [(2, .int (0 : Int32)), (0, .ref (B 18 x0)), (1, .int x1)]) F.1 F.2.1 dX18_someWaitFor_1 rfl hl (by decide) rfl (fun ls hl => ?_)
  exact lX18_someWaitFor_2 hst F hA E  _ x0 x1 (0 : Int32) hx0 hr (lv_sub hl [1, 2, 0] rfl) h
end SX18_someWaitFor
set_option maxRecDepth 100000 in
theorem okX18_someWaitFor (l : Launch) (D : va_G) (cy : Nat → ClassId) (B : Nat → Nat → Nat) (ids : List (Nat × Nat)) (hst : zSt B ids) (N : Nat) (x0 : Nat) (hx0 : (18, x0) ∈ ids) (x1 : Int32) {z : St} {r : Int32} {z' : St} (hW : zWf ids z) (h : fX18_someWaitFor N x0 x1 z = some (r, z')) : zM l yX18_someWaitFor (zws yX18_someWaitFor cX18_someWaitFor 3 (some .boolean)) rmX18_someWaitFor D cy B ids [.ref (B 18 x0), .int x1] (some (.int r)) (r = 0 ∨ r = 1) z z' :=
  zM_of hst hW (by decide +kernel) (Nat.le_of_ble_eq_true rfl) (fun p e s m args below meth c A ls F hA hret hlocks hr hl => bX18_someWaitFor_0 hst F hA (zEnd_z F hret hlocks) x0 x1 hx0 hr hl h)
abbrev rmX18_endAsking : Room := { frames := 0, cells := 0, slots := 0, locals := 0 }
theorem hdX18_endAsking : yX18_endAsking.cls ≠ "java/lang/invoke/MethodHandle" ∧ yX18_endAsking.cls ≠ "java/lang/invoke/VarHandle" ∧ (parseMethodDescriptor yX18_endAsking.desc).map (fun d => d.parameters.length) = some 1 := by decide +kernel
section SX18_endAsking
variable {p : Program} {l : Launch} {e : Env} {s : State} {m : MethodId} {args : Array Value} {below : List Frame} {meth : Method} {c : Code} {Q : State → Prop} {D : va_G} {cy : Nat → ClassId} {B : Nat → Nat → Nat} {ids : List (Nat × Nat)} {A : Nat → Prop}
def fX18_endAsking_12b (N : Nat) (K12 : Nat → Int32 → St → Option (Int32 × St)) (x0 : Nat) (x2 : Int32) (z : St) : Option (Int32 × St) := if (zgI z 18 9 x0) ≤ x2 then (some (0, z)) else (zk (x2 + (1 : Int32)) 8 <| zk x2 8 <| zl (zsA z 168 x0 (Int32.toNatClampNeg x2) (zgA z 168 x0 (Int32.toNatClampNeg (x2 + (1 : Int32))))) fun z4 => zk (x2 + (1 : Int32)) 8 <| zk x2 8 <| zl (zsA z4 169 x0 (Int32.toNatClampNeg x2) (zgA z4 169 x0 (Int32.toNatClampNeg (x2 + (1 : Int32))))) fun z7 => zl (x2 + 1) fun v8 => K12 x0 v8 z7)
def fX18_endAsking_12 (N : Nat)  : Nat → Nat → Int32 → St → Option (Int32 × St)
  | 0 => fun _ _ _ => none
  | n + 1 => fX18_endAsking_12b N (fX18_endAsking_12 N  n)
set_option maxHeartbeats 4000000 in
set_option maxRecDepth 100000 in
theorem bX18_endAsking_12 (hst : zSt B ids) (F : zFx p m c cX18_endAsking 3 s args RX18 D cy B ids A) (hA : ∀ q : Nat, s.heap.size ≤ q → A q) {r : Int32} {z' : St} (E : zEnd p l e rmX18_endAsking s m args below meth c cX18_endAsking D cy B ids A Q none z' .return_ True) {N : Nat} {K12 : Nat → Int32 → St → Option (Int32 × St)} (hK12 : ∀ (x0 : Nat) (x2 : Int32) (hx0 : (18, x0) ∈ ids) {z : St} {H : Heap} {locs : List Loc} {ls : Array Slot} (hr : zRep D cy B ids A s.heap z H locs) (hl : lv_has ls 3 [(0, .ref (B 18 x0)), (2, .int x2)]), K12 x0 x2 z = some (r, z') → W p l e rmX18_endAsking s m args below meth c H locs 0 0 Q (F0 m 12 ls [])) (x0 : Nat) (x2 : Int32) (hx0 : (18, x0) ∈ ids) {z : St} {H : Heap} {locs : List Loc} {ls : Array Slot} (hr : zRep D cy B ids A s.heap z H locs) (hl : lv_has ls 3 [(0, .ref (B 18 x0)), (2, .int x2)]) (h : fX18_endAsking_12b N K12 x0 x2 z = some (r, z')) : W p l e rmX18_endAsking s m args below meth c H locs 0 0 Q (F0 m 12 ls []) := by
  unfold fX18_endAsking_12b at h
  refine lv_iload_n F.1 F.2.1 dX18_endAsking_12 rfl (lv_at hl 1 rfl) ?_
  refine lv_aload_n F.1 F.2.1 dX18_endAsking_13 rfl (lv_at hl 0 rfl) ?_
  refine gf18_48 F hx0 hr dX18_endAsking_14 ?_
  refine lv_icmp_ge (tgt := 54) F.1 F.2.1 dX18_endAsking_17 (by decide) (fun c1 => ?_) (fun c1 => ?_)
  · replace h := zi_t c1 h
    obtain ⟨rfl, rfl⟩ := zret h
    exact E _ _ _ _ dX18_endAsking_54 trivial hr
  · replace h := zi_f c1 h
    refine lv_aload_n F.1 F.2.1 dX18_endAsking_20 rfl (lv_at hl 0 rfl) ?_
    refine gf18_23 F hx0 hr dX18_endAsking_21 ?_
    refine lv_iload_n F.1 F.2.1 dX18_endAsking_24 rfl (lv_at hl 1 rfl) ?_
    refine lv_aload_n F.1 F.2.1 dX18_endAsking_25 rfl (lv_at hl 0 rfl) ?_
    refine gf18_23 F hx0 hr dX18_endAsking_26 ?_
    refine lv_iload_n F.1 F.2.1 dX18_endAsking_29 rfl (lv_at hl 1 rfl) ?_
    refine lv_iconst (v := (1 : Int32)) F.1 F.2.1 dX18_endAsking_30 (by decide) ?_
    refine lv_iadd F.1 F.2.1 dX18_endAsking_31 ?_
    replace h := zk_some h
    obtain ⟨c2, h⟩ := h
    refine zr_iald (k := 168) (by decide) rfl (by decide) F (zal_a F hx0 (j := 7) rfl) hr dX18_endAsking_32 c2 ?_
    replace h := zk_some h
    obtain ⟨c3, h⟩ := h
    refine zr_iast (k := 168) (by decide) rfl (by decide) F (zal_a F hx0 (j := 7) rfl) hr dX18_endAsking_33 c3 (fun H locs z4 ez4 hr => ?_)
    replace h := zl_sub ez4 h
    clear ez4
    refine lv_aload_n F.1 F.2.1 dX18_endAsking_34 rfl (lv_at hl 0 rfl) ?_
    refine gf18_26 F hx0 hr dX18_endAsking_35 ?_
    refine lv_iload_n F.1 F.2.1 dX18_endAsking_38 rfl (lv_at hl 1 rfl) ?_
    refine lv_aload_n F.1 F.2.1 dX18_endAsking_39 rfl (lv_at hl 0 rfl) ?_
    refine gf18_26 F hx0 hr dX18_endAsking_40 ?_
    refine lv_iload_n F.1 F.2.1 dX18_endAsking_43 rfl (lv_at hl 1 rfl) ?_
    refine lv_iconst (v := (1 : Int32)) F.1 F.2.1 dX18_endAsking_44 (by decide) ?_
    refine lv_iadd F.1 F.2.1 dX18_endAsking_45 ?_
    replace h := zk_some h
    obtain ⟨c5, h⟩ := h
    refine zr_iald (k := 169) (by decide) rfl (by decide) F (zal_a F hx0 (j := 8) rfl) hr dX18_endAsking_46 c5 ?_
    replace h := zk_some h
    obtain ⟨c6, h⟩ := h
    refine zr_iast (k := 169) (by decide) rfl (by decide) F (zal_a F hx0 (j := 8) rfl) hr dX18_endAsking_47 c6 (fun H locs z7 ez7 hr => ?_)
    replace h := zl_sub ez7 h
    clear ez7
    obtain ⟨v8, ev8⟩ : ∃ y : Int32, y = (x2 + 1) := ⟨_, rfl⟩
    replace h := zl_sub ev8 h
    refine lv_iinc (v := v8) (lv' := [(2, .int v8), (0, .ref (B 18 x0))]) F.1 F.2.1 dX18_endAsking_48 hl (k := 1) rfl (by rw [ev8]; rfl) (by decide) rfl (fun ls hl => ?_)
    refine lv_goto (tgt := 12) F.1 F.2.1 dX18_endAsking_51 (by decide) ?_
    exact hK12 x0 v8 hx0 hr (lv_sub hl [1, 0] rfl) h
theorem lX18_endAsking_12 (hst : zSt B ids) (F : zFx p m c cX18_endAsking 3 s args RX18 D cy B ids A) (hA : ∀ q : Nat, s.heap.size ≤ q → A q) {r : Int32} {z' : St} (E : zEnd p l e rmX18_endAsking s m args below meth c cX18_endAsking D cy B ids A Q none z' .return_ True) {N : Nat}  : ∀ (n : Nat) (x0 : Nat) (x2 : Int32) (hx0 : (18, x0) ∈ ids) {z : St} {H : Heap} {locs : List Loc} {ls : Array Slot} (hr : zRep D cy B ids A s.heap z H locs) (hl : lv_has ls 3 [(0, .ref (B 18 x0)), (2, .int x2)]), fX18_endAsking_12 N  n x0 x2 z = some (r, z') → W p l e rmX18_endAsking s m args below meth c H locs 0 0 Q (F0 m 12 ls []) := by
  intro n
  induction n with
  | zero => intro x0 x2 hx0 z H locs ls hr hl h; cases h
  | succ n ih => intro x0 x2 hx0 z H locs ls hr hl h; exact bX18_endAsking_12 hst F hA E ih x0 x2 hx0 hr hl h
def fX18_endAsking (N : Nat)  (x0 : Nat) (x1 : Int32) (z : St) : Option (Int32 × St) := zl (zsI z 18 9 x0 ((zgI z 18 9 x0) - (1 : Int32))) fun z1 => fX18_endAsking_12 N N x0 x1 z1
set_option maxHeartbeats 4000000 in
set_option maxRecDepth 100000 in
theorem bX18_endAsking_0 (hst : zSt B ids) (F : zFx p m c cX18_endAsking 3 s args RX18 D cy B ids A) (hA : ∀ q : Nat, s.heap.size ≤ q → A q) {r : Int32} {z' : St} (E : zEnd p l e rmX18_endAsking s m args below meth c cX18_endAsking D cy B ids A Q none z' .return_ True) {N : Nat}  (x0 : Nat) (x1 : Int32) (hx0 : (18, x0) ∈ ids) {z : St} {H : Heap} {locs : List Loc} {ls : Array Slot} (hr : zRep D cy B ids A s.heap z H locs) (hl : lv_has ls 3 [(0, .ref (B 18 x0)), (1, .int x1)]) (h : fX18_endAsking N x0 x1 z = some (r, z')) : W p l e rmX18_endAsking s m args below meth c H locs 0 0 Q (F0 m 0 ls []) := by
  unfold fX18_endAsking at h
  refine lv_aload_n F.1 F.2.1 dX18_endAsking_0 rfl (lv_at hl 0 rfl) ?_
  refine lv_dup F.1 F.2.1 dX18_endAsking_1 rfl ?_
  refine gf18_48 F hx0 hr dX18_endAsking_2 ?_
  refine lv_iconst (v := (1 : Int32)) F.1 F.2.1 dX18_endAsking_5 (by decide) ?_
  refine lv_isub F.1 F.2.1 dX18_endAsking_6 ?_
  refine pf18_48 F hx0 hr dX18_endAsking_7 ((zgI z 18 9 x0) - (1 : Int32)) (fun H locs z1 ez1 hr => ?_)
  replace h := zl_sub ez1 h
  clear ez1
  refine lv_iload_n F.1 F.2.1 dX18_endAsking_10 rfl (lv_at hl 1 rfl) ?_
  refine lv_istore_n (lv' := [(2, .int x1), (0, .ref (B 18 x0)), (1, .int x1)]) F.1 F.2.1 dX18_endAsking_11 rfl hl (by decide) rfl (fun ls hl => ?_)
  exact lX18_endAsking_12 hst F hA E  _ x0 x1 hx0 hr (lv_sub hl [1, 0] rfl) h
end SX18_endAsking
set_option maxRecDepth 100000 in
theorem okX18_endAsking (l : Launch) (D : va_G) (cy : Nat → ClassId) (B : Nat → Nat → Nat) (ids : List (Nat × Nat)) (hst : zSt B ids) (N : Nat) (x0 : Nat) (hx0 : (18, x0) ∈ ids) (x1 : Int32) {z : St} {r : Int32} {z' : St} (hW : zWf ids z) (h : fX18_endAsking N x0 x1 z = some (r, z')) : zM l yX18_endAsking (zws yX18_endAsking cX18_endAsking 3 none) rmX18_endAsking D cy B ids [.ref (B 18 x0), .int x1] none True z z' :=
  zM_of hst hW (by decide +kernel) (Nat.le_of_ble_eq_true rfl) (fun p e s m args below meth c A ls F hA hret hlocks hr hl => bX18_endAsking_0 hst F hA (zEnd_v F hret hlocks) x0 x1 hx0 hr hl h)
abbrev rmX18_takeWaiting : Room := { frames := 0, cells := 0, slots := 0, locals := 0 }
theorem hdX18_takeWaiting : yX18_takeWaiting.cls ≠ "java/lang/invoke/MethodHandle" ∧ yX18_takeWaiting.cls ≠ "java/lang/invoke/VarHandle" ∧ (parseMethodDescriptor yX18_takeWaiting.desc).map (fun d => d.parameters.length) = some 1 := by decide +kernel
section SX18_takeWaiting
variable {p : Program} {l : Launch} {e : Env} {s : State} {m : MethodId} {args : Array Value} {below : List Frame} {meth : Method} {c : Code} {Q : State → Prop} {D : va_G} {cy : Nat → ClassId} {B : Nat → Nat → Nat} {ids : List (Nat × Nat)} {A : Nat → Prop}
def fX18_takeWaiting_19b (N : Nat) (K19 : Nat → Int32 → Int32 → St → Option (Int32 × St)) (x0 : Nat) (x2 : Int32) (x3 : Int32) (z : St) : Option (Int32 × St) := if (zgI z 18 12 x0) ≤ x3 then (some (x2, z)) else (zk (x3 + (1 : Int32)) 17 <| zk x3 17 <| zl (zsA z 170 x0 (Int32.toNatClampNeg x3) (zgA z 170 x0 (Int32.toNatClampNeg (x3 + (1 : Int32))))) fun z4 => zk (x3 + (1 : Int32)) 17 <| zk x3 17 <| zl (zsA z4 171 x0 (Int32.toNatClampNeg x3) (zgA z4 171 x0 (Int32.toNatClampNeg (x3 + (1 : Int32))))) fun z7 => zl (x3 + 1) fun v8 => K19 x0 x2 v8 z7)
def fX18_takeWaiting_19 (N : Nat)  : Nat → Nat → Int32 → Int32 → St → Option (Int32 × St)
  | 0 => fun _ _ _ _ => none
  | n + 1 => fX18_takeWaiting_19b N (fX18_takeWaiting_19 N  n)
set_option maxHeartbeats 4000000 in
set_option maxRecDepth 100000 in
theorem bX18_takeWaiting_19 (hst : zSt B ids) (F : zFx p m c cX18_takeWaiting 4 s args RX18 D cy B ids A) (hA : ∀ q : Nat, s.heap.size ≤ q → A q) {r : Int32} {z' : St} (E : zEnd p l e rmX18_takeWaiting s m args below meth c cX18_takeWaiting D cy B ids A Q (some (.int r)) z' .ireturn True) {N : Nat} {K19 : Nat → Int32 → Int32 → St → Option (Int32 × St)} (hK19 : ∀ (x0 : Nat) (x2 : Int32) (x3 : Int32) (hx0 : (18, x0) ∈ ids) {z : St} {H : Heap} {locs : List Loc} {ls : Array Slot} (hr : zRep D cy B ids A s.heap z H locs) (hl : lv_has ls 4 [(0, .ref (B 18 x0)), (2, .int x2), (3, .int x3)]), K19 x0 x2 x3 z = some (r, z') → W p l e rmX18_takeWaiting s m args below meth c H locs 0 0 Q (F0 m 19 ls [])) (x0 : Nat) (x2 : Int32) (x3 : Int32) (hx0 : (18, x0) ∈ ids) {z : St} {H : Heap} {locs : List Loc} {ls : Array Slot} (hr : zRep D cy B ids A s.heap z H locs) (hl : lv_has ls 4 [(0, .ref (B 18 x0)), (2, .int x2), (3, .int x3)]) (h : fX18_takeWaiting_19b N K19 x0 x2 x3 z = some (r, z')) : W p l e rmX18_takeWaiting s m args below meth c H locs 0 0 Q (F0 m 19 ls []) := by
  unfold fX18_takeWaiting_19b at h
  refine lv_iload_n F.1 F.2.1 dX18_takeWaiting_19 rfl (lv_at hl 2 rfl) ?_
  refine lv_aload_n F.1 F.2.1 dX18_takeWaiting_20 rfl (lv_at hl 0 rfl) ?_
  refine gf18_51 F hx0 hr dX18_takeWaiting_21 ?_
  refine lv_icmp_ge (tgt := 61) F.1 F.2.1 dX18_takeWaiting_24 (by decide) (fun c1 => ?_) (fun c1 => ?_)
  · replace h := zi_t c1 h
    refine lv_iload_n F.1 F.2.1 dX18_takeWaiting_61 rfl (lv_at hl 1 rfl) ?_
    obtain ⟨rfl, rfl⟩ := zret h
    exact E _ _ _ _ dX18_takeWaiting_62 trivial hr
  · replace h := zi_f c1 h
    refine lv_aload_n F.1 F.2.1 dX18_takeWaiting_27 rfl (lv_at hl 0 rfl) ?_
    refine gf18_29 F hx0 hr dX18_takeWaiting_28 ?_
    refine lv_iload_n F.1 F.2.1 dX18_takeWaiting_31 rfl (lv_at hl 2 rfl) ?_
    refine lv_aload_n F.1 F.2.1 dX18_takeWaiting_32 rfl (lv_at hl 0 rfl) ?_
    refine gf18_29 F hx0 hr dX18_takeWaiting_33 ?_
    refine lv_iload_n F.1 F.2.1 dX18_takeWaiting_36 rfl (lv_at hl 2 rfl) ?_
    refine lv_iconst (v := (1 : Int32)) F.1 F.2.1 dX18_takeWaiting_37 (by decide) ?_
    refine lv_iadd F.1 F.2.1 dX18_takeWaiting_38 ?_
    replace h := zk_some h
    obtain ⟨c2, h⟩ := h
    refine zr_iald (k := 170) (by decide) rfl (by decide) F (zal_a F hx0 (j := 10) rfl) hr dX18_takeWaiting_39 c2 ?_
    replace h := zk_some h
    obtain ⟨c3, h⟩ := h
    refine zr_iast (k := 170) (by decide) rfl (by decide) F (zal_a F hx0 (j := 10) rfl) hr dX18_takeWaiting_40 c3 (fun H locs z4 ez4 hr => ?_)
    replace h := zl_sub ez4 h
    clear ez4
    refine lv_aload_n F.1 F.2.1 dX18_takeWaiting_41 rfl (lv_at hl 0 rfl) ?_
    refine gf18_32 F hx0 hr dX18_takeWaiting_42 ?_
    refine lv_iload_n F.1 F.2.1 dX18_takeWaiting_45 rfl (lv_at hl 2 rfl) ?_
    refine lv_aload_n F.1 F.2.1 dX18_takeWaiting_46 rfl (lv_at hl 0 rfl) ?_
    refine gf18_32 F hx0 hr dX18_takeWaiting_47 ?_
    refine lv_iload_n F.1 F.2.1 dX18_takeWaiting_50 rfl (lv_at hl 2 rfl) ?_
    refine lv_iconst (v := (1 : Int32)) F.1 F.2.1 dX18_takeWaiting_51 (by decide) ?_
    refine lv_iadd F.1 F.2.1 dX18_takeWaiting_52 ?_
    replace h := zk_some h
    obtain ⟨c5, h⟩ := h
    refine zr_iald (k := 171) (by decide) rfl (by decide) F (zal_a F hx0 (j := 11) rfl) hr dX18_takeWaiting_53 c5 ?_
    replace h := zk_some h
    obtain ⟨c6, h⟩ := h
    refine zr_iast (k := 171) (by decide) rfl (by decide) F (zal_a F hx0 (j := 11) rfl) hr dX18_takeWaiting_54 c6 (fun H locs z7 ez7 hr => ?_)
    replace h := zl_sub ez7 h
    clear ez7
    obtain ⟨v8, ev8⟩ : ∃ y : Int32, y = (x3 + 1) := ⟨_, rfl⟩
    replace h := zl_sub ev8 h
    refine lv_iinc (v := v8) (lv' := [(3, .int v8), (0, .ref (B 18 x0)), (2, .int x2)]) F.1 F.2.1 dX18_takeWaiting_55 hl (k := 2) rfl (by rw [ev8]; rfl) (by decide) rfl (fun ls hl => ?_)
    refine lv_goto (tgt := 19) F.1 F.2.1 dX18_takeWaiting_58 (by decide) ?_
    exact hK19 x0 x2 v8 hx0 hr (lv_sub hl [1, 2, 0] rfl) h
theorem lX18_takeWaiting_19 (hst : zSt B ids) (F : zFx p m c cX18_takeWaiting 4 s args RX18 D cy B ids A) (hA : ∀ q : Nat, s.heap.size ≤ q → A q) {r : Int32} {z' : St} (E : zEnd p l e rmX18_takeWaiting s m args below meth c cX18_takeWaiting D cy B ids A Q (some (.int r)) z' .ireturn True) {N : Nat}  : ∀ (n : Nat) (x0 : Nat) (x2 : Int32) (x3 : Int32) (hx0 : (18, x0) ∈ ids) {z : St} {H : Heap} {locs : List Loc} {ls : Array Slot} (hr : zRep D cy B ids A s.heap z H locs) (hl : lv_has ls 4 [(0, .ref (B 18 x0)), (2, .int x2), (3, .int x3)]), fX18_takeWaiting_19 N  n x0 x2 x3 z = some (r, z') → W p l e rmX18_takeWaiting s m args below meth c H locs 0 0 Q (F0 m 19 ls []) := by
  intro n
  induction n with
  | zero => intro x0 x2 x3 hx0 z H locs ls hr hl h; cases h
  | succ n ih => intro x0 x2 x3 hx0 z H locs ls hr hl h; exact bX18_takeWaiting_19 hst F hA E ih x0 x2 x3 hx0 hr hl h
def fX18_takeWaiting (N : Nat)  (x0 : Nat) (x1 : Int32) (z : St) : Option (Int32 × St) := zk x1 17 <| zl (zgA z 170 x0 (Int32.toNatClampNeg x1)) fun v2 => zl (zsI z 18 12 x0 ((zgI z 18 12 x0) - (1 : Int32))) fun z3 => fX18_takeWaiting_19 N N x0 v2 x1 z3
set_option maxHeartbeats 4000000 in
set_option maxRecDepth 100000 in
theorem bX18_takeWaiting_0 (hst : zSt B ids) (F : zFx p m c cX18_takeWaiting 4 s args RX18 D cy B ids A) (hA : ∀ q : Nat, s.heap.size ≤ q → A q) {r : Int32} {z' : St} (E : zEnd p l e rmX18_takeWaiting s m args below meth c cX18_takeWaiting D cy B ids A Q (some (.int r)) z' .ireturn True) {N : Nat}  (x0 : Nat) (x1 : Int32) (hx0 : (18, x0) ∈ ids) {z : St} {H : Heap} {locs : List Loc} {ls : Array Slot} (hr : zRep D cy B ids A s.heap z H locs) (hl : lv_has ls 4 [(0, .ref (B 18 x0)), (1, .int x1)]) (h : fX18_takeWaiting N x0 x1 z = some (r, z')) : W p l e rmX18_takeWaiting s m args below meth c H locs 0 0 Q (F0 m 0 ls []) := by
  unfold fX18_takeWaiting at h
  refine lv_aload_n F.1 F.2.1 dX18_takeWaiting_0 rfl (lv_at hl 0 rfl) ?_
  refine gf18_29 F hx0 hr dX18_takeWaiting_1 ?_
  refine lv_iload_n F.1 F.2.1 dX18_takeWaiting_4 rfl (lv_at hl 1 rfl) ?_
  replace h := zk_some h
  obtain ⟨c1, h⟩ := h
  refine zr_iald (k := 170) (by decide) rfl (by decide) F (zal_a F hx0 (j := 10) rfl) hr dX18_takeWaiting_5 c1 ?_
  refine lv_topi (fun v2 ev2 => ?_)
  replace h := zl_sub ev2 h
  refine lv_istore_n (lv' := [(2, .int v2), (0, .ref (B 18 x0)), (1, .int x1)]) F.1 F.2.1 dX18_takeWaiting_6 rfl hl (by decide) rfl (fun ls hl => ?_)
  refine lv_aload_n F.1 F.2.1 dX18_takeWaiting_7 rfl (lv_at hl 1 rfl) ?_
  refine lv_dup F.1 F.2.1 dX18_takeWaiting_8 rfl ?_
  refine gf18_51 F hx0 hr dX18_takeWaiting_9 ?_
  refine lv_iconst (v := (1 : Int32)) F.1 F.2.1 dX18_takeWaiting_12 (by decide) ?_
  refine lv_isub F.1 F.2.1 dX18_takeWaiting_13 ?_
  refine pf18_51 F hx0 hr dX18_takeWaiting_14 ((zgI z 18 12 x0) - (1 : Int32)) (fun H locs z3 ez3 hr => ?_)
  replace h := zl_sub ez3 h
  clear ez3
  refine lv_iload_n F.1 F.2.1 dX18_takeWaiting_17 rfl (lv_at hl 2 rfl) ?_
  refine lv_istore_n (lv' := [(3, .int x1), (2, .int v2), (0, .ref (B 18 x0)), (1, .int x1)]) F.1 F.2.1 dX18_takeWaiting_18 rfl hl (by decide) rfl (fun ls hl => ?_)
  exact lX18_takeWaiting_19 hst F hA E  _ x0 v2 x1 hx0 hr (lv_sub hl [2, 1, 0] rfl) h
end SX18_takeWaiting
set_option maxRecDepth 100000 in
theorem okX18_takeWaiting (l : Launch) (D : va_G) (cy : Nat → ClassId) (B : Nat → Nat → Nat) (ids : List (Nat × Nat)) (hst : zSt B ids) (N : Nat) (x0 : Nat) (hx0 : (18, x0) ∈ ids) (x1 : Int32) {z : St} {r : Int32} {z' : St} (hW : zWf ids z) (h : fX18_takeWaiting N x0 x1 z = some (r, z')) : zM l yX18_takeWaiting (zws yX18_takeWaiting cX18_takeWaiting 4 (some .int)) rmX18_takeWaiting D cy B ids [.ref (B 18 x0), .int x1] (some (.int r)) True z z' :=
  zM_of hst hW (by decide +kernel) (Nat.le_of_ble_eq_true rfl) (fun p e s m args below meth c A ls F hA hret hlocks hr hl => bX18_takeWaiting_0 hst F hA (zEnd_i F hret hlocks) x0 x1 hx0 hr hl h)
abbrev rmX19_of : Room := { frames := 0, cells := 0, slots := 0, locals := 0 }
theorem hdX19_of : yX19_of.cls ≠ "java/lang/invoke/MethodHandle" ∧ yX19_of.cls ≠ "java/lang/invoke/VarHandle" ∧ (parseMethodDescriptor yX19_of.desc).map (fun d => d.parameters.length) = some 2 := by decide +kernel
section SX19_of
variable {p : Program} {l : Launch} {e : Env} {s : State} {m : MethodId} {args : Array Value} {below : List Frame} {meth : Method} {c : Code} {Q : State → Prop} {D : va_G} {cy : Nat → ClassId} {B : Nat → Nat → Nat} {ids : List (Nat × Nat)} {A : Nat → Prop}
def fX19_of (N : Nat)  (x0 : Nat) (x1 : Int32) (x2 : Int32) (z : St) : Option (Int32 × St) := zk (((18 : Int32) * x1) + x2) 43200 <| some ((zgA z 172 x0 (Int32.toNatClampNeg (((18 : Int32) * x1) + x2))), z)
set_option maxHeartbeats 4000000 in
set_option maxRecDepth 100000 in
theorem bX19_of_0 (hst : zSt B ids) (F : zFx p m c cX19_of 3 s args RX19 D cy B ids A) (hA : ∀ q : Nat, s.heap.size ≤ q → A q) {r : Int32} {z' : St} (E : zEnd p l e rmX19_of s m args below meth c cX19_of D cy B ids A Q (some (.int r)) z' .ireturn True) {N : Nat}  (x0 : Nat) (x1 : Int32) (x2 : Int32) (hx0 : (19, x0) ∈ ids) {z : St} {H : Heap} {locs : List Loc} {ls : Array Slot} (hr : zRep D cy B ids A s.heap z H locs) (hl : lv_has ls 3 [(0, .ref (B 19 x0)), (1, .int x1), (2, .int x2)]) (h : fX19_of N x0 x1 x2 z = some (r, z')) : W p l e rmX19_of s m args below meth c H locs 0 0 Q (F0 m 0 ls []) := by
  unfold fX19_of at h
  refine lv_aload_n F.1 F.2.1 dX19_of_0 rfl (lv_at hl 0 rfl) ?_
  refine gf19_1 F hx0 hr dX19_of_1 ?_
  refine lv_bipush (v := (18 : Int32)) F.1 F.2.1 dX19_of_4 (by decide) ?_
  refine lv_iload_n F.1 F.2.1 dX19_of_6 rfl (lv_at hl 1 rfl) ?_
  refine lv_imul F.1 F.2.1 dX19_of_7 ?_
  refine lv_iload_n F.1 F.2.1 dX19_of_8 rfl (lv_at hl 2 rfl) ?_
  refine lv_iadd F.1 F.2.1 dX19_of_9 ?_
  replace h := zk_some h
  obtain ⟨c1, h⟩ := h
  refine zr_iald (k := 172) (by decide) rfl (by decide) F (zal_a F hx0 (j := 0) rfl) hr dX19_of_10 c1 ?_
  obtain ⟨rfl, rfl⟩ := zret h
  exact E _ _ _ _ dX19_of_11 trivial hr
end SX19_of
set_option maxRecDepth 100000 in
theorem okX19_of (l : Launch) (D : va_G) (cy : Nat → ClassId) (B : Nat → Nat → Nat) (ids : List (Nat × Nat)) (hst : zSt B ids) (N : Nat) (x0 : Nat) (hx0 : (19, x0) ∈ ids) (x1 : Int32) (x2 : Int32) {z : St} {r : Int32} {z' : St} (hW : zWf ids z) (h : fX19_of N x0 x1 x2 z = some (r, z')) : zM l yX19_of (zws yX19_of cX19_of 3 (some .int)) rmX19_of D cy B ids [.ref (B 19 x0), .int x1, .int x2] (some (.int r)) True z z' :=
  zM_of hst hW (by decide +kernel) (Nat.le_of_ble_eq_true rfl) (fun p e s m args below meth c A ls F hA hret hlocks hr hl => bX19_of_0 hst F hA (zEnd_i F hret hlocks) x0 x1 x2 hx0 hr hl h)
abbrev rmX19_set : Room := { frames := 0, cells := 0, slots := 0, locals := 0 }
theorem hdX19_set : yX19_set.cls ≠ "java/lang/invoke/MethodHandle" ∧ yX19_set.cls ≠ "java/lang/invoke/VarHandle" ∧ (parseMethodDescriptor yX19_set.desc).map (fun d => d.parameters.length) = some 3 := by decide +kernel
section SX19_set
variable {p : Program} {l : Launch} {e : Env} {s : State} {m : MethodId} {args : Array Value} {below : List Frame} {meth : Method} {c : Code} {Q : State → Prop} {D : va_G} {cy : Nat → ClassId} {B : Nat → Nat → Nat} {ids : List (Nat × Nat)} {A : Nat → Prop}
def fX19_set (N : Nat)  (x0 : Nat) (x1 : Int32) (x2 : Int32) (x3 : Int32) (z : St) : Option (Int32 × St) := zk (((18 : Int32) * x1) + x2) 43200 <| zl (zsA z 172 x0 (Int32.toNatClampNeg (((18 : Int32) * x1) + x2)) x3) fun z2 => some (0, z2)
set_option maxHeartbeats 4000000 in
set_option maxRecDepth 100000 in
theorem bX19_set_0 (hst : zSt B ids) (F : zFx p m c cX19_set 4 s args RX19 D cy B ids A) (hA : ∀ q : Nat, s.heap.size ≤ q → A q) {r : Int32} {z' : St} (E : zEnd p l e rmX19_set s m args below meth c cX19_set D cy B ids A Q none z' .return_ True) {N : Nat}  (x0 : Nat) (x1 : Int32) (x2 : Int32) (x3 : Int32) (hx0 : (19, x0) ∈ ids) {z : St} {H : Heap} {locs : List Loc} {ls : Array Slot} (hr : zRep D cy B ids A s.heap z H locs) (hl : lv_has ls 4 [(0, .ref (B 19 x0)), (1, .int x1), (2, .int x2), (3, .int x3)]) (h : fX19_set N x0 x1 x2 x3 z = some (r, z')) : W p l e rmX19_set s m args below meth c H locs 0 0 Q (F0 m 0 ls []) := by
  unfold fX19_set at h
  refine lv_aload_n F.1 F.2.1 dX19_set_0 rfl (lv_at hl 0 rfl) ?_
  refine gf19_1 F hx0 hr dX19_set_1 ?_
  refine lv_bipush (v := (18 : Int32)) F.1 F.2.1 dX19_set_4 (by decide) ?_
  refine lv_iload_n F.1 F.2.1 dX19_set_6 rfl (lv_at hl 1 rfl) ?_
  refine lv_imul F.1 F.2.1 dX19_set_7 ?_
  refine lv_iload_n F.1 F.2.1 dX19_set_8 rfl (lv_at hl 2 rfl) ?_
  refine lv_iadd F.1 F.2.1 dX19_set_9 ?_
  refine lv_iload_n F.1 F.2.1 dX19_set_10 rfl (lv_at hl 3 rfl) ?_
  replace h := zk_some h
  obtain ⟨c1, h⟩ := h
  refine zr_iast (k := 172) (by decide) rfl (by decide) F (zal_a F hx0 (j := 0) rfl) hr dX19_set_11 c1 (fun H locs z2 ez2 hr => ?_)
  replace h := zl_sub ez2 h
  clear ez2
  obtain ⟨rfl, rfl⟩ := zret h
  exact E _ _ _ _ dX19_set_12 trivial hr
end SX19_set
set_option maxRecDepth 100000 in
theorem okX19_set (l : Launch) (D : va_G) (cy : Nat → ClassId) (B : Nat → Nat → Nat) (ids : List (Nat × Nat)) (hst : zSt B ids) (N : Nat) (x0 : Nat) (hx0 : (19, x0) ∈ ids) (x1 : Int32) (x2 : Int32) (x3 : Int32) {z : St} {r : Int32} {z' : St} (hW : zWf ids z) (h : fX19_set N x0 x1 x2 x3 z = some (r, z')) : zM l yX19_set (zws yX19_set cX19_set 4 none) rmX19_set D cy B ids [.ref (B 19 x0), .int x1, .int x2, .int x3] none True z z' :=
  zM_of hst hW (by decide +kernel) (Nat.le_of_ble_eq_true rfl) (fun p e s m args below meth c A ls F hA hret hlocks hr hl => bX19_set_0 hst F hA (zEnd_v F hret hlocks) x0 x1 x2 x3 hx0 hr hl h)
abbrev rmX19_newDatagram : Room := { frames := 1, cells := 0, slots := 0, locals := 23 }
theorem hdX19_newDatagram : yX19_newDatagram.cls ≠ "java/lang/invoke/MethodHandle" ∧ yX19_newDatagram.cls ≠ "java/lang/invoke/VarHandle" ∧ (parseMethodDescriptor yX19_newDatagram.desc).map (fun d => d.parameters.length) = some 0 := by decide +kernel
theorem hroX19_newDatagram_X19_set : rmX19_set.frames + 1 ≤ rmX19_newDatagram.frames ∧ 8 + (4 + 11) + rmX19_set.locals ≤ rmX19_newDatagram.locals := by decide
section SX19_newDatagram
variable {p : Program} {l : Launch} {e : Env} {s : State} {m : MethodId} {args : Array Value} {below : List Frame} {meth : Method} {c : Code} {Q : State → Prop} {D : va_G} {cy : Nat → ClassId} {B : Nat → Nat → Nat} {ids : List (Nat × Nat)} {A : Nat → Prop}
def fX19_newDatagram_22b (N : Nat) (K22 : Nat → Int32 → Int32 → St → Option (Int32 × St)) (x0 : Nat) (x1 : Int32) (x2 : Int32) (z : St) : Option (Int32 × St) := if (18 : Int32) ≤ x2 then (zc (fX19_set N x0 x1 (10 : Int32) (-1 : Int32) z) fun _ z3 => zc (fX19_set N x0 x1 (11 : Int32) (-1 : Int32) z3) fun _ z7 => some (x1, z7)) else (zk (((18 : Int32) * x1) + x2) 43200 <| zl (zsA z 172 x0 (Int32.toNatClampNeg (((18 : Int32) * x1) + x2)) (0 : Int32)) fun z11 => zl (x2 + 1) fun v12 => K22 x0 x1 v12 z11)
def fX19_newDatagram_22 (N : Nat)  : Nat → Nat → Int32 → Int32 → St → Option (Int32 × St)
  | 0 => fun _ _ _ _ => none
  | n + 1 => fX19_newDatagram_22b N (fX19_newDatagram_22 N  n)
set_option maxHeartbeats 4000000 in
set_option maxRecDepth 100000 in
theorem bX19_newDatagram_22 (hst : zSt B ids) (F : zFx p m c cX19_newDatagram 3 s args RX19 D cy B ids A) (hA : ∀ q : Nat, s.heap.size ≤ q → A q) {r : Int32} {z' : St} (E : zEnd p l e rmX19_newDatagram s m args below meth c cX19_newDatagram D cy B ids A Q (some (.int r)) z' .ireturn True) {N : Nat} {K22 : Nat → Int32 → Int32 → St → Option (Int32 × St)} (hK22 : ∀ (x0 : Nat) (x1 : Int32) (x2 : Int32) (hx0 : (19, x0) ∈ ids) {z : St} {H : Heap} {locs : List Loc} {ls : Array Slot} (hr : zRep D cy B ids A s.heap z H locs) (hl : lv_has ls 3 [(0, .ref (B 19 x0)), (1, .int x1), (2, .int x2)]), K22 x0 x1 x2 z = some (r, z') → W p l e rmX19_newDatagram s m args below meth c H locs 0 0 Q (F0 m 22 ls [])) (x0 : Nat) (x1 : Int32) (x2 : Int32) (hx0 : (19, x0) ∈ ids) {z : St} {H : Heap} {locs : List Loc} {ls : Array Slot} (hr : zRep D cy B ids A s.heap z H locs) (hl : lv_has ls 3 [(0, .ref (B 19 x0)), (1, .int x1), (2, .int x2)]) (h : fX19_newDatagram_22b N K22 x0 x1 x2 z = some (r, z')) : W p l e rmX19_newDatagram s m args below meth c H locs 0 0 Q (F0 m 22 ls []) := by
  unfold fX19_newDatagram_22b at h
  refine lv_iload_n F.1 F.2.1 dX19_newDatagram_22 rfl (lv_at hl 2 rfl) ?_
  refine lv_bipush (v := (18 : Int32)) F.1 F.2.1 dX19_newDatagram_23 (by decide) ?_
  refine lv_icmp_ge (tgt := 46) F.1 F.2.1 dX19_newDatagram_25 (by decide) (fun c1 => ?_) (fun c1 => ?_)
  · replace h := zi_t c1 h
    refine lv_aload_n F.1 F.2.1 dX19_newDatagram_46 rfl (lv_at hl 0 rfl) ?_
    refine lv_iload_n F.1 F.2.1 dX19_newDatagram_47 rfl (lv_at hl 1 rfl) ?_
    refine lv_bipush (v := (10 : Int32)) F.1 F.2.1 dX19_newDatagram_48 (by decide) ?_
    refine lv_iconst (v := (-1 : Int32)) F.1 F.2.1 dX19_newDatagram_50 (by decide) ?_
    replace h := zc_some h
    obtain ⟨r2, z3, hc4, h⟩ := h
    refine zr_callv (zrun_V (As := [.int x1, .int (10 : Int32), .int (-1 : Int32)]) (rest := []) zq_2623 zq_2625 zs_X19_set zq_2626 zq_4 hdX19_set (by decide) (T := TX19) (N := 32) rfl (okX19_set l D cy B ids hst N x0 hx0 x1  (10 : Int32)  (-1 : Int32)  hr.2.2 hc4) F hr hx0 hl.1 rfl (by decide) dX19_newDatagram_51 rfl rfl hroX19_newDatagram_X19_set ⟨Nat.zero_le _, Nat.zero_le _⟩) F hA hr (fun H locs hw5 hr => ?_)
    clear hc4
    refine lv_aload_n F.1 F.2.1 dX19_newDatagram_54 rfl (lv_at hl 0 rfl) ?_
    refine lv_iload_n F.1 F.2.1 dX19_newDatagram_55 rfl (lv_at hl 1 rfl) ?_
    refine lv_bipush (v := (11 : Int32)) F.1 F.2.1 dX19_newDatagram_56 (by decide) ?_
    refine lv_iconst (v := (-1 : Int32)) F.1 F.2.1 dX19_newDatagram_58 (by decide) ?_
    replace h := zc_some h
    obtain ⟨r6, z7, hc8, h⟩ := h
    refine zr_callv (zrun_V (As := [.int x1, .int (11 : Int32), .int (-1 : Int32)]) (rest := []) zq_2623 zq_2625 zs_X19_set zq_2626 zq_4 hdX19_set (by decide) (T := TX19) (N := 32) rfl (okX19_set l D cy B ids hst N x0 hx0 x1  (11 : Int32)  (-1 : Int32)  hr.2.2 hc8) F hr hx0 hl.1 rfl (by decide) dX19_newDatagram_59 rfl rfl hroX19_newDatagram_X19_set ⟨Nat.zero_le _, Nat.zero_le _⟩) F hA hr (fun H locs hw9 hr => ?_)
    clear hc8
    refine lv_iload_n F.1 F.2.1 dX19_newDatagram_62 rfl (lv_at hl 1 rfl) ?_
    obtain ⟨rfl, rfl⟩ := zret h
    exact E _ _ _ _ dX19_newDatagram_63 trivial hr
  · replace h := zi_f c1 h
    refine lv_aload_n F.1 F.2.1 dX19_newDatagram_28 rfl (lv_at hl 0 rfl) ?_
    refine gf19_1 F hx0 hr dX19_newDatagram_29 ?_
    refine lv_bipush (v := (18 : Int32)) F.1 F.2.1 dX19_newDatagram_32 (by decide) ?_
    refine lv_iload_n F.1 F.2.1 dX19_newDatagram_34 rfl (lv_at hl 1 rfl) ?_
    refine lv_imul F.1 F.2.1 dX19_newDatagram_35 ?_
    refine lv_iload_n F.1 F.2.1 dX19_newDatagram_36 rfl (lv_at hl 2 rfl) ?_
    refine lv_iadd F.1 F.2.1 dX19_newDatagram_37 ?_
    refine lv_iconst (v := (0 : Int32)) F.1 F.2.1 dX19_newDatagram_38 (by decide) ?_
    replace h := zk_some h
    obtain ⟨c10, h⟩ := h
    refine zr_iast (k := 172) (by decide) rfl (by decide) F (zal_a F hx0 (j := 0) rfl) hr dX19_newDatagram_39 c10 (fun H locs z11 ez11 hr => ?_)
    replace h := zl_sub ez11 h
    clear ez11
    obtain ⟨v12, ev12⟩ : ∃ y : Int32, y = (x2 + 1) := ⟨_, rfl⟩
    replace h := zl_sub ev12 h
    refine lv_iinc (v := v12) (lv' := [(2, .int v12), (0, .ref (B 19 x0)), (1, .int x1)]) F.1 F.2.1 dX19_newDatagram_40 hl (k := 2) rfl (by rw [ev12]; rfl) (by decide) rfl (fun ls hl => ?_)
    refine lv_goto (tgt := 22) F.1 F.2.1 dX19_newDatagram_43 (by decide) ?_
    exact hK22 x0 x1 v12 hx0 hr (lv_sub hl [1, 2, 0] rfl) h
theorem lX19_newDatagram_22 (hst : zSt B ids) (F : zFx p m c cX19_newDatagram 3 s args RX19 D cy B ids A) (hA : ∀ q : Nat, s.heap.size ≤ q → A q) {r : Int32} {z' : St} (E : zEnd p l e rmX19_newDatagram s m args below meth c cX19_newDatagram D cy B ids A Q (some (.int r)) z' .ireturn True) {N : Nat}  : ∀ (n : Nat) (x0 : Nat) (x1 : Int32) (x2 : Int32) (hx0 : (19, x0) ∈ ids) {z : St} {H : Heap} {locs : List Loc} {ls : Array Slot} (hr : zRep D cy B ids A s.heap z H locs) (hl : lv_has ls 3 [(0, .ref (B 19 x0)), (1, .int x1), (2, .int x2)]), fX19_newDatagram_22 N  n x0 x1 x2 z = some (r, z') → W p l e rmX19_newDatagram s m args below meth c H locs 0 0 Q (F0 m 22 ls []) := by
  intro n
  induction n with
  | zero => intro x0 x1 x2 hx0 z H locs ls hr hl h; cases h
  | succ n ih => intro x0 x1 x2 hx0 z H locs ls hr hl h; exact bX19_newDatagram_22 hst F hA E ih x0 x1 x2 hx0 hr hl h
def fX19_newDatagram (N : Nat)  (x0 : Nat) (z : St) : Option (Int32 × St) := zl (zsI z 19 2 x0 ((zgI z 19 2 x0) - (1 : Int32))) fun z1 => zk (zgI z1 19 2 x0) 2400 <| zl (zgA z1 173 x0 (Int32.toNatClampNeg (zgI z1 19 2 x0))) fun v3 => fX19_newDatagram_22 N N x0 v3 (0 : Int32) z1
set_option maxHeartbeats 4000000 in
set_option maxRecDepth 100000 in
theorem bX19_newDatagram_0 (hst : zSt B ids) (F : zFx p m c cX19_newDatagram 3 s args RX19 D cy B ids A) (hA : ∀ q : Nat, s.heap.size ≤ q → A q) {r : Int32} {z' : St} (E : zEnd p l e rmX19_newDatagram s m args below meth c cX19_newDatagram D cy B ids A Q (some (.int r)) z' .ireturn True) {N : Nat}  (x0 : Nat) (hx0 : (19, x0) ∈ ids) {z : St} {H : Heap} {locs : List Loc} {ls : Array Slot} (hr : zRep D cy B ids A s.heap z H locs) (hl : lv_has ls 3 [(0, .ref (B 19 x0))]) (h : fX19_newDatagram N x0 z = some (r, z')) : W p l e rmX19_newDatagram s m args below meth c H locs 0 0 Q (F0 m 0 ls []) := by
  unfold fX19_newDatagram at h
  refine lv_aload_n F.1 F.2.1 dX19_newDatagram_0 rfl (lv_at hl 0 rfl) ?_
  refine lv_dup F.1 F.2.1 dX19_newDatagram_1 rfl ?_
  refine gf19_7 F hx0 hr dX19_newDatagram_2 ?_
  refine lv_iconst (v := (1 : Int32)) F.1 F.2.1 dX19_newDatagram_5 (by decide) ?_
  refine lv_isub F.1 F.2.1 dX19_newDatagram_6 ?_
  refine pf19_7 F hx0 hr dX19_newDatagram_7 ((zgI z 19 2 x0) - (1 : Int32)) (fun H locs z1 ez1 hr => ?_)
  replace h := zl_sub ez1 h
  clear ez1
  refine lv_aload_n F.1 F.2.1 dX19_newDatagram_10 rfl (lv_at hl 0 rfl) ?_
  refine gf19_11 F hx0 hr dX19_newDatagram_11 ?_
  refine lv_aload_n F.1 F.2.1 dX19_newDatagram_14 rfl (lv_at hl 0 rfl) ?_
  refine gf19_7 F hx0 hr dX19_newDatagram_15 ?_
  replace h := zk_some h
  obtain ⟨c2, h⟩ := h
  refine zr_iald (k := 173) (by decide) rfl (by decide) F (zal_a F hx0 (j := 1) rfl) hr dX19_newDatagram_18 c2 ?_
  refine lv_topi (fun v3 ev3 => ?_)
  replace h := zl_sub ev3 h
  refine lv_istore_n (lv' := [(1, .int v3), (0, .ref (B 19 x0))]) F.1 F.2.1 dX19_newDatagram_19 rfl hl (by decide) rfl (fun ls hl => ?_)
  refine lv_iconst (v := (0 : Int32)) F.1 F.2.1 dX19_newDatagram_20 (by decide) ?_
  refine lv_istore_n (lv' := [(2, .int (0 : Int32)), (1, .int v3), (0, .ref (B 19 x0))]) F.1 F.2.1 dX19_newDatagram_21 rfl hl (by decide) rfl (fun ls hl => ?_)
  exact lX19_newDatagram_22 hst F hA E  _ x0 v3 (0 : Int32) hx0 hr (lv_sub hl [2, 1, 0] rfl) h
end SX19_newDatagram
set_option maxRecDepth 100000 in
theorem okX19_newDatagram (l : Launch) (D : va_G) (cy : Nat → ClassId) (B : Nat → Nat → Nat) (ids : List (Nat × Nat)) (hst : zSt B ids) (N : Nat) (x0 : Nat) (hx0 : (19, x0) ∈ ids) {z : St} {r : Int32} {z' : St} (hW : zWf ids z) (h : fX19_newDatagram N x0 z = some (r, z')) : zM l yX19_newDatagram (zws yX19_newDatagram cX19_newDatagram 3 (some .int)) rmX19_newDatagram D cy B ids [.ref (B 19 x0)] (some (.int r)) True z z' :=
  zM_of hst hW (by decide +kernel) (Nat.le_of_ble_eq_true rfl) (fun p e s m args below meth c A ls F hA hret hlocks hr hl => bX19_newDatagram_0 hst F hA (zEnd_i F hret hlocks) x0 hx0 hr hl h)
abbrev rmX19_copyOf : Room := { frames := 1, cells := 0, slots := 0, locals := 22 }
theorem hdX19_copyOf : yX19_copyOf.cls ≠ "java/lang/invoke/MethodHandle" ∧ yX19_copyOf.cls ≠ "java/lang/invoke/VarHandle" ∧ (parseMethodDescriptor yX19_copyOf.desc).map (fun d => d.parameters.length) = some 1 := by decide +kernel
theorem hroX19_copyOf_X19_of : rmX19_of.frames + 1 ≤ rmX19_copyOf.frames ∧ 8 + (3 + 11) + rmX19_of.locals ≤ rmX19_copyOf.locals := by decide
section SX19_copyOf
variable {p : Program} {l : Launch} {e : Env} {s : State} {m : MethodId} {args : Array Value} {below : List Frame} {meth : Method} {c : Code} {Q : State → Prop} {D : va_G} {cy : Nat → ClassId} {B : Nat → Nat → Nat} {ids : List (Nat × Nat)} {A : Nat → Prop}
def fX19_copyOf_83 (N : Nat)  (x0 : Nat) (x2 : Int32) (z : St) : Option (Int32 × St) := zc (fX19_of N x0 x2 (11 : Int32) z) fun r1 z2 => if r1 = (-1 : Int32) then (some (x2, z2)) else (zc (fX19_of N x0 x2 (11 : Int32) z2) fun r6 z7 => zk r6 2400 <| zk r6 2400 <| zl (zsA z7 179 x0 (Int32.toNatClampNeg r6) ((zgA z7 179 x0 (Int32.toNatClampNeg r6)) + (1 : Int32))) fun z12 => some (x2, z12))
set_option maxHeartbeats 4000000 in
set_option maxRecDepth 100000 in
theorem bX19_copyOf_83 (hst : zSt B ids) (F : zFx p m c cX19_copyOf 4 s args RX19 D cy B ids A) (hA : ∀ q : Nat, s.heap.size ≤ q → A q) {r : Int32} {z' : St} (E : zEnd p l e rmX19_copyOf s m args below meth c cX19_copyOf D cy B ids A Q (some (.int r)) z' .ireturn True) {N : Nat}  (x0 : Nat) (x2 : Int32) (hx0 : (19, x0) ∈ ids) {z : St} {H : Heap} {locs : List Loc} {ls : Array Slot} (hr : zRep D cy B ids A s.heap z H locs) (hl : lv_has ls 4 [(0, .ref (B 19 x0)), (2, .int x2)]) (h : fX19_copyOf_83 N x0 x2 z = some (r, z')) : W p l e rmX19_copyOf s m args below meth c H locs 0 0 Q (F0 m 83 ls []) := by
  unfold fX19_copyOf_83 at h
  refine lv_aload_n F.1 F.2.1 dX19_copyOf_83 rfl (lv_at hl 0 rfl) ?_
  refine lv_iload_n F.1 F.2.1 dX19_copyOf_84 rfl (lv_at hl 1 rfl) ?_
  refine lv_bipush (v := (11 : Int32)) F.1 F.2.1 dX19_copyOf_85 (by decide) ?_
  replace h := zc_some h
  obtain ⟨r1, z2, hc3, h⟩ := h
  refine zr_calli (zrun_V (As := [.int x2, .int (11 : Int32)]) (rest := []) zq_2549 zq_2551 zs_X19_of zq_2552 zq_4 hdX19_of (by decide) (T := TX19) (N := 32) rfl (okX19_of l D cy B ids hst N x0 hx0 x2  (11 : Int32)  hr.2.2 hc3) F hr hx0 hl.1 rfl (by decide) dX19_copyOf_87 rfl rfl hroX19_copyOf_X19_of ⟨Nat.zero_le _, Nat.zero_le _⟩) F hA hr (fun H locs hw4 hr => ?_)
  clear hc3
  refine lv_iconst (v := (-1 : Int32)) F.1 F.2.1 dX19_copyOf_90 (by decide) ?_
  refine lv_icmp_eq (tgt := 110) F.1 F.2.1 dX19_copyOf_91 (by decide) (fun c5 => ?_) (fun c5 => ?_)
  · replace h := zi_t c5 h
    refine lv_iload_n F.1 F.2.1 dX19_copyOf_110 rfl (lv_at hl 1 rfl) ?_
    obtain ⟨rfl, rfl⟩ := zret h
    exact E _ _ _ _ dX19_copyOf_111 trivial hr
  · replace h := zi_f c5 h
    refine lv_aload_n F.1 F.2.1 dX19_copyOf_94 rfl (lv_at hl 0 rfl) ?_
    refine gf19_25 F hx0 hr dX19_copyOf_95 ?_
    refine lv_aload_n F.1 F.2.1 dX19_copyOf_98 rfl (lv_at hl 0 rfl) ?_
    refine lv_iload_n F.1 F.2.1 dX19_copyOf_99 rfl (lv_at hl 1 rfl) ?_
    refine lv_bipush (v := (11 : Int32)) F.1 F.2.1 dX19_copyOf_100 (by decide) ?_
    replace h := zc_some h
    obtain ⟨r6, z7, hc8, h⟩ := h
    refine zr_calli (zrun_V (As := [.int x2, .int (11 : Int32)]) (rest := [.ref (B 179 x0)]) zq_2549 zq_2551 zs_X19_of zq_2552 zq_4 hdX19_of (by decide) (T := TX19) (N := 32) rfl (okX19_of l D cy B ids hst N x0 hx0 x2  (11 : Int32)  hr.2.2 hc8) F hr hx0 hl.1 rfl (Nat.le_of_ble_eq_true rfl) dX19_copyOf_102 rfl rfl hroX19_copyOf_X19_of ⟨Nat.zero_le _, Nat.zero_le _⟩) F hA hr (fun H locs hw9 hr => ?_)
    clear hc8
    refine lv_dup2_11 F.1 F.2.1 dX19_copyOf_105 rfl rfl ?_
    replace h := zk_some h
    obtain ⟨c10, h⟩ := h
    refine zr_iald (k := 179) (by decide) rfl (by decide) F (zal_a F hx0 (j := 9) rfl) hr dX19_copyOf_106 c10 ?_
    refine lv_iconst (v := (1 : Int32)) F.1 F.2.1 dX19_copyOf_107 (by decide) ?_
    refine lv_iadd F.1 F.2.1 dX19_copyOf_108 ?_
    replace h := zk_some h
    obtain ⟨c11, h⟩ := h
    refine zr_iast (k := 179) (by decide) rfl (by decide) F (zal_a F hx0 (j := 9) rfl) hr dX19_copyOf_109 c11 (fun H locs z12 ez12 hr => ?_)
    replace h := zl_sub ez12 h
    clear ez12
    refine lv_iload_n F.1 F.2.1 dX19_copyOf_110 rfl (lv_at hl 1 rfl) ?_
    obtain ⟨rfl, rfl⟩ := zret h
    exact E _ _ _ _ dX19_copyOf_111 trivial hr
def fX19_copyOf_22b (N : Nat) (K22 : Nat → Int32 → Int32 → Int32 → St → Option (Int32 × St)) (x0 : Nat) (x1 : Int32) (x2 : Int32) (x3 : Int32) (z : St) : Option (Int32 × St) := if (18 : Int32) ≤ x3 then (zc (fX19_of N x0 x2 (10 : Int32) z) fun r2 z3 => if r2 = (-1 : Int32) then (fX19_copyOf_83 N x0 x2 z3) else (zc (fX19_of N x0 x2 (10 : Int32) z3) fun r7 z8 => zk r7 2400 <| zk r7 2400 <| zl (zsA z8 176 x0 (Int32.toNatClampNeg r7) ((zgA z8 176 x0 (Int32.toNatClampNeg r7)) + (1 : Int32))) fun z13 => fX19_copyOf_83 N x0 x2 z13)) else (zk (((18 : Int32) * x1) + x3) 43200 <| zk (((18 : Int32) * x2) + x3) 43200 <| zl (zsA z 172 x0 (Int32.toNatClampNeg (((18 : Int32) * x2) + x3)) (zgA z 172 x0 (Int32.toNatClampNeg (((18 : Int32) * x1) + x3)))) fun z16 => zl (x3 + 1) fun v17 => K22 x0 x1 x2 v17 z16)
def fX19_copyOf_22 (N : Nat)  : Nat → Nat → Int32 → Int32 → Int32 → St → Option (Int32 × St)
  | 0 => fun _ _ _ _ _ => none
  | n + 1 => fX19_copyOf_22b N (fX19_copyOf_22 N  n)
set_option maxHeartbeats 4000000 in
set_option maxRecDepth 100000 in
theorem bX19_copyOf_22 (hst : zSt B ids) (F : zFx p m c cX19_copyOf 4 s args RX19 D cy B ids A) (hA : ∀ q : Nat, s.heap.size ≤ q → A q) {r : Int32} {z' : St} (E : zEnd p l e rmX19_copyOf s m args below meth c cX19_copyOf D cy B ids A Q (some (.int r)) z' .ireturn True) {N : Nat} {K22 : Nat → Int32 → Int32 → Int32 → St → Option (Int32 × St)} (hK22 : ∀ (x0 : Nat) (x1 : Int32) (x2 : Int32) (x3 : Int32) (hx0 : (19, x0) ∈ ids) {z : St} {H : Heap} {locs : List Loc} {ls : Array Slot} (hr : zRep D cy B ids A s.heap z H locs) (hl : lv_has ls 4 [(0, .ref (B 19 x0)), (1, .int x1), (2, .int x2), (3, .int x3)]), K22 x0 x1 x2 x3 z = some (r, z') → W p l e rmX19_copyOf s m args below meth c H locs 0 0 Q (F0 m 22 ls [])) (x0 : Nat) (x1 : Int32) (x2 : Int32) (x3 : Int32) (hx0 : (19, x0) ∈ ids) {z : St} {H : Heap} {locs : List Loc} {ls : Array Slot} (hr : zRep D cy B ids A s.heap z H locs) (hl : lv_has ls 4 [(0, .ref (B 19 x0)), (1, .int x1), (2, .int x2), (3, .int x3)]) (h : fX19_copyOf_22b N K22 x0 x1 x2 x3 z = some (r, z')) : W p l e rmX19_copyOf s m args below meth c H locs 0 0 Q (F0 m 22 ls []) := by
  unfold fX19_copyOf_22b at h
  refine lv_iload_n F.1 F.2.1 dX19_copyOf_22 rfl (lv_at hl 3 rfl) ?_
  refine lv_bipush (v := (18 : Int32)) F.1 F.2.1 dX19_copyOf_23 (by decide) ?_
  refine lv_icmp_ge (tgt := 56) F.1 F.2.1 dX19_copyOf_25 (by decide) (fun c1 => ?_) (fun c1 => ?_)
  · replace h := zi_t c1 h
    refine lv_aload_n F.1 F.2.1 dX19_copyOf_56 rfl (lv_at hl 0 rfl) ?_
    refine lv_iload_n F.1 F.2.1 dX19_copyOf_57 rfl (lv_at hl 2 rfl) ?_
    refine lv_bipush (v := (10 : Int32)) F.1 F.2.1 dX19_copyOf_58 (by decide) ?_
    replace h := zc_some h
    obtain ⟨r2, z3, hc4, h⟩ := h
    refine zr_calli (zrun_V (As := [.int x2, .int (10 : Int32)]) (rest := []) zq_2549 zq_2551 zs_X19_of zq_2552 zq_4 hdX19_of (by decide) (T := TX19) (N := 32) rfl (okX19_of l D cy B ids hst N x0 hx0 x2  (10 : Int32)  hr.2.2 hc4) F hr hx0 hl.1 rfl (by decide) dX19_copyOf_60 rfl rfl hroX19_copyOf_X19_of ⟨Nat.zero_le _, Nat.zero_le _⟩) F hA hr (fun H locs hw5 hr => ?_)
    clear hc4
    refine lv_iconst (v := (-1 : Int32)) F.1 F.2.1 dX19_copyOf_63 (by decide) ?_
    refine lv_icmp_eq (tgt := 83) F.1 F.2.1 dX19_copyOf_64 (by decide) (fun c6 => ?_) (fun c6 => ?_)
    · replace h := zi_t c6 h
      exact bX19_copyOf_83 hst F hA E  x0 x2 hx0 hr (lv_sub hl [0, 2] rfl) h
    · replace h := zi_f c6 h
      refine lv_aload_n F.1 F.2.1 dX19_copyOf_67 rfl (lv_at hl 0 rfl) ?_
      refine gf19_22 F hx0 hr dX19_copyOf_68 ?_
      refine lv_aload_n F.1 F.2.1 dX19_copyOf_71 rfl (lv_at hl 0 rfl) ?_
      refine lv_iload_n F.1 F.2.1 dX19_copyOf_72 rfl (lv_at hl 2 rfl) ?_
      refine lv_bipush (v := (10 : Int32)) F.1 F.2.1 dX19_copyOf_73 (by decide) ?_
      replace h := zc_some h
      obtain ⟨r7, z8, hc9, h⟩ := h
      refine zr_calli (zrun_V (As := [.int x2, .int (10 : Int32)]) (rest := [.ref (B 176 x0)]) zq_2549 zq_2551 zs_X19_of zq_2552 zq_4 hdX19_of (by decide) (T := TX19) (N := 32) rfl (okX19_of l D cy B ids hst N x0 hx0 x2  (10 : Int32)  hr.2.2 hc9) F hr hx0 hl.1 rfl (Nat.le_of_ble_eq_true rfl) dX19_copyOf_75 rfl rfl hroX19_copyOf_X19_of ⟨Nat.zero_le _, Nat.zero_le _⟩) F hA hr (fun H locs hw10 hr => ?_)
      clear hc9
      refine lv_dup2_11 F.1 F.2.1 dX19_copyOf_78 rfl rfl ?_
      replace h := zk_some h
      obtain ⟨c11, h⟩ := h
      refine zr_iald (k := 176) (by decide) rfl (by decide) F (zal_a F hx0 (j := 5) rfl) hr dX19_copyOf_79 c11 ?_
      refine lv_iconst (v := (1 : Int32)) F.1 F.2.1 dX19_copyOf_80 (by decide) ?_
      refine lv_iadd F.1 F.2.1 dX19_copyOf_81 ?_
      replace h := zk_some h
      obtain ⟨c12, h⟩ := h
      refine zr_iast (k := 176) (by decide) rfl (by decide) F (zal_a F hx0 (j := 5) rfl) hr dX19_copyOf_82 c12 (fun H locs z13 ez13 hr => ?_)
      replace h := zl_sub ez13 h
      clear ez13
      exact bX19_copyOf_83 hst F hA E  x0 x2 hx0 hr (lv_sub hl [0, 2] rfl) h
  · replace h := zi_f c1 h
    refine lv_aload_n F.1 F.2.1 dX19_copyOf_28 rfl (lv_at hl 0 rfl) ?_
    refine gf19_1 F hx0 hr dX19_copyOf_29 ?_
    refine lv_bipush (v := (18 : Int32)) F.1 F.2.1 dX19_copyOf_32 (by decide) ?_
    refine lv_iload_n F.1 F.2.1 dX19_copyOf_34 rfl (lv_at hl 2 rfl) ?_
    refine lv_imul F.1 F.2.1 dX19_copyOf_35 ?_
    refine lv_iload_n F.1 F.2.1 dX19_copyOf_36 rfl (lv_at hl 3 rfl) ?_
    refine lv_iadd F.1 F.2.1 dX19_copyOf_37 ?_
    refine lv_aload_n F.1 F.2.1 dX19_copyOf_38 rfl (lv_at hl 0 rfl) ?_
    refine gf19_1 F hx0 hr dX19_copyOf_39 ?_
    refine lv_bipush (v := (18 : Int32)) F.1 F.2.1 dX19_copyOf_42 (by decide) ?_
    refine lv_iload_n F.1 F.2.1 dX19_copyOf_44 rfl (lv_at hl 1 rfl) ?_
    refine lv_imul F.1 F.2.1 dX19_copyOf_45 ?_
    refine lv_iload_n F.1 F.2.1 dX19_copyOf_46 rfl (lv_at hl 3 rfl) ?_
    refine lv_iadd F.1 F.2.1 dX19_copyOf_47 ?_
    replace h := zk_some h
    obtain ⟨c14, h⟩ := h
    refine zr_iald (k := 172) (by decide) rfl (by decide) F (zal_a F hx0 (j := 0) rfl) hr dX19_copyOf_48 c14 ?_
    replace h := zk_some h
    obtain ⟨c15, h⟩ := h
    refine zr_iast (k := 172) (by decide) rfl (by decide) F (zal_a F hx0 (j := 0) rfl) hr dX19_copyOf_49 c15 (fun H locs z16 ez16 hr => ?_)
    replace h := zl_sub ez16 h
    clear ez16
    obtain ⟨v17, ev17⟩ : ∃ y : Int32, y = (x3 + 1) := ⟨_, rfl⟩
    replace h := zl_sub ev17 h
    refine lv_iinc (v := v17) (lv' := [(3, .int v17), (0, .ref (B 19 x0)), (1, .int x1), (2, .int x2)]) F.1 F.2.1 dX19_copyOf_50 hl (k := 3) rfl (by rw [ev17]; rfl) (by decide) rfl (fun ls hl => ?_)
    refine lv_goto (tgt := 22) F.1 F.2.1 dX19_copyOf_53 (by decide) ?_
    exact hK22 x0 x1 x2 v17 hx0 hr (lv_sub hl [1, 2, 3, 0] rfl) h
theorem lX19_copyOf_22 (hst : zSt B ids) (F : zFx p m c cX19_copyOf 4 s args RX19 D cy B ids A) (hA : ∀ q : Nat, s.heap.size ≤ q → A q) {r : Int32} {z' : St} (E : zEnd p l e rmX19_copyOf s m args below meth c cX19_copyOf D cy B ids A Q (some (.int r)) z' .ireturn True) {N : Nat}  : ∀ (n : Nat) (x0 : Nat) (x1 : Int32) (x2 : Int32) (x3 : Int32) (hx0 : (19, x0) ∈ ids) {z : St} {H : Heap} {locs : List Loc} {ls : Array Slot} (hr : zRep D cy B ids A s.heap z H locs) (hl : lv_has ls 4 [(0, .ref (B 19 x0)), (1, .int x1), (2, .int x2), (3, .int x3)]), fX19_copyOf_22 N  n x0 x1 x2 x3 z = some (r, z') → W p l e rmX19_copyOf s m args below meth c H locs 0 0 Q (F0 m 22 ls []) := by
  intro n
  induction n with
  | zero => intro x0 x1 x2 x3 hx0 z H locs ls hr hl h; cases h
  | succ n ih => intro x0 x1 x2 x3 hx0 z H locs ls hr hl h; exact bX19_copyOf_22 hst F hA E ih x0 x1 x2 x3 hx0 hr hl h
def fX19_copyOf (N : Nat)  (x0 : Nat) (x1 : Int32) (z : St) : Option (Int32 × St) := zl (zsI z 19 2 x0 ((zgI z 19 2 x0) - (1 : Int32))) fun z1 => zk (zgI z1 19 2 x0) 2400 <| zl (zgA z1 173 x0 (Int32.toNatClampNeg (zgI z1 19 2 x0))) fun v3 => fX19_copyOf_22 N N x0 x1 v3 (0 : Int32) z1
set_option maxHeartbeats 4000000 in
set_option maxRecDepth 100000 in
theorem bX19_copyOf_0 (hst : zSt B ids) (F : zFx p m c cX19_copyOf 4 s args RX19 D cy B ids A) (hA : ∀ q : Nat, s.heap.size ≤ q → A q) {r : Int32} {z' : St} (E : zEnd p l e rmX19_copyOf s m args below meth c cX19_copyOf D cy B ids A Q (some (.int r)) z' .ireturn True) {N : Nat}  (x0 : Nat) (x1 : Int32) (hx0 : (19, x0) ∈ ids) {z : St} {H : Heap} {locs : List Loc} {ls : Array Slot} (hr : zRep D cy B ids A s.heap z H locs) (hl : lv_has ls 4 [(0, .ref (B 19 x0)), (1, .int x1)]) (h : fX19_copyOf N x0 x1 z = some (r, z')) : W p l e rmX19_copyOf s m args below meth c H locs 0 0 Q (F0 m 0 ls []) := by
  unfold fX19_copyOf at h
  refine lv_aload_n F.1 F.2.1 dX19_copyOf_0 rfl (lv_at hl 0 rfl) ?_
  refine lv_dup F.1 F.2.1 dX19_copyOf_1 rfl ?_
  refine gf19_7 F hx0 hr dX19_copyOf_2 ?_
  refine lv_iconst (v := (1 : Int32)) F.1 F.2.1 dX19_copyOf_5 (by decide) ?_
  refine lv_isub F.1 F.2.1 dX19_copyOf_6 ?_
  refine pf19_7 F hx0 hr dX19_copyOf_7 ((zgI z 19 2 x0) - (1 : Int32)) (fun H locs z1 ez1 hr => ?_)
  replace h := zl_sub ez1 h
  clear ez1
  refine lv_aload_n F.1 F.2.1 dX19_copyOf_10 rfl (lv_at hl 0 rfl) ?_
  refine gf19_11 F hx0 hr dX19_copyOf_11 ?_
  refine lv_aload_n F.1 F.2.1 dX19_copyOf_14 rfl (lv_at hl 0 rfl) ?_
  refine gf19_7 F hx0 hr dX19_copyOf_15 ?_
  replace h := zk_some h
  obtain ⟨c2, h⟩ := h
  refine zr_iald (k := 173) (by decide) rfl (by decide) F (zal_a F hx0 (j := 1) rfl) hr dX19_copyOf_18 c2 ?_
  refine lv_topi (fun v3 ev3 => ?_)
  replace h := zl_sub ev3 h
  refine lv_istore_n (lv' := [(2, .int v3), (0, .ref (B 19 x0)), (1, .int x1)]) F.1 F.2.1 dX19_copyOf_19 rfl hl (by decide) rfl (fun ls hl => ?_)
  refine lv_iconst (v := (0 : Int32)) F.1 F.2.1 dX19_copyOf_20 (by decide) ?_
  refine lv_istore_n (lv' := [(3, .int (0 : Int32)), (2, .int v3), (0, .ref (B 19 x0)), (1, .int x1)]) F.1 F.2.1 dX19_copyOf_21 rfl hl (by decide) rfl (fun ls hl => ?_)
  exact lX19_copyOf_22 hst F hA E  _ x0 x1 v3 (0 : Int32) hx0 hr (lv_sub hl [2, 3, 1, 0] rfl) h
end SX19_copyOf
set_option maxRecDepth 100000 in
theorem okX19_copyOf (l : Launch) (D : va_G) (cy : Nat → ClassId) (B : Nat → Nat → Nat) (ids : List (Nat × Nat)) (hst : zSt B ids) (N : Nat) (x0 : Nat) (hx0 : (19, x0) ∈ ids) (x1 : Int32) {z : St} {r : Int32} {z' : St} (hW : zWf ids z) (h : fX19_copyOf N x0 x1 z = some (r, z')) : zM l yX19_copyOf (zws yX19_copyOf cX19_copyOf 4 (some .int)) rmX19_copyOf D cy B ids [.ref (B 19 x0), .int x1] (some (.int r)) True z z' :=
  zM_of hst hW (by decide +kernel) (Nat.le_of_ble_eq_true rfl) (fun p e s m args below meth c A ls F hA hret hlocks hr hl => bX19_copyOf_0 hst F hA (zEnd_i F hret hlocks) x0 x1 hx0 hr hl h)
abbrev rmX19_dropAdvert : Room := { frames := 0, cells := 0, slots := 0, locals := 0 }
theorem hdX19_dropAdvert : yX19_dropAdvert.cls ≠ "java/lang/invoke/MethodHandle" ∧ yX19_dropAdvert.cls ≠ "java/lang/invoke/VarHandle" ∧ (parseMethodDescriptor yX19_dropAdvert.desc).map (fun d => d.parameters.length) = some 1 := by decide +kernel
section SX19_dropAdvert
variable {p : Program} {l : Launch} {e : Env} {s : State} {m : MethodId} {args : Array Value} {below : List Frame} {meth : Method} {c : Code} {Q : State → Prop} {D : va_G} {cy : Nat → ClassId} {B : Nat → Nat → Nat} {ids : List (Nat × Nat)} {A : Nat → Prop}
def fX19_dropAdvert (N : Nat)  (x0 : Nat) (x1 : Int32) (z : St) : Option (Int32 × St) := zk x1 2400 <| zk x1 2400 <| zl (zsA z 179 x0 (Int32.toNatClampNeg x1) ((zgA z 179 x0 (Int32.toNatClampNeg x1)) - (1 : Int32))) fun z3 => zk x1 2400 <| if ¬ (zgA z3 179 x0 (Int32.toNatClampNeg x1)) = 0 then (some (0, z3)) else (zk (zgI z3 19 11 x0) 2400 <| zl (zsA z3 180 x0 (Int32.toNatClampNeg (zgI z3 19 11 x0)) x1) fun z7 => zl (zsI z7 19 11 x0 ((zgI z7 19 11 x0) + (1 : Int32))) fun z8 => some (0, z8))
set_option maxHeartbeats 4000000 in
set_option maxRecDepth 100000 in
theorem bX19_dropAdvert_0 (hst : zSt B ids) (F : zFx p m c cX19_dropAdvert 2 s args RX19 D cy B ids A) (hA : ∀ q : Nat, s.heap.size ≤ q → A q) {r : Int32} {z' : St} (E : zEnd p l e rmX19_dropAdvert s m args below meth c cX19_dropAdvert D cy B ids A Q none z' .return_ True) {N : Nat}  (x0 : Nat) (x1 : Int32) (hx0 : (19, x0) ∈ ids) {z : St} {H : Heap} {locs : List Loc} {ls : Array Slot} (hr : zRep D cy B ids A s.heap z H locs) (hl : lv_has ls 2 [(0, .ref (B 19 x0)), (1, .int x1)]) (h : fX19_dropAdvert N x0 x1 z = some (r, z')) : W p l e rmX19_dropAdvert s m args below meth c H locs 0 0 Q (F0 m 0 ls []) := by
  unfold fX19_dropAdvert at h
  refine lv_aload_n F.1 F.2.1 dX19_dropAdvert_0 rfl (lv_at hl 0 rfl) ?_
  refine gf19_25 F hx0 hr dX19_dropAdvert_1 ?_
  refine lv_iload_n F.1 F.2.1 dX19_dropAdvert_4 rfl (lv_at hl 1 rfl) ?_
  refine lv_dup2_11 F.1 F.2.1 dX19_dropAdvert_5 rfl rfl ?_
  replace h := zk_some h
  obtain ⟨c1, h⟩ := h
  refine zr_iald (k := 179) (by decide) rfl (by decide) F (zal_a F hx0 (j := 9) rfl) hr dX19_dropAdvert_6 c1 ?_
  refine lv_iconst (v := (1 : Int32)) F.1 F.2.1 dX19_dropAdvert_7 (by decide) ?_
  refine lv_isub F.1 F.2.1 dX19_dropAdvert_8 ?_
  replace h := zk_some h
  obtain ⟨c2, h⟩ := h
  refine zr_iast (k := 179) (by decide) rfl (by decide) F (zal_a F hx0 (j := 9) rfl) hr dX19_dropAdvert_9 c2 (fun H locs z3 ez3 hr => ?_)
  replace h := zl_sub ez3 h
  clear ez3
  refine lv_aload_n F.1 F.2.1 dX19_dropAdvert_10 rfl (lv_at hl 0 rfl) ?_
  refine gf19_25 F hx0 hr dX19_dropAdvert_11 ?_
  refine lv_iload_n F.1 F.2.1 dX19_dropAdvert_14 rfl (lv_at hl 1 rfl) ?_
  replace h := zk_some h
  obtain ⟨c4, h⟩ := h
  refine zr_iald (k := 179) (by decide) rfl (by decide) F (zal_a F hx0 (j := 9) rfl) hr dX19_dropAdvert_15 c4 ?_
  refine lv_if_ne (tgt := 39) F.1 F.2.1 dX19_dropAdvert_16 (by decide) (fun c5 => ?_) (fun c5 => ?_)
  · replace h := zi_t c5 h
    obtain ⟨rfl, rfl⟩ := zret h
    exact E _ _ _ _ dX19_dropAdvert_39 trivial hr
  · replace h := zi_f (fun q => q c5) h
    refine lv_aload_n F.1 F.2.1 dX19_dropAdvert_19 rfl (lv_at hl 0 rfl) ?_
    refine gf19_71 F hx0 hr dX19_dropAdvert_20 ?_
    refine lv_aload_n F.1 F.2.1 dX19_dropAdvert_23 rfl (lv_at hl 0 rfl) ?_
    refine gf19_68 F hx0 hr dX19_dropAdvert_24 ?_
    refine lv_iload_n F.1 F.2.1 dX19_dropAdvert_27 rfl (lv_at hl 1 rfl) ?_
    replace h := zk_some h
    obtain ⟨c6, h⟩ := h
    refine zr_iast (k := 180) (by decide) rfl (by decide) F (zal_a F hx0 (j := 10) rfl) hr dX19_dropAdvert_28 c6 (fun H locs z7 ez7 hr => ?_)
    replace h := zl_sub ez7 h
    clear ez7
    refine lv_aload_n F.1 F.2.1 dX19_dropAdvert_29 rfl (lv_at hl 0 rfl) ?_
    refine lv_dup F.1 F.2.1 dX19_dropAdvert_30 rfl ?_
    refine gf19_68 F hx0 hr dX19_dropAdvert_31 ?_
    refine lv_iconst (v := (1 : Int32)) F.1 F.2.1 dX19_dropAdvert_34 (by decide) ?_
    refine lv_iadd F.1 F.2.1 dX19_dropAdvert_35 ?_
    refine pf19_68 F hx0 hr dX19_dropAdvert_36 ((zgI z7 19 11 x0) + (1 : Int32)) (fun H locs z8 ez8 hr => ?_)
    replace h := zl_sub ez8 h
    clear ez8
    obtain ⟨rfl, rfl⟩ := zret h
    exact E _ _ _ _ dX19_dropAdvert_39 trivial hr
end SX19_dropAdvert
set_option maxRecDepth 100000 in
theorem okX19_dropAdvert (l : Launch) (D : va_G) (cy : Nat → ClassId) (B : Nat → Nat → Nat) (ids : List (Nat × Nat)) (hst : zSt B ids) (N : Nat) (x0 : Nat) (hx0 : (19, x0) ∈ ids) (x1 : Int32) {z : St} {r : Int32} {z' : St} (hW : zWf ids z) (h : fX19_dropAdvert N x0 x1 z = some (r, z')) : zM l yX19_dropAdvert (zws yX19_dropAdvert cX19_dropAdvert 2 none) rmX19_dropAdvert D cy B ids [.ref (B 19 x0), .int x1] none True z z' :=
  zM_of hst hW (by decide +kernel) (Nat.le_of_ble_eq_true rfl) (fun p e s m args below meth c A ls F hA hret hlocks hr hl => bX19_dropAdvert_0 hst F hA (zEnd_v F hret hlocks) x0 x1 hx0 hr hl h)
abbrev rmX19_dropBook : Room := { frames := 0, cells := 0, slots := 0, locals := 0 }
theorem hdX19_dropBook : yX19_dropBook.cls ≠ "java/lang/invoke/MethodHandle" ∧ yX19_dropBook.cls ≠ "java/lang/invoke/VarHandle" ∧ (parseMethodDescriptor yX19_dropBook.desc).map (fun d => d.parameters.length) = some 1 := by decide +kernel
section SX19_dropBook
variable {p : Program} {l : Launch} {e : Env} {s : State} {m : MethodId} {args : Array Value} {below : List Frame} {meth : Method} {c : Code} {Q : State → Prop} {D : va_G} {cy : Nat → ClassId} {B : Nat → Nat → Nat} {ids : List (Nat × Nat)} {A : Nat → Prop}
def fX19_dropBook (N : Nat)  (x0 : Nat) (x1 : Int32) (z : St) : Option (Int32 × St) := if x1 = (-1 : Int32) then (some (0, z)) else (zk x1 2592 <| zk x1 2592 <| zl (zsA z 183 x0 (Int32.toNatClampNeg x1) ((zgA z 183 x0 (Int32.toNatClampNeg x1)) - (1 : Int32))) fun z4 => zk x1 2592 <| if ¬ (zgA z4 183 x0 (Int32.toNatClampNeg x1)) = 0 then (some (0, z4)) else (zk (zgI z4 19 17 x0) 2592 <| zl (zsA z4 185 x0 (Int32.toNatClampNeg (zgI z4 19 17 x0)) x1) fun z8 => zl (zsI z8 19 17 x0 ((zgI z8 19 17 x0) + (1 : Int32))) fun z9 => some (0, z9)))
set_option maxHeartbeats 4000000 in
set_option maxRecDepth 100000 in
theorem bX19_dropBook_0 (hst : zSt B ids) (F : zFx p m c cX19_dropBook 2 s args RX19 D cy B ids A) (hA : ∀ q : Nat, s.heap.size ≤ q → A q) {r : Int32} {z' : St} (E : zEnd p l e rmX19_dropBook s m args below meth c cX19_dropBook D cy B ids A Q none z' .return_ True) {N : Nat}  (x0 : Nat) (x1 : Int32) (hx0 : (19, x0) ∈ ids) {z : St} {H : Heap} {locs : List Loc} {ls : Array Slot} (hr : zRep D cy B ids A s.heap z H locs) (hl : lv_has ls 2 [(0, .ref (B 19 x0)), (1, .int x1)]) (h : fX19_dropBook N x0 x1 z = some (r, z')) : W p l e rmX19_dropBook s m args below meth c H locs 0 0 Q (F0 m 0 ls []) := by
  unfold fX19_dropBook at h
  refine lv_iload_n F.1 F.2.1 dX19_dropBook_0 rfl (lv_at hl 1 rfl) ?_
  refine lv_iconst (v := (-1 : Int32)) F.1 F.2.1 dX19_dropBook_1 (by decide) ?_
  refine lv_icmp_eq (tgt := 44) F.1 F.2.1 dX19_dropBook_2 (by decide) (fun c1 => ?_) (fun c1 => ?_)
  · replace h := zi_t c1 h
    obtain ⟨rfl, rfl⟩ := zret h
    exact E _ _ _ _ dX19_dropBook_44 trivial hr
  · replace h := zi_f c1 h
    refine lv_aload_n F.1 F.2.1 dX19_dropBook_5 rfl (lv_at hl 0 rfl) ?_
    refine gf19_93 F hx0 hr dX19_dropBook_6 ?_
    refine lv_iload_n F.1 F.2.1 dX19_dropBook_9 rfl (lv_at hl 1 rfl) ?_
    refine lv_dup2_11 F.1 F.2.1 dX19_dropBook_10 rfl rfl ?_
    replace h := zk_some h
    obtain ⟨c2, h⟩ := h
    refine zr_iald (k := 183) (by decide) rfl (by decide) F (zal_a F hx0 (j := 14) rfl) hr dX19_dropBook_11 c2 ?_
    refine lv_iconst (v := (1 : Int32)) F.1 F.2.1 dX19_dropBook_12 (by decide) ?_
    refine lv_isub F.1 F.2.1 dX19_dropBook_13 ?_
    replace h := zk_some h
    obtain ⟨c3, h⟩ := h
    refine zr_iast (k := 183) (by decide) rfl (by decide) F (zal_a F hx0 (j := 14) rfl) hr dX19_dropBook_14 c3 (fun H locs z4 ez4 hr => ?_)
    replace h := zl_sub ez4 h
    clear ez4
    refine lv_aload_n F.1 F.2.1 dX19_dropBook_15 rfl (lv_at hl 0 rfl) ?_
    refine gf19_93 F hx0 hr dX19_dropBook_16 ?_
    refine lv_iload_n F.1 F.2.1 dX19_dropBook_19 rfl (lv_at hl 1 rfl) ?_
    replace h := zk_some h
    obtain ⟨c5, h⟩ := h
    refine zr_iald (k := 183) (by decide) rfl (by decide) F (zal_a F hx0 (j := 14) rfl) hr dX19_dropBook_20 c5 ?_
    refine lv_if_ne (tgt := 44) F.1 F.2.1 dX19_dropBook_21 (by decide) (fun c6 => ?_) (fun c6 => ?_)
    · replace h := zi_t c6 h
      obtain ⟨rfl, rfl⟩ := zret h
      exact E _ _ _ _ dX19_dropBook_44 trivial hr
    · replace h := zi_f (fun q => q c6) h
      refine lv_aload_n F.1 F.2.1 dX19_dropBook_24 rfl (lv_at hl 0 rfl) ?_
      refine gf19_87 F hx0 hr dX19_dropBook_25 ?_
      refine lv_aload_n F.1 F.2.1 dX19_dropBook_28 rfl (lv_at hl 0 rfl) ?_
      refine gf19_84 F hx0 hr dX19_dropBook_29 ?_
      refine lv_iload_n F.1 F.2.1 dX19_dropBook_32 rfl (lv_at hl 1 rfl) ?_
      replace h := zk_some h
      obtain ⟨c7, h⟩ := h
      refine zr_iast (k := 185) (by decide) rfl (by decide) F (zal_a F hx0 (j := 16) rfl) hr dX19_dropBook_33 c7 (fun H locs z8 ez8 hr => ?_)
      replace h := zl_sub ez8 h
      clear ez8
      refine lv_aload_n F.1 F.2.1 dX19_dropBook_34 rfl (lv_at hl 0 rfl) ?_
      refine lv_dup F.1 F.2.1 dX19_dropBook_35 rfl ?_
      refine gf19_84 F hx0 hr dX19_dropBook_36 ?_
      refine lv_iconst (v := (1 : Int32)) F.1 F.2.1 dX19_dropBook_39 (by decide) ?_
      refine lv_iadd F.1 F.2.1 dX19_dropBook_40 ?_
      refine pf19_84 F hx0 hr dX19_dropBook_41 ((zgI z8 19 17 x0) + (1 : Int32)) (fun H locs z9 ez9 hr => ?_)
      replace h := zl_sub ez9 h
      clear ez9
      obtain ⟨rfl, rfl⟩ := zret h
      exact E _ _ _ _ dX19_dropBook_44 trivial hr
end SX19_dropBook
set_option maxRecDepth 100000 in
theorem okX19_dropBook (l : Launch) (D : va_G) (cy : Nat → ClassId) (B : Nat → Nat → Nat) (ids : List (Nat × Nat)) (hst : zSt B ids) (N : Nat) (x0 : Nat) (hx0 : (19, x0) ∈ ids) (x1 : Int32) {z : St} {r : Int32} {z' : St} (hW : zWf ids z) (h : fX19_dropBook N x0 x1 z = some (r, z')) : zM l yX19_dropBook (zws yX19_dropBook cX19_dropBook 2 none) rmX19_dropBook D cy B ids [.ref (B 19 x0), .int x1] none True z z' :=
  zM_of hst hW (by decide +kernel) (Nat.le_of_ble_eq_true rfl) (fun p e s m args below meth c A ls F hA hret hlocks hr hl => bX19_dropBook_0 hst F hA (zEnd_v F hret hlocks) x0 x1 hx0 hr hl h)
