abbrev rmX9_draftAdvert : Room := { frames := 2, cells := 0, slots := 0, locals := 46 }
theorem hdX9_draftAdvert : yX9_draftAdvert.cls ≠ "java/lang/invoke/MethodHandle" ∧ yX9_draftAdvert.cls ≠ "java/lang/invoke/VarHandle" ∧ (parseMethodDescriptor yX9_draftAdvert.desc).map (fun d => d.parameters.length) = some 2 := by decide +kernel
theorem hroX9_draftAdvert_X0_addToDraft : rmX0_addToDraft.frames + 1 ≤ rmX9_draftAdvert.frames ∧ 8 + (4 + 11) + rmX0_addToDraft.locals ≤ rmX9_draftAdvert.locals := by decide
theorem hroX9_draftAdvert_X1_portOn : rmX1_portOn.frames + 1 ≤ rmX9_draftAdvert.frames ∧ 8 + (3 + 11) + rmX1_portOn.locals ≤ rmX9_draftAdvert.locals := by decide
theorem hroX9_draftAdvert_X9_draftFriends : rmX9_draftFriends.frames + 1 ≤ rmX9_draftAdvert.frames ∧ 8 + (4 + 11) + rmX9_draftFriends.locals ≤ rmX9_draftAdvert.locals := by decide
section SX9_draftAdvert
variable {p : Program} {l : Launch} {e : Env} {s : State} {m : MethodId} {args : Array Value} {below : List Frame} {meth : Method} {c : Code} {Q : State → Prop} {D : va_G} {cy : Nat → ClassId} {B : Nat → Nat → Nat} {ids : List (Nat × Nat)} {A : Nat → Prop}
def fX9_draftAdvert_52 (N : Nat) (K10 : Nat → Nat → Int32 → Int32 → St → Option (Int32 × St)) (x0 : Nat) (x1 : Nat) (x2 : Int32) (x3 : Int32) (z : St) : Option (Int32 × St) := zl (x3 + 1) fun v1 => K10 x0 x1 x2 v1 z
set_option maxHeartbeats 4000000 in
set_option maxRecDepth 100000 in
theorem bX9_draftAdvert_52 (hst : zSt B ids) (F : zFx p m c cX9_draftAdvert 5 s args RX9 D cy B ids A) (hA : ∀ q : Nat, s.heap.size ≤ q → A q) {r : Int32} {z' : St} (E : zEnd p l e rmX9_draftAdvert s m args below meth c cX9_draftAdvert D cy B ids A Q none z' .return_ True) {N : Nat} {K10 : Nat → Nat → Int32 → Int32 → St → Option (Int32 × St)} (hK10 : ∀ (x0 : Nat) (x1 : Nat) (x2 : Int32) (x3 : Int32) (hx0 : (9, x0) ∈ ids) (hx1 : (1, x1) ∈ ids) {z : St} {H : Heap} {locs : List Loc} {ls : Array Slot} (hr : zRep D cy B ids A s.heap z H locs) (hl : lv_has ls 5 [(0, .ref (B 9 x0)), (1, .ref (B 1 x1)), (2, .int x2), (3, .int x3)]), K10 x0 x1 x2 x3 z = some (r, z') → W p l e rmX9_draftAdvert s m args below meth c H locs 0 0 Q (F0 m 10 ls [])) (x0 : Nat) (x1 : Nat) (x2 : Int32) (x3 : Int32) (hx0 : (9, x0) ∈ ids) (hx1 : (1, x1) ∈ ids) {z : St} {H : Heap} {locs : List Loc} {ls : Array Slot} (hr : zRep D cy B ids A s.heap z H locs) (hl : lv_has ls 5 [(0, .ref (B 9 x0)), (1, .ref (B 1 x1)), (2, .int x2), (3, .int x3)]) (h : fX9_draftAdvert_52 N K10 x0 x1 x2 x3 z = some (r, z')) : W p l e rmX9_draftAdvert s m args below meth c H locs 0 0 Q (F0 m 52 ls []) := by
  unfold fX9_draftAdvert_52 at h
  obtain ⟨v1, ev1⟩ : ∃ y : Int32, y = (x3 + 1) := ⟨_, rfl⟩
  replace h := zl_sub ev1 h
  refine lv_iinc (v := v1) (lv' := [(3, .int v1), (0, .ref (B 9 x0)), (1, .ref (B 1 x1)), (2, .int x2)]) F.1 F.2.1 dX9_draftAdvert_52 hl (k := 3) rfl (by rw [ev1]; rfl) (by decide) rfl (fun ls hl => ?_)
  refine lv_goto (tgt := 10) F.1 F.2.1 dX9_draftAdvert_55 (by decide) ?_
  exact hK10 x0 x1 x2 v1 hx0 hx1 hr (lv_sub hl [1, 2, 3, 0] rfl) h
def fX9_draftAdvert_83 (N : Nat) (K60 : Nat → Nat → Int32 → Int32 → St → Option (Int32 × St)) (x0 : Nat) (x1 : Nat) (x2 : Int32) (x3 : Int32) (z : St) : Option (Int32 × St) := zl (x3 + 1) fun v1 => K60 x0 x1 x2 v1 z
set_option maxHeartbeats 4000000 in
set_option maxRecDepth 100000 in
theorem bX9_draftAdvert_83 (hst : zSt B ids) (F : zFx p m c cX9_draftAdvert 5 s args RX9 D cy B ids A) (hA : ∀ q : Nat, s.heap.size ≤ q → A q) {r : Int32} {z' : St} (E : zEnd p l e rmX9_draftAdvert s m args below meth c cX9_draftAdvert D cy B ids A Q none z' .return_ True) {N : Nat} {K60 : Nat → Nat → Int32 → Int32 → St → Option (Int32 × St)} (hK60 : ∀ (x0 : Nat) (x1 : Nat) (x2 : Int32) (x3 : Int32) (hx0 : (9, x0) ∈ ids) (hx1 : (1, x1) ∈ ids) {z : St} {H : Heap} {locs : List Loc} {ls : Array Slot} (hr : zRep D cy B ids A s.heap z H locs) (hl : lv_has ls 5 [(0, .ref (B 9 x0)), (1, .ref (B 1 x1)), (2, .int x2), (3, .int x3)]), K60 x0 x1 x2 x3 z = some (r, z') → W p l e rmX9_draftAdvert s m args below meth c H locs 0 0 Q (F0 m 60 ls [])) (x0 : Nat) (x1 : Nat) (x2 : Int32) (x3 : Int32) (hx0 : (9, x0) ∈ ids) (hx1 : (1, x1) ∈ ids) {z : St} {H : Heap} {locs : List Loc} {ls : Array Slot} (hr : zRep D cy B ids A s.heap z H locs) (hl : lv_has ls 5 [(0, .ref (B 9 x0)), (1, .ref (B 1 x1)), (2, .int x2), (3, .int x3)]) (h : fX9_draftAdvert_83 N K60 x0 x1 x2 x3 z = some (r, z')) : W p l e rmX9_draftAdvert s m args below meth c H locs 0 0 Q (F0 m 83 ls []) := by
  unfold fX9_draftAdvert_83 at h
  obtain ⟨v1, ev1⟩ : ∃ y : Int32, y = (x3 + 1) := ⟨_, rfl⟩
  replace h := zl_sub ev1 h
  refine lv_iinc (v := v1) (lv' := [(3, .int v1), (0, .ref (B 9 x0)), (1, .ref (B 1 x1)), (2, .int x2)]) F.1 F.2.1 dX9_draftAdvert_83 hl (k := 3) rfl (by rw [ev1]; rfl) (by decide) rfl (fun ls hl => ?_)
  refine lv_goto (tgt := 60) F.1 F.2.1 dX9_draftAdvert_86 (by decide) ?_
  exact hK60 x0 x1 x2 v1 hx0 hx1 hr (lv_sub hl [1, 2, 3, 0] rfl) h
def fX9_draftAdvert_60b (N : Nat) (K60 : Nat → Nat → Int32 → Int32 → St → Option (Int32 × St)) (x0 : Nat) (x1 : Nat) (x2 : Int32) (x3 : Int32) (z : St) : Option (Int32 × St) := if x2 ≤ x3 then (some (0, z)) else (zc (fX1_portOn N x1 x3 z) fun r2 z3 => zo r2 (fX9_draftAdvert_83 N K60 x0 x1 x2 x3 z3) fun a7 => zc (fX9_draftFriends N x0 a7 z3) fun _ z9 => fX9_draftAdvert_83 N K60 x0 x1 x2 x3 z9)
def fX9_draftAdvert_60 (N : Nat)  : Nat → Nat → Nat → Int32 → Int32 → St → Option (Int32 × St)
  | 0 => fun _ _ _ _ _ => none
  | n + 1 => fX9_draftAdvert_60b N (fX9_draftAdvert_60 N  n)
set_option maxHeartbeats 4000000 in
set_option maxRecDepth 100000 in
theorem bX9_draftAdvert_60 (hst : zSt B ids) (F : zFx p m c cX9_draftAdvert 5 s args RX9 D cy B ids A) (hA : ∀ q : Nat, s.heap.size ≤ q → A q) {r : Int32} {z' : St} (E : zEnd p l e rmX9_draftAdvert s m args below meth c cX9_draftAdvert D cy B ids A Q none z' .return_ True) {N : Nat} {K60 : Nat → Nat → Int32 → Int32 → St → Option (Int32 × St)} (hK60 : ∀ (x0 : Nat) (x1 : Nat) (x2 : Int32) (x3 : Int32) (hx0 : (9, x0) ∈ ids) (hx1 : (1, x1) ∈ ids) {z : St} {H : Heap} {locs : List Loc} {ls : Array Slot} (hr : zRep D cy B ids A s.heap z H locs) (hl : lv_has ls 5 [(0, .ref (B 9 x0)), (1, .ref (B 1 x1)), (2, .int x2), (3, .int x3)]), K60 x0 x1 x2 x3 z = some (r, z') → W p l e rmX9_draftAdvert s m args below meth c H locs 0 0 Q (F0 m 60 ls [])) (x0 : Nat) (x1 : Nat) (x2 : Int32) (x3 : Int32) (hx0 : (9, x0) ∈ ids) (hx1 : (1, x1) ∈ ids) {z : St} {H : Heap} {locs : List Loc} {ls : Array Slot} (hr : zRep D cy B ids A s.heap z H locs) (hl : lv_has ls 5 [(0, .ref (B 9 x0)), (1, .ref (B 1 x1)), (2, .int x2), (3, .int x3)]) (h : fX9_draftAdvert_60b N K60 x0 x1 x2 x3 z = some (r, z')) : W p l e rmX9_draftAdvert s m args below meth c H locs 0 0 Q (F0 m 60 ls []) := by
  unfold fX9_draftAdvert_60b at h
  refine lv_iload_n F.1 F.2.1 dX9_draftAdvert_60 rfl (lv_at hl 3 rfl) ?_
  refine lv_iload_n F.1 F.2.1 dX9_draftAdvert_61 rfl (lv_at hl 2 rfl) ?_
  refine lv_icmp_ge (tgt := 89) F.1 F.2.1 dX9_draftAdvert_62 (by decide) (fun c1 => ?_) (fun c1 => ?_)
  · replace h := zi_t c1 h
    obtain ⟨rfl, rfl⟩ := zret h
    exact E _ _ _ _ dX9_draftAdvert_89 trivial hr
  · replace h := zi_f c1 h
    refine lv_aload_n F.1 F.2.1 dX9_draftAdvert_65 rfl (lv_at hl 1 rfl) ?_
    refine lv_iload_n F.1 F.2.1 dX9_draftAdvert_66 rfl (lv_at hl 3 rfl) ?_
    replace h := zc_some h
    obtain ⟨r2, z3, hc4, h⟩ := h
    refine zr_callr (zrun_VN (As := [.int x3]) (rest := []) zn_1510 zq_295 zs_X1_portOn zq_297 zq_9 hdX1_portOn (by decide) (T := TX1) (N := 13) rfl (okX1_portOn l D cy B ids hst N x1 hx1 x3  hr.2.2 hc4) F hr hx1 hl.1 rfl (by decide) dX9_draftAdvert_67 rfl rfl hroX9_draftAdvert_X1_portOn ⟨Nat.zero_le _, Nat.zero_le _⟩) F hA hr (fun H locs hw5 hr => ?_)
    clear hc4
    refine zr_astore (lv' := [(4, va_rf (Option.map (B 8) r2)), (0, .ref (B 9 x0)), (1, .ref (B 1 x1)), (2, .int x2), (3, .int x3)]) F.1 F.2.1 dX9_draftAdvert_70 hl (by decide) rfl (fun ls hl => ?_)
    refine zr_aload F.1 F.2.1 dX9_draftAdvert_72 (lv_at hl 0 rfl) ?_
    refine zr_ifnull (tgt := 83) F.1 F.2.1 dX9_draftAdvert_74 (by decide) (fun e6 => ?_) (fun a7 e6 => ?_)
    · replace h := zo_n e6 h
      subst e6
      exact bX9_draftAdvert_83 hst F hA E hK60 x0 x1 x2 x3 hx0 hx1 hr (lv_sub hl [1, 2, 3, 4] rfl) h
    · replace h := zo_s e6 h
      subst e6
      refine lv_aload_n F.1 F.2.1 dX9_draftAdvert_77 rfl (lv_at hl 1 rfl) ?_
      refine lv_aload F.1 F.2.1 dX9_draftAdvert_78 (lv_at hl 0 rfl) ?_
      replace h := zc_some h
      obtain ⟨r8, z9, hc10, h⟩ := h
      refine zr_callv (zrun_V (As := [.ref (B 8 a7)]) (rest := []) zq_1512 zq_1514 zs_X9_draftFriends zq_1515 zq_10 hdX9_draftFriends (by decide) (T := TX9) (N := 13) rfl (okX9_draftFriends l D cy B ids hst N x0 hx0 a7 (hw5 _ rfl) hr.2.2 hc10) F hr hx0 hl.1 rfl (by decide) dX9_draftAdvert_80 rfl rfl hroX9_draftAdvert_X9_draftFriends ⟨Nat.zero_le _, Nat.zero_le _⟩) F hA hr (fun H locs hw11 hr => ?_)
      clear hc10
      exact bX9_draftAdvert_83 hst F hA E hK60 x0 x1 x2 x3 hx0 hx1 hr (lv_sub hl [1, 2, 3, 4] rfl) h
theorem lX9_draftAdvert_60 (hst : zSt B ids) (F : zFx p m c cX9_draftAdvert 5 s args RX9 D cy B ids A) (hA : ∀ q : Nat, s.heap.size ≤ q → A q) {r : Int32} {z' : St} (E : zEnd p l e rmX9_draftAdvert s m args below meth c cX9_draftAdvert D cy B ids A Q none z' .return_ True) {N : Nat}  : ∀ (n : Nat) (x0 : Nat) (x1 : Nat) (x2 : Int32) (x3 : Int32) (hx0 : (9, x0) ∈ ids) (hx1 : (1, x1) ∈ ids) {z : St} {H : Heap} {locs : List Loc} {ls : Array Slot} (hr : zRep D cy B ids A s.heap z H locs) (hl : lv_has ls 5 [(0, .ref (B 9 x0)), (1, .ref (B 1 x1)), (2, .int x2), (3, .int x3)]), fX9_draftAdvert_60 N  n x0 x1 x2 x3 z = some (r, z') → W p l e rmX9_draftAdvert s m args below meth c H locs 0 0 Q (F0 m 60 ls []) := by
  intro n
  induction n with
  | zero => intro x0 x1 x2 x3 hx0 hx1 z H locs ls hr hl h; cases h
  | succ n ih => intro x0 x1 x2 x3 hx0 hx1 z H locs ls hr hl h; exact bX9_draftAdvert_60 hst F hA E ih x0 x1 x2 x3 hx0 hx1 hr hl h
def fX9_draftAdvert_10b (N : Nat) (K10 : Nat → Nat → Int32 → Int32 → St → Option (Int32 × St)) (x0 : Nat) (x1 : Nat) (x2 : Int32) (x3 : Int32) (z : St) : Option (Int32 × St) := if x2 ≤ x3 then (fX9_draftAdvert_60 N N x0 x1 x2 (0 : Int32) z) else (zc (fX1_portOn N x1 x3 z) fun r2 z3 => zo r2 (fX9_draftAdvert_52 N K10 x0 x1 x2 x3 z3) fun a7 => zl (zgR z3 8 1 a7) fun y8 => zd y8 fun a9 => if (zgI z3 5 3 a9) = 0 then (fX9_draftAdvert_52 N K10 x0 x1 x2 x3 z3) else (zl (zgR z3 9 12 x0) fun y11 => zd y11 fun a12 => zc (fX0_addToDraft N a12 (0 : Int32) x3 (zgI z3 8 5 a7) z3) fun _ z14 => fX9_draftAdvert_52 N K10 x0 x1 x2 x3 z14))
def fX9_draftAdvert_10 (N : Nat)  : Nat → Nat → Nat → Int32 → Int32 → St → Option (Int32 × St)
  | 0 => fun _ _ _ _ _ => none
  | n + 1 => fX9_draftAdvert_10b N (fX9_draftAdvert_10 N  n)
set_option maxHeartbeats 4000000 in
set_option maxRecDepth 100000 in
theorem bX9_draftAdvert_10 (hst : zSt B ids) (F : zFx p m c cX9_draftAdvert 5 s args RX9 D cy B ids A) (hA : ∀ q : Nat, s.heap.size ≤ q → A q) {r : Int32} {z' : St} (E : zEnd p l e rmX9_draftAdvert s m args below meth c cX9_draftAdvert D cy B ids A Q none z' .return_ True) {N : Nat} {K10 : Nat → Nat → Int32 → Int32 → St → Option (Int32 × St)} (hK10 : ∀ (x0 : Nat) (x1 : Nat) (x2 : Int32) (x3 : Int32) (hx0 : (9, x0) ∈ ids) (hx1 : (1, x1) ∈ ids) {z : St} {H : Heap} {locs : List Loc} {ls : Array Slot} (hr : zRep D cy B ids A s.heap z H locs) (hl : lv_has ls 5 [(0, .ref (B 9 x0)), (1, .ref (B 1 x1)), (2, .int x2), (3, .int x3)]), K10 x0 x1 x2 x3 z = some (r, z') → W p l e rmX9_draftAdvert s m args below meth c H locs 0 0 Q (F0 m 10 ls [])) (x0 : Nat) (x1 : Nat) (x2 : Int32) (x3 : Int32) (hx0 : (9, x0) ∈ ids) (hx1 : (1, x1) ∈ ids) {z : St} {H : Heap} {locs : List Loc} {ls : Array Slot} (hr : zRep D cy B ids A s.heap z H locs) (hl : lv_has ls 5 [(0, .ref (B 9 x0)), (1, .ref (B 1 x1)), (2, .int x2), (3, .int x3)]) (h : fX9_draftAdvert_10b N K10 x0 x1 x2 x3 z = some (r, z')) : W p l e rmX9_draftAdvert s m args below meth c H locs 0 0 Q (F0 m 10 ls []) := by
  unfold fX9_draftAdvert_10b at h
  refine lv_iload_n F.1 F.2.1 dX9_draftAdvert_10 rfl (lv_at hl 3 rfl) ?_
  refine lv_iload_n F.1 F.2.1 dX9_draftAdvert_11 rfl (lv_at hl 2 rfl) ?_
  refine lv_icmp_ge (tgt := 58) F.1 F.2.1 dX9_draftAdvert_12 (by decide) (fun c1 => ?_) (fun c1 => ?_)
  · replace h := zi_t c1 h
    refine lv_iconst (v := (0 : Int32)) F.1 F.2.1 dX9_draftAdvert_58 (by decide) ?_
    refine lv_istore_n (lv' := [(3, .int (0 : Int32)), (0, .ref (B 9 x0)), (1, .ref (B 1 x1)), (2, .int x2)]) F.1 F.2.1 dX9_draftAdvert_59 rfl hl (by decide) rfl (fun ls hl => ?_)
    exact lX9_draftAdvert_60 hst F hA E  _ x0 x1 x2 (0 : Int32) hx0 hx1 hr (lv_sub hl [1, 2, 3, 0] rfl) h
  · replace h := zi_f c1 h
    refine lv_aload_n F.1 F.2.1 dX9_draftAdvert_15 rfl (lv_at hl 1 rfl) ?_
    refine lv_iload_n F.1 F.2.1 dX9_draftAdvert_16 rfl (lv_at hl 3 rfl) ?_
    replace h := zc_some h
    obtain ⟨r2, z3, hc4, h⟩ := h
    refine zr_callr (zrun_VN (As := [.int x3]) (rest := []) zn_1510 zq_295 zs_X1_portOn zq_297 zq_9 hdX1_portOn (by decide) (T := TX1) (N := 13) rfl (okX1_portOn l D cy B ids hst N x1 hx1 x3  hr.2.2 hc4) F hr hx1 hl.1 rfl (by decide) dX9_draftAdvert_17 rfl rfl hroX9_draftAdvert_X1_portOn ⟨Nat.zero_le _, Nat.zero_le _⟩) F hA hr (fun H locs hw5 hr => ?_)
    clear hc4
    refine zr_astore (lv' := [(4, va_rf (Option.map (B 8) r2)), (0, .ref (B 9 x0)), (1, .ref (B 1 x1)), (2, .int x2), (3, .int x3)]) F.1 F.2.1 dX9_draftAdvert_20 hl (by decide) rfl (fun ls hl => ?_)
    refine zr_aload F.1 F.2.1 dX9_draftAdvert_22 (lv_at hl 0 rfl) ?_
    refine zr_ifnull (tgt := 52) F.1 F.2.1 dX9_draftAdvert_24 (by decide) (fun e6 => ?_) (fun a7 e6 => ?_)
    · replace h := zo_n e6 h
      subst e6
      exact bX9_draftAdvert_52 hst F hA E hK10 x0 x1 x2 x3 hx0 hx1 hr (lv_sub hl [1, 2, 3, 4] rfl) h
    · replace h := zo_s e6 h
      subst e6
      refine lv_aload F.1 F.2.1 dX9_draftAdvert_27 (lv_at hl 0 rfl) ?_
      refine gf9_79 F (hw5 _ rfl) hr dX9_draftAdvert_29 (fun y8 ey8 => ?_)
      replace h := zl_sub ey8 h
      have hy8 := zal_g hr (hw5 _ rfl) (j := 1) rfl ey8
      clear ey8
      replace h := zd_some h
      obtain ⟨a9, rfl, h⟩ := h
      refine gf9_85 F (hy8 _ rfl) hr dX9_draftAdvert_32 ?_
      refine lv_if_eq (tgt := 52) F.1 F.2.1 dX9_draftAdvert_35 (by decide) (fun c10 => ?_) (fun c10 => ?_)
      · replace h := zi_t c10 h
        exact bX9_draftAdvert_52 hst F hA E hK10 x0 x1 x2 x3 hx0 hx1 hr (lv_sub hl [1, 2, 3, 4] rfl) h
      · replace h := zi_f c10 h
        refine lv_aload_n F.1 F.2.1 dX9_draftAdvert_38 rfl (lv_at hl 1 rfl) ?_
        refine gf9_45 F hx0 hr dX9_draftAdvert_39 (fun y11 ey11 => ?_)
        replace h := zl_sub ey11 h
        have hy11 := zal_g hr hx0 (j := 12) rfl ey11
        clear ey11
        refine lv_iconst (v := (0 : Int32)) F.1 F.2.1 dX9_draftAdvert_42 (by decide) ?_
        refine lv_iload_n F.1 F.2.1 dX9_draftAdvert_43 rfl (lv_at hl 4 rfl) ?_
        refine lv_aload F.1 F.2.1 dX9_draftAdvert_44 (lv_at hl 0 rfl) ?_
        refine gf9_90 F (hw5 _ rfl) hr dX9_draftAdvert_46 ?_
        replace h := zd_some h
        obtain ⟨a12, rfl, h⟩ := h
        replace h := zc_some h
        obtain ⟨r13, z14, hc15, h⟩ := h
        refine zr_callv (zrun_VN (As := [.int (0 : Int32), .int x3, .int (zgI z3 8 5 a7)]) (rest := []) zn_1511 zq_1197 zs_X0_addToDraft zq_1198 zq_11 hdX0_addToDraft (by decide) (T := TX0) (N := 16) rfl (okX0_addToDraft l D cy B ids hst N a12 (hy11 _ rfl) (0 : Int32)  x3  (zgI z3 8 5 a7)  hr.2.2 hc15) F hr (hy11 _ rfl) hl.1 rfl (by decide) dX9_draftAdvert_49 rfl rfl hroX9_draftAdvert_X0_addToDraft ⟨Nat.zero_le _, Nat.zero_le _⟩) F hA hr (fun H locs hw16 hr => ?_)
        clear hc15
        exact bX9_draftAdvert_52 hst F hA E hK10 x0 x1 x2 x3 hx0 hx1 hr (lv_sub hl [1, 2, 3, 4] rfl) h
theorem lX9_draftAdvert_10 (hst : zSt B ids) (F : zFx p m c cX9_draftAdvert 5 s args RX9 D cy B ids A) (hA : ∀ q : Nat, s.heap.size ≤ q → A q) {r : Int32} {z' : St} (E : zEnd p l e rmX9_draftAdvert s m args below meth c cX9_draftAdvert D cy B ids A Q none z' .return_ True) {N : Nat}  : ∀ (n : Nat) (x0 : Nat) (x1 : Nat) (x2 : Int32) (x3 : Int32) (hx0 : (9, x0) ∈ ids) (hx1 : (1, x1) ∈ ids) {z : St} {H : Heap} {locs : List Loc} {ls : Array Slot} (hr : zRep D cy B ids A s.heap z H locs) (hl : lv_has ls 5 [(0, .ref (B 9 x0)), (1, .ref (B 1 x1)), (2, .int x2), (3, .int x3)]), fX9_draftAdvert_10 N  n x0 x1 x2 x3 z = some (r, z') → W p l e rmX9_draftAdvert s m args below meth c H locs 0 0 Q (F0 m 10 ls []) := by
  intro n
  induction n with
  | zero => intro x0 x1 x2 x3 hx0 hx1 z H locs ls hr hl h; cases h
  | succ n ih => intro x0 x1 x2 x3 hx0 hx1 z H locs ls hr hl h; exact bX9_draftAdvert_10 hst F hA E ih x0 x1 x2 x3 hx0 hx1 hr hl h
def fX9_draftAdvert (N : Nat)  (x0 : Nat) (x1 : Nat) (x2 : Int32) (z : St) : Option (Int32 × St) := zl (zgR z 9 12 x0) fun y1 => zd y1 fun a2 => zl (zsI z 0 6 a2 (0 : Int32)) fun z3 => fX9_draftAdvert_10 N N x0 x1 x2 (0 : Int32) z3
set_option maxHeartbeats 4000000 in
set_option maxRecDepth 100000 in
theorem bX9_draftAdvert_0 (hst : zSt B ids) (F : zFx p m c cX9_draftAdvert 5 s args RX9 D cy B ids A) (hA : ∀ q : Nat, s.heap.size ≤ q → A q) {r : Int32} {z' : St} (E : zEnd p l e rmX9_draftAdvert s m args below meth c cX9_draftAdvert D cy B ids A Q none z' .return_ True) {N : Nat}  (x0 : Nat) (x1 : Nat) (x2 : Int32) (hx0 : (9, x0) ∈ ids) (hx1 : (1, x1) ∈ ids) {z : St} {H : Heap} {locs : List Loc} {ls : Array Slot} (hr : zRep D cy B ids A s.heap z H locs) (hl : lv_has ls 5 [(0, .ref (B 9 x0)), (1, .ref (B 1 x1)), (2, .int x2)]) (h : fX9_draftAdvert N x0 x1 x2 z = some (r, z')) : W p l e rmX9_draftAdvert s m args below meth c H locs 0 0 Q (F0 m 0 ls []) := by
  unfold fX9_draftAdvert at h
  refine lv_aload_n F.1 F.2.1 dX9_draftAdvert_0 rfl (lv_at hl 0 rfl) ?_
  refine gf9_45 F hx0 hr dX9_draftAdvert_1 (fun y1 ey1 => ?_)
  replace h := zl_sub ey1 h
  have hy1 := zal_g hr hx0 (j := 12) rfl ey1
  clear ey1
  refine lv_iconst (v := (0 : Int32)) F.1 F.2.1 dX9_draftAdvert_4 (by decide) ?_
  replace h := zd_some h
  obtain ⟨a2, rfl, h⟩ := h
  refine pf9_70 F (hy1 _ rfl) hr dX9_draftAdvert_5 (0 : Int32) (fun H locs z3 ez3 hr => ?_)
  replace h := zl_sub ez3 h
  clear ez3
  refine lv_iconst (v := (0 : Int32)) F.1 F.2.1 dX9_draftAdvert_8 (by decide) ?_
  refine lv_istore_n (lv' := [(3, .int (0 : Int32)), (0, .ref (B 9 x0)), (1, .ref (B 1 x1)), (2, .int x2)]) F.1 F.2.1 dX9_draftAdvert_9 rfl hl (by decide) rfl (fun ls hl => ?_)
  exact lX9_draftAdvert_10 hst F hA E  _ x0 x1 x2 (0 : Int32) hx0 hx1 hr (lv_sub hl [1, 2, 3, 0] rfl) h
end SX9_draftAdvert
set_option maxRecDepth 100000 in
theorem okX9_draftAdvert (l : Launch) (D : va_G) (cy : Nat → ClassId) (B : Nat → Nat → Nat) (ids : List (Nat × Nat)) (hst : zSt B ids) (N : Nat) (x0 : Nat) (hx0 : (9, x0) ∈ ids) (x1 : Nat) (hx1 : (1, x1) ∈ ids) (x2 : Int32) {z : St} {r : Int32} {z' : St} (hW : zWf ids z) (h : fX9_draftAdvert N x0 x1 x2 z = some (r, z')) : zM l yX9_draftAdvert (zws yX9_draftAdvert cX9_draftAdvert 5 none) rmX9_draftAdvert D cy B ids [.ref (B 9 x0), .ref (B 1 x1), .int x2] none True z z' :=
  zM_of hst hW (by decide +kernel) (Nat.le_of_ble_eq_true rfl) (fun p e s m args below meth c A ls F hA hret hlocks hr hl => bX9_draftAdvert_0 hst F hA (zEnd_v F hret hlocks) x0 x1 x2 hx0 hx1 hr hl h)
abbrev rmX11_underWay : Room := { frames := 0, cells := 0, slots := 0, locals := 0 }
theorem hdX11_underWay : yX11_underWay.cls ≠ "java/lang/invoke/MethodHandle" ∧ yX11_underWay.cls ≠ "java/lang/invoke/VarHandle" ∧ (parseMethodDescriptor yX11_underWay.desc).map (fun d => d.parameters.length) = some 0 := by decide +kernel
section SX11_underWay
variable {p : Program} {l : Launch} {e : Env} {s : State} {m : MethodId} {args : Array Value} {below : List Frame} {meth : Method} {c : Code} {Q : State → Prop} {D : va_G} {cy : Nat → ClassId} {B : Nat → Nat → Nat} {ids : List (Nat × Nat)} {A : Nat → Prop}
def fX11_underWay (N : Nat)  (x0 : Nat) (z : St) : Option (Int32 × St) := some ((zgI z 11 12 x0), z)
set_option maxHeartbeats 4000000 in
set_option maxRecDepth 100000 in
theorem bX11_underWay_0 (hst : zSt B ids) (F : zFx p m c cX11_underWay 1 s args RX11 D cy B ids A) (hA : ∀ q : Nat, s.heap.size ≤ q → A q) {r : Int32} {z' : St} (E : zEnd p l e rmX11_underWay s m args below meth c cX11_underWay D cy B ids A Q (some (.int r)) z' .ireturn True) {N : Nat}  (x0 : Nat) (hx0 : (11, x0) ∈ ids) {z : St} {H : Heap} {locs : List Loc} {ls : Array Slot} (hr : zRep D cy B ids A s.heap z H locs) (hl : lv_has ls 1 [(0, .ref (B 11 x0))]) (h : fX11_underWay N x0 z = some (r, z')) : W p l e rmX11_underWay s m args below meth c H locs 0 0 Q (F0 m 0 ls []) := by
  unfold fX11_underWay at h
  refine lv_aload_n F.1 F.2.1 dX11_underWay_0 rfl (lv_at hl 0 rfl) ?_
  refine gf11_442 F hx0 hr dX11_underWay_1 ?_
  obtain ⟨rfl, rfl⟩ := zret h
  exact E _ _ _ _ dX11_underWay_4 trivial hr
end SX11_underWay
set_option maxRecDepth 100000 in
theorem okX11_underWay (l : Launch) (D : va_G) (cy : Nat → ClassId) (B : Nat → Nat → Nat) (ids : List (Nat × Nat)) (hst : zSt B ids) (N : Nat) (x0 : Nat) (hx0 : (11, x0) ∈ ids) {z : St} {r : Int32} {z' : St} (hW : zWf ids z) (h : fX11_underWay N x0 z = some (r, z')) : zM l yX11_underWay (zws yX11_underWay cX11_underWay 1 (some .int)) rmX11_underWay D cy B ids [.ref (B 11 x0)] (some (.int r)) True z z' :=
  zM_of hst hW (by decide +kernel) (Nat.le_of_ble_eq_true rfl) (fun p e s m args below meth c A ls F hA hret hlocks hr hl => bX11_underWay_0 hst F hA (zEnd_i F hret hlocks) x0 hx0 hr hl h)
abbrev rmX11_time : Room := { frames := 0, cells := 0, slots := 0, locals := 0 }
theorem hdX11_time : yX11_time.cls ≠ "java/lang/invoke/MethodHandle" ∧ yX11_time.cls ≠ "java/lang/invoke/VarHandle" ∧ (parseMethodDescriptor yX11_time.desc).map (fun d => d.parameters.length) = some 0 := by decide +kernel
section SX11_time
variable {p : Program} {l : Launch} {e : Env} {s : State} {m : MethodId} {args : Array Value} {below : List Frame} {meth : Method} {c : Code} {Q : State → Prop} {D : va_G} {cy : Nat → ClassId} {B : Nat → Nat → Nat} {ids : List (Nat × Nat)} {A : Nat → Prop}
def fX11_time (N : Nat)  (x0 : Nat) (z : St) : Option (Int32 × St) := some ((zgI z 11 4 x0), z)
set_option maxHeartbeats 4000000 in
set_option maxRecDepth 100000 in
theorem bX11_time_0 (hst : zSt B ids) (F : zFx p m c cX11_time 1 s args RX11 D cy B ids A) (hA : ∀ q : Nat, s.heap.size ≤ q → A q) {r : Int32} {z' : St} (E : zEnd p l e rmX11_time s m args below meth c cX11_time D cy B ids A Q (some (.int r)) z' .ireturn True) {N : Nat}  (x0 : Nat) (hx0 : (11, x0) ∈ ids) {z : St} {H : Heap} {locs : List Loc} {ls : Array Slot} (hr : zRep D cy B ids A s.heap z H locs) (hl : lv_has ls 1 [(0, .ref (B 11 x0))]) (h : fX11_time N x0 z = some (r, z')) : W p l e rmX11_time s m args below meth c H locs 0 0 Q (F0 m 0 ls []) := by
  unfold fX11_time at h
  refine lv_aload_n F.1 F.2.1 dX11_time_0 rfl (lv_at hl 0 rfl) ?_
  refine gf11_176 F hx0 hr dX11_time_1 ?_
  obtain ⟨rfl, rfl⟩ := zret h
  exact E _ _ _ _ dX11_time_4 trivial hr
end SX11_time
set_option maxRecDepth 100000 in
theorem okX11_time (l : Launch) (D : va_G) (cy : Nat → ClassId) (B : Nat → Nat → Nat) (ids : List (Nat × Nat)) (hst : zSt B ids) (N : Nat) (x0 : Nat) (hx0 : (11, x0) ∈ ids) {z : St} {r : Int32} {z' : St} (hW : zWf ids z) (h : fX11_time N x0 z = some (r, z')) : zM l yX11_time (zws yX11_time cX11_time 1 (some .int)) rmX11_time D cy B ids [.ref (B 11 x0)] (some (.int r)) True z z' :=
  zM_of hst hW (by decide +kernel) (Nat.le_of_ble_eq_true rfl) (fun p e s m args below meth c A ls F hA hret hlocks hr hl => bX11_time_0 hst F hA (zEnd_i F hret hlocks) x0 hx0 hr hl h)
abbrev rmX11_calmBound : Room := { frames := 1, cells := 0, slots := 0, locals := 60 }
theorem hdX11_calmBound : yX11_calmBound.cls ≠ "java/lang/invoke/MethodHandle" ∧ yX11_calmBound.cls ≠ "java/lang/invoke/VarHandle" ∧ (parseMethodDescriptor yX11_calmBound.desc).map (fun d => d.parameters.length) = some 0 := by decide +kernel
section SX11_calmBound
variable {p : Program} {l : Launch} {e : Env} {s : State} {m : MethodId} {args : Array Value} {below : List Frame} {meth : Method} {c : Code} {Q : State → Prop} {D : va_G} {cy : Nat → ClassId} {B : Nat → Nat → Nat} {ids : List (Nat × Nat)} {A : Nat → Prop}
def fX11_calmBound_4b (N : Nat) (K4 : Nat → Int32 → Int32 → St → Option (Int32 × St)) (x0 : Nat) (x1 : Int32) (x2 : Int32) (z : St) : Option (Int32 × St) := if (zgI z 11 1 x0) ≤ x2 then (some (((((100 : Int32) + ((4 : Int32) * x1)) + ((2 : Int32) * ((11 : Int32) + ((zgI z 11 3 x0) * ((17 : Int32) + ((3 : Int32) * x1)))))) + ((40 : Int32) * ((1200 : Int32) + (((6 : Int32) * ((zgI z 11 3 x0) + (2 : Int32))) * x1)))), z)) else (zk x2 24 <| zl (zgQ z 139 x0 (Int32.toNatClampNeg x2)) fun y3 => zd y3 fun a4 => zl (if x1 < (zgI z 5 2 a4) then (zgI z 5 2 a4) else x1) fun v5 => zl (x2 + 1) fun v6 => K4 x0 v5 v6 z)
def fX11_calmBound_4 (N : Nat)  : Nat → Nat → Int32 → Int32 → St → Option (Int32 × St)
  | 0 => fun _ _ _ _ => none
  | n + 1 => fX11_calmBound_4b N (fX11_calmBound_4 N  n)
set_option maxHeartbeats 4000000 in
set_option maxRecDepth 100000 in
theorem bX11_calmBound_4 (hst : zSt B ids) (F : zFx p m c cX11_calmBound 3 s args RX11 D cy B ids A) (hA : ∀ q : Nat, s.heap.size ≤ q → A q) {r : Int32} {z' : St} (E : zEnd p l e rmX11_calmBound s m args below meth c cX11_calmBound D cy B ids A Q (some (.int r)) z' .ireturn True) {N : Nat} {K4 : Nat → Int32 → Int32 → St → Option (Int32 × St)} (hK4 : ∀ (x0 : Nat) (x1 : Int32) (x2 : Int32) (hx0 : (11, x0) ∈ ids) {z : St} {H : Heap} {locs : List Loc} {ls : Array Slot} (hr : zRep D cy B ids A s.heap z H locs) (hl : lv_has ls 3 [(0, .ref (B 11 x0)), (1, .int x1), (2, .int x2)]), K4 x0 x1 x2 z = some (r, z') → W p l e rmX11_calmBound s m args below meth c H locs 0 0 Q (F0 m 4 ls [])) (x0 : Nat) (x1 : Int32) (x2 : Int32) (hx0 : (11, x0) ∈ ids) {z : St} {H : Heap} {locs : List Loc} {ls : Array Slot} (hr : zRep D cy B ids A s.heap z H locs) (hl : lv_has ls 3 [(0, .ref (B 11 x0)), (1, .int x1), (2, .int x2)]) (h : fX11_calmBound_4b N K4 x0 x1 x2 z = some (r, z')) : W p l e rmX11_calmBound s m args below meth c H locs 0 0 Q (F0 m 4 ls []) := by
  unfold fX11_calmBound_4b at h
  refine lv_iload_n F.1 F.2.1 dX11_calmBound_4 rfl (lv_at hl 2 rfl) ?_
  refine lv_aload_n F.1 F.2.1 dX11_calmBound_5 rfl (lv_at hl 0 rfl) ?_
  refine gf11_85 F hx0 hr dX11_calmBound_6 ?_
  refine lv_icmp_ge (tgt := 32) F.1 F.2.1 dX11_calmBound_9 (by decide) (fun c1 => ?_) (fun c1 => ?_)
  · replace h := zi_t c1 h
    refine lv_bipush (v := (100 : Int32)) F.1 F.2.1 dX11_calmBound_32 (by decide) ?_
    refine lv_iconst (v := (4 : Int32)) F.1 F.2.1 dX11_calmBound_34 (by decide) ?_
    refine lv_iload_n F.1 F.2.1 dX11_calmBound_35 rfl (lv_at hl 1 rfl) ?_
    refine lv_imul F.1 F.2.1 dX11_calmBound_36 ?_
    refine lv_iadd F.1 F.2.1 dX11_calmBound_37 ?_
    refine lv_iconst (v := (2 : Int32)) F.1 F.2.1 dX11_calmBound_38 (by decide) ?_
    refine lv_bipush (v := (11 : Int32)) F.1 F.2.1 dX11_calmBound_39 (by decide) ?_
    refine lv_aload_n F.1 F.2.1 dX11_calmBound_41 rfl (lv_at hl 0 rfl) ?_
    refine gf11_61 F hx0 hr dX11_calmBound_42 ?_
    refine lv_bipush (v := (17 : Int32)) F.1 F.2.1 dX11_calmBound_45 (by decide) ?_
    refine lv_iconst (v := (3 : Int32)) F.1 F.2.1 dX11_calmBound_47 (by decide) ?_
    refine lv_iload_n F.1 F.2.1 dX11_calmBound_48 rfl (lv_at hl 1 rfl) ?_
    refine lv_imul F.1 F.2.1 dX11_calmBound_49 ?_
    refine lv_iadd F.1 F.2.1 dX11_calmBound_50 ?_
    refine lv_imul F.1 F.2.1 dX11_calmBound_51 ?_
    refine lv_iadd F.1 F.2.1 dX11_calmBound_52 ?_
    refine lv_imul F.1 F.2.1 dX11_calmBound_53 ?_
    refine lv_iadd F.1 F.2.1 dX11_calmBound_54 ?_
    refine lv_bipush (v := (40 : Int32)) F.1 F.2.1 dX11_calmBound_55 (by decide) ?_
    refine lv_sipush (v := (1200 : Int32)) F.1 F.2.1 dX11_calmBound_57 (by decide) ?_
    refine lv_bipush (v := (6 : Int32)) F.1 F.2.1 dX11_calmBound_60 (by decide) ?_
    refine lv_aload_n F.1 F.2.1 dX11_calmBound_62 rfl (lv_at hl 0 rfl) ?_
    refine gf11_61 F hx0 hr dX11_calmBound_63 ?_
    refine lv_iconst (v := (2 : Int32)) F.1 F.2.1 dX11_calmBound_66 (by decide) ?_
    refine lv_iadd F.1 F.2.1 dX11_calmBound_67 ?_
    refine lv_imul F.1 F.2.1 dX11_calmBound_68 ?_
    refine lv_iload_n F.1 F.2.1 dX11_calmBound_69 rfl (lv_at hl 1 rfl) ?_
    refine lv_imul F.1 F.2.1 dX11_calmBound_70 ?_
    refine lv_iadd F.1 F.2.1 dX11_calmBound_71 ?_
    refine lv_imul F.1 F.2.1 dX11_calmBound_72 ?_
    refine lv_iadd F.1 F.2.1 dX11_calmBound_73 ?_
    obtain ⟨rfl, rfl⟩ := zret h
    exact E _ _ _ _ dX11_calmBound_74 trivial hr
  · replace h := zi_f c1 h
    refine lv_iload_n F.1 F.2.1 dX11_calmBound_12 rfl (lv_at hl 1 rfl) ?_
    refine lv_aload_n F.1 F.2.1 dX11_calmBound_13 rfl (lv_at hl 0 rfl) ?_
    refine gf11_11 F hx0 hr dX11_calmBound_14 ?_
    refine lv_iload_n F.1 F.2.1 dX11_calmBound_17 rfl (lv_at hl 2 rfl) ?_
    replace h := zk_some h
    obtain ⟨c2, h⟩ := h
    refine zr_aaldv (k := 139) (by decide) rfl rfl (zlen_d (by decide)) F (zal_a F hx0 (j := 0) rfl) hr dX11_calmBound_18 c2 (fun y3 ey3 => ?_)
    replace h := zl_sub ey3 h
    have hy3 := zal_q hr (zal_a F hx0 (j := 0) rfl) rfl ey3
    clear ey3
    replace h := zd_some h
    obtain ⟨a4, rfl, h⟩ := h
    refine gf11_93 F (hy3 _ rfl) hr dX11_calmBound_19 ?_
    refine va_mmax F.1 F.2.1 (F.2.2.1.trans hl.1.symm) F.2.2.2.1 (F.2.2.2.2.1 _ zq_274) (F.2.2.2.2.1 _ zq_275) (F.2.2.2.2.1 _ zq_27) (F.2.2.2.2.1 _ zq_276) (Nat.le_of_ble_eq_true rfl) (Nat.le_of_ble_eq_true rfl) (Nat.zero_le _) (Nat.zero_le _) dX11_calmBound_22 ?_
    refine lv_topi (fun v5 ev5 => ?_)
    replace h := zl_sub ev5 h
    refine lv_istore_n (lv' := [(1, .int v5), (0, .ref (B 11 x0)), (2, .int x2)]) F.1 F.2.1 dX11_calmBound_25 rfl hl (by decide) rfl (fun ls hl => ?_)
    obtain ⟨v6, ev6⟩ : ∃ y : Int32, y = (x2 + 1) := ⟨_, rfl⟩
    replace h := zl_sub ev6 h
    refine lv_iinc (v := v6) (lv' := [(2, .int v6), (1, .int v5), (0, .ref (B 11 x0))]) F.1 F.2.1 dX11_calmBound_26 hl (k := 2) rfl (by rw [ev6]; rfl) (by decide) rfl (fun ls hl => ?_)
    refine lv_goto (tgt := 4) F.1 F.2.1 dX11_calmBound_29 (by decide) ?_
    exact hK4 x0 v5 v6 hx0 hr (lv_sub hl [2, 1, 0] rfl) h
theorem lX11_calmBound_4 (hst : zSt B ids) (F : zFx p m c cX11_calmBound 3 s args RX11 D cy B ids A) (hA : ∀ q : Nat, s.heap.size ≤ q → A q) {r : Int32} {z' : St} (E : zEnd p l e rmX11_calmBound s m args below meth c cX11_calmBound D cy B ids A Q (some (.int r)) z' .ireturn True) {N : Nat}  : ∀ (n : Nat) (x0 : Nat) (x1 : Int32) (x2 : Int32) (hx0 : (11, x0) ∈ ids) {z : St} {H : Heap} {locs : List Loc} {ls : Array Slot} (hr : zRep D cy B ids A s.heap z H locs) (hl : lv_has ls 3 [(0, .ref (B 11 x0)), (1, .int x1), (2, .int x2)]), fX11_calmBound_4 N  n x0 x1 x2 z = some (r, z') → W p l e rmX11_calmBound s m args below meth c H locs 0 0 Q (F0 m 4 ls []) := by
  intro n
  induction n with
  | zero => intro x0 x1 x2 hx0 z H locs ls hr hl h; cases h
  | succ n ih => intro x0 x1 x2 hx0 z H locs ls hr hl h; exact bX11_calmBound_4 hst F hA E ih x0 x1 x2 hx0 hr hl h
def fX11_calmBound (N : Nat)  (x0 : Nat) (z : St) : Option (Int32 × St) := fX11_calmBound_4 N N x0 (1 : Int32) (0 : Int32) z
set_option maxHeartbeats 4000000 in
set_option maxRecDepth 100000 in
theorem bX11_calmBound_0 (hst : zSt B ids) (F : zFx p m c cX11_calmBound 3 s args RX11 D cy B ids A) (hA : ∀ q : Nat, s.heap.size ≤ q → A q) {r : Int32} {z' : St} (E : zEnd p l e rmX11_calmBound s m args below meth c cX11_calmBound D cy B ids A Q (some (.int r)) z' .ireturn True) {N : Nat}  (x0 : Nat) (hx0 : (11, x0) ∈ ids) {z : St} {H : Heap} {locs : List Loc} {ls : Array Slot} (hr : zRep D cy B ids A s.heap z H locs) (hl : lv_has ls 3 [(0, .ref (B 11 x0))]) (h : fX11_calmBound N x0 z = some (r, z')) : W p l e rmX11_calmBound s m args below meth c H locs 0 0 Q (F0 m 0 ls []) := by
  unfold fX11_calmBound at h
  refine lv_iconst (v := (1 : Int32)) F.1 F.2.1 dX11_calmBound_0 (by decide) ?_
  refine lv_istore_n (lv' := [(1, .int (1 : Int32)), (0, .ref (B 11 x0))]) F.1 F.2.1 dX11_calmBound_1 rfl hl (by decide) rfl (fun ls hl => ?_)
  refine lv_iconst (v := (0 : Int32)) F.1 F.2.1 dX11_calmBound_2 (by decide) ?_
  refine lv_istore_n (lv' := [(2, .int (0 : Int32)), (1, .int (1 : Int32)), (0, .ref (B 11 x0))]) F.1 F.2.1 dX11_calmBound_3 rfl hl (by decide) rfl (fun ls hl => ?_)
  exact lX11_calmBound_4 hst F hA E  _ x0 (1 : Int32) (0 : Int32) hx0 hr (lv_sub hl [2, 1, 0] rfl) h
end SX11_calmBound
set_option maxRecDepth 100000 in
theorem okX11_calmBound (l : Launch) (D : va_G) (cy : Nat → ClassId) (B : Nat → Nat → Nat) (ids : List (Nat × Nat)) (hst : zSt B ids) (N : Nat) (x0 : Nat) (hx0 : (11, x0) ∈ ids) {z : St} {r : Int32} {z' : St} (hW : zWf ids z) (h : fX11_calmBound N x0 z = some (r, z')) : zM l yX11_calmBound (zws yX11_calmBound cX11_calmBound 3 (some .int)) rmX11_calmBound D cy B ids [.ref (B 11 x0)] (some (.int r)) True z z' :=
  zM_of hst hW (by decide +kernel) (Nat.le_of_ble_eq_true rfl) (fun p e s m args below meth c A ls F hA hret hlocks hr hl => bX11_calmBound_0 hst F hA (zEnd_i F hret hlocks) x0 hx0 hr hl h)
abbrev rmX11_bound : Room := { frames := 2, cells := 0, slots := 0, locals := 82 }
theorem hdX11_bound : yX11_bound.cls ≠ "java/lang/invoke/MethodHandle" ∧ yX11_bound.cls ≠ "java/lang/invoke/VarHandle" ∧ (parseMethodDescriptor yX11_bound.desc).map (fun d => d.parameters.length) = some 0 := by decide +kernel
theorem hroX11_bound_X11_calmBound : rmX11_calmBound.frames + 1 ≤ rmX11_bound.frames ∧ 8 + (3 + 11) + rmX11_calmBound.locals ≤ rmX11_bound.locals := by decide
section SX11_bound
variable {p : Program} {l : Launch} {e : Env} {s : State} {m : MethodId} {args : Array Value} {below : List Frame} {meth : Method} {c : Code} {Q : State → Prop} {D : va_G} {cy : Nat → ClassId} {B : Nat → Nat → Nat} {ids : List (Nat × Nat)} {A : Nat → Prop}
def fX11_bound (N : Nat)  (x0 : Nat) (z : St) : Option (Int32 × St) := zc (fX11_calmBound N x0 z) fun r1 z2 => some (r1, z2)
set_option maxHeartbeats 4000000 in
set_option maxRecDepth 100000 in
theorem bX11_bound_0 (hst : zSt B ids) (F : zFx p m c cX11_bound 1 s args RX11 D cy B ids A) (hA : ∀ q : Nat, s.heap.size ≤ q → A q) {r : Int32} {z' : St} (E : zEnd p l e rmX11_bound s m args below meth c cX11_bound D cy B ids A Q (some (.int r)) z' .ireturn True) {N : Nat}  (x0 : Nat) (hx0 : (11, x0) ∈ ids) {z : St} {H : Heap} {locs : List Loc} {ls : Array Slot} (hr : zRep D cy B ids A s.heap z H locs) (hl : lv_has ls 1 [(0, .ref (B 11 x0))]) (h : fX11_bound N x0 z = some (r, z')) : W p l e rmX11_bound s m args below meth c H locs 0 0 Q (F0 m 0 ls []) := by
  unfold fX11_bound at h
  refine lv_aload_n F.1 F.2.1 dX11_bound_0 rfl (lv_at hl 0 rfl) ?_
  replace h := zc_some h
  obtain ⟨r1, z2, hc3, h⟩ := h
  refine zr_calli (zrun_V (As := []) (rest := []) zq_270 zq_272 zs_X11_calmBound zq_273 zq_1 hdX11_calmBound (by decide) (T := TX11) (N := 21) rfl (okX11_calmBound l D cy B ids hst N x0 hx0 hr.2.2 hc3) F hr hx0 hl.1 rfl (by decide) dX11_bound_1 rfl rfl hroX11_bound_X11_calmBound ⟨Nat.zero_le _, Nat.zero_le _⟩) F hA hr (fun H locs hw4 hr => ?_)
  clear hc3
  obtain ⟨rfl, rfl⟩ := zret h
  exact E _ _ _ _ dX11_bound_4 trivial hr
end SX11_bound
set_option maxRecDepth 100000 in
theorem okX11_bound (l : Launch) (D : va_G) (cy : Nat → ClassId) (B : Nat → Nat → Nat) (ids : List (Nat × Nat)) (hst : zSt B ids) (N : Nat) (x0 : Nat) (hx0 : (11, x0) ∈ ids) {z : St} {r : Int32} {z' : St} (hW : zWf ids z) (h : fX11_bound N x0 z = some (r, z')) : zM l yX11_bound (zws yX11_bound cX11_bound 1 (some .int)) rmX11_bound D cy B ids [.ref (B 11 x0)] (some (.int r)) True z z' :=
  zM_of hst hW (by decide +kernel) (Nat.le_of_ble_eq_true rfl) (fun p e s m args below meth c A ls F hA hret hlocks hr hl => bX11_bound_0 hst F hA (zEnd_i F hret hlocks) x0 hx0 hr hl h)
abbrev rmX11_strays : Room := { frames := 0, cells := 0, slots := 0, locals := 0 }
theorem hdX11_strays : yX11_strays.cls ≠ "java/lang/invoke/MethodHandle" ∧ yX11_strays.cls ≠ "java/lang/invoke/VarHandle" ∧ (parseMethodDescriptor yX11_strays.desc).map (fun d => d.parameters.length) = some 0 := by decide +kernel
section SX11_strays
variable {p : Program} {l : Launch} {e : Env} {s : State} {m : MethodId} {args : Array Value} {below : List Frame} {meth : Method} {c : Code} {Q : State → Prop} {D : va_G} {cy : Nat → ClassId} {B : Nat → Nat → Nat} {ids : List (Nat × Nat)} {A : Nat → Prop}
def fX11_strays (N : Nat)  (x0 : Nat) (z : St) : Option (Int32 × St) := some ((zgI z 11 8 x0), z)
set_option maxHeartbeats 4000000 in
set_option maxRecDepth 100000 in
theorem bX11_strays_0 (hst : zSt B ids) (F : zFx p m c cX11_strays 1 s args RX11 D cy B ids A) (hA : ∀ q : Nat, s.heap.size ≤ q → A q) {r : Int32} {z' : St} (E : zEnd p l e rmX11_strays s m args below meth c cX11_strays D cy B ids A Q (some (.int r)) z' .ireturn True) {N : Nat}  (x0 : Nat) (hx0 : (11, x0) ∈ ids) {z : St} {H : Heap} {locs : List Loc} {ls : Array Slot} (hr : zRep D cy B ids A s.heap z H locs) (hl : lv_has ls 1 [(0, .ref (B 11 x0))]) (h : fX11_strays N x0 z = some (r, z')) : W p l e rmX11_strays s m args below meth c H locs 0 0 Q (F0 m 0 ls []) := by
  unfold fX11_strays at h
  refine lv_aload_n F.1 F.2.1 dX11_strays_0 rfl (lv_at hl 0 rfl) ?_
  refine gf11_452 F hx0 hr dX11_strays_1 ?_
  obtain ⟨rfl, rfl⟩ := zret h
  exact E _ _ _ _ dX11_strays_4 trivial hr
end SX11_strays
set_option maxRecDepth 100000 in
theorem okX11_strays (l : Launch) (D : va_G) (cy : Nat → ClassId) (B : Nat → Nat → Nat) (ids : List (Nat × Nat)) (hst : zSt B ids) (N : Nat) (x0 : Nat) (hx0 : (11, x0) ∈ ids) {z : St} {r : Int32} {z' : St} (hW : zWf ids z) (h : fX11_strays N x0 z = some (r, z')) : zM l yX11_strays (zws yX11_strays cX11_strays 1 (some .int)) rmX11_strays D cy B ids [.ref (B 11 x0)] (some (.int r)) True z z' :=
  zM_of hst hW (by decide +kernel) (Nat.le_of_ble_eq_true rfl) (fun p e s m args below meth c A ls F hA hret hlocks hr hl => bX11_strays_0 hst F hA (zEnd_i F hret hlocks) x0 hx0 hr hl h)
abbrev rmX11_isNetAddress : Room := { frames := 0, cells := 0, slots := 0, locals := 0 }
theorem hdX11_isNetAddress : yX11_isNetAddress.cls ≠ "java/lang/invoke/MethodHandle" ∧ yX11_isNetAddress.cls ≠ "java/lang/invoke/VarHandle" ∧ (parseMethodDescriptor yX11_isNetAddress.desc).map (fun d => d.parameters.length) = some 1 := by decide +kernel
section SX11_isNetAddress
variable {p : Program} {l : Launch} {e : Env} {s : State} {m : MethodId} {args : Array Value} {below : List Frame} {meth : Method} {c : Code} {Q : State → Prop} {D : va_G} {cy : Nat → ClassId} {B : Nat → Nat → Nat} {ids : List (Nat × Nat)} {A : Nat → Prop}
def fX11_isNetAddress (N : Nat)  (x0 : Nat) (x1 : Int32) (z : St) : Option (Int32 × St) := if ¬ (((x1).toUInt32 >>> (((24 : Int32)).toUInt32 &&& Int32.toUInt32 31)).toInt32) = (10 : Int32) then (some ((0 : Int32), z)) else (if ((((x1).toUInt32 >>> (((16 : Int32)).toUInt32 &&& Int32.toUInt32 31)).toInt32) &&& (255 : Int32)) < (zgI z 11 1 x0) then (zl (x1 &&& (65535 : Int32)) fun v3 => if v3 < (1 : Int32) then (some ((0 : Int32), z)) else (if (8 : Int32) < v3 then (some ((0 : Int32), z)) else (some ((1 : Int32), z)))) else (some ((0 : Int32), z)))
set_option maxHeartbeats 4000000 in
set_option maxRecDepth 100000 in
theorem bX11_isNetAddress_0 (hst : zSt B ids) (F : zFx p m c cX11_isNetAddress 3 s args RX11 D cy B ids A) (hA : ∀ q : Nat, s.heap.size ≤ q → A q) {r : Int32} {z' : St} (E : zEnd p l e rmX11_isNetAddress s m args below meth c cX11_isNetAddress D cy B ids A Q (some (.int r)) z' .ireturn (r = 0 ∨ r = 1)) {N : Nat}  (x0 : Nat) (x1 : Int32) (hx0 : (11, x0) ∈ ids) {z : St} {H : Heap} {locs : List Loc} {ls : Array Slot} (hr : zRep D cy B ids A s.heap z H locs) (hl : lv_has ls 3 [(0, .ref (B 11 x0)), (1, .int x1)]) (h : fX11_isNetAddress N x0 x1 z = some (r, z')) : W p l e rmX11_isNetAddress s m args below meth c H locs 0 0 Q (F0 m 0 ls []) := by
  unfold fX11_isNetAddress at h
  refine lv_iload_n F.1 F.2.1 dX11_isNetAddress_0 rfl (lv_at hl 1 rfl) ?_
  refine lv_bipush (v := (24 : Int32)) F.1 F.2.1 dX11_isNetAddress_1 (by decide) ?_
  refine lv_iushr F.1 F.2.1 dX11_isNetAddress_3 rfl ?_
  refine lv_bipush (v := (10 : Int32)) F.1 F.2.1 dX11_isNetAddress_4 (by decide) ?_
  refine lv_icmp_ne (tgt := 24) F.1 F.2.1 dX11_isNetAddress_6 (by decide) (fun c1 => ?_) (fun c1 => ?_)
  · replace h := zi_t c1 h
    refine lv_iconst (v := (0 : Int32)) F.1 F.2.1 dX11_isNetAddress_24 (by decide) ?_
    obtain ⟨rfl, rfl⟩ := zret h
    exact E _ _ _ _ dX11_isNetAddress_25 (by decide) hr
  · replace h := zi_f (fun q => q c1) h
    refine lv_iload_n F.1 F.2.1 dX11_isNetAddress_9 rfl (lv_at hl 1 rfl) ?_
    refine lv_bipush (v := (16 : Int32)) F.1 F.2.1 dX11_isNetAddress_10 (by decide) ?_
    refine lv_iushr F.1 F.2.1 dX11_isNetAddress_12 rfl ?_
    refine lv_sipush (v := (255 : Int32)) F.1 F.2.1 dX11_isNetAddress_13 (by decide) ?_
    refine lv_iand F.1 F.2.1 dX11_isNetAddress_16 ?_
    refine lv_aload_n F.1 F.2.1 dX11_isNetAddress_17 rfl (lv_at hl 0 rfl) ?_
    refine gf11_85 F hx0 hr dX11_isNetAddress_18 ?_
    refine lv_icmp_lt (tgt := 26) F.1 F.2.1 dX11_isNetAddress_21 (by decide) (fun c2 => ?_) (fun c2 => ?_)
    · replace h := zi_t c2 h
      refine lv_iload_n F.1 F.2.1 dX11_isNetAddress_26 rfl (lv_at hl 1 rfl) ?_
      refine lv_ldc (v := (65535)) F.1 F.2.1 F.2.2.2.1 (F.2.2.2.2.1 _ zq_322) dX11_isNetAddress_27 ?_
      refine lv_iand F.1 F.2.1 dX11_isNetAddress_29 ?_
      refine lv_topi (fun v3 ev3 => ?_)
      replace h := zl_sub ev3 h
      refine lv_istore_n (lv' := [(2, .int v3), (0, .ref (B 11 x0)), (1, .int x1)]) F.1 F.2.1 dX11_isNetAddress_30 rfl hl (by decide) rfl (fun ls hl => ?_)
      refine lv_iload_n F.1 F.2.1 dX11_isNetAddress_31 rfl (lv_at hl 0 rfl) ?_
      refine lv_iconst (v := (1 : Int32)) F.1 F.2.1 dX11_isNetAddress_32 (by decide) ?_
      refine lv_icmp_lt (tgt := 46) F.1 F.2.1 dX11_isNetAddress_33 (by decide) (fun c4 => ?_) (fun c4 => ?_)
      · replace h := zi_t c4 h
        refine lv_iconst (v := (0 : Int32)) F.1 F.2.1 dX11_isNetAddress_46 (by decide) ?_
        obtain ⟨rfl, rfl⟩ := zret h
        exact E _ _ _ _ dX11_isNetAddress_47 (by decide) hr
      · replace h := zi_f c4 h
        refine lv_iload_n F.1 F.2.1 dX11_isNetAddress_36 rfl (lv_at hl 0 rfl) ?_
        refine lv_bipush (v := (8 : Int32)) F.1 F.2.1 dX11_isNetAddress_37 (by decide) ?_
        refine lv_icmp_gt (tgt := 46) F.1 F.2.1 dX11_isNetAddress_39 (by decide) (fun c5 => ?_) (fun c5 => ?_)
        · replace h := zi_t c5 h
          refine lv_iconst (v := (0 : Int32)) F.1 F.2.1 dX11_isNetAddress_46 (by decide) ?_
          obtain ⟨rfl, rfl⟩ := zret h
          exact E _ _ _ _ dX11_isNetAddress_47 (by decide) hr
        · replace h := zi_f c5 h
          refine lv_iconst (v := (1 : Int32)) F.1 F.2.1 dX11_isNetAddress_42 (by decide) ?_
          refine lv_goto (tgt := 47) F.1 F.2.1 dX11_isNetAddress_43 (by decide) ?_
          obtain ⟨rfl, rfl⟩ := zret h
          exact E _ _ _ _ dX11_isNetAddress_47 (by decide) hr
    · replace h := zi_f c2 h
      refine lv_iconst (v := (0 : Int32)) F.1 F.2.1 dX11_isNetAddress_24 (by decide) ?_
      obtain ⟨rfl, rfl⟩ := zret h
      exact E _ _ _ _ dX11_isNetAddress_25 (by decide) hr
end SX11_isNetAddress
set_option maxRecDepth 100000 in
theorem okX11_isNetAddress (l : Launch) (D : va_G) (cy : Nat → ClassId) (B : Nat → Nat → Nat) (ids : List (Nat × Nat)) (hst : zSt B ids) (N : Nat) (x0 : Nat) (hx0 : (11, x0) ∈ ids) (x1 : Int32) {z : St} {r : Int32} {z' : St} (hW : zWf ids z) (h : fX11_isNetAddress N x0 x1 z = some (r, z')) : zM l yX11_isNetAddress (zws yX11_isNetAddress cX11_isNetAddress 3 (some .boolean)) rmX11_isNetAddress D cy B ids [.ref (B 11 x0), .int x1] (some (.int r)) (r = 0 ∨ r = 1) z z' :=
  zM_of hst hW (by decide +kernel) (Nat.le_of_ble_eq_true rfl) (fun p e s m args below meth c A ls F hA hret hlocks hr hl => bX11_isNetAddress_0 hst F hA (zEnd_z F hret hlocks) x0 x1 hx0 hr hl h)
abbrev rmX11_portOfAddress : Room := { frames := 1, cells := 0, slots := 0, locals := 22 }
theorem hdX11_portOfAddress : yX11_portOfAddress.cls ≠ "java/lang/invoke/MethodHandle" ∧ yX11_portOfAddress.cls ≠ "java/lang/invoke/VarHandle" ∧ (parseMethodDescriptor yX11_portOfAddress.desc).map (fun d => d.parameters.length) = some 1 := by decide +kernel
theorem hroX11_portOfAddress_X11_isNetAddress : rmX11_isNetAddress.frames + 1 ≤ rmX11_portOfAddress.frames ∧ 8 + (3 + 11) + rmX11_isNetAddress.locals ≤ rmX11_portOfAddress.locals := by decide
section SX11_portOfAddress
variable {p : Program} {l : Launch} {e : Env} {s : State} {m : MethodId} {args : Array Value} {below : List Frame} {meth : Method} {c : Code} {Q : State → Prop} {D : va_G} {cy : Nat → ClassId} {B : Nat → Nat → Nat} {ids : List (Nat × Nat)} {A : Nat → Prop}
def fX11_portOfAddress_25 (N : Nat)  (x1 : Int32) (s0 : Option Nat) (z : St) : Option (Option Nat × St) := zo s0 (some (none, z)) fun a2 => zl ((x1 &&& (65535 : Int32)) - (1 : Int32)) fun v3 => if (zgI z 5 8 a2) ≤ v3 then (some (none, z)) else (zk v3 8 <| zl (zgQ z 123 a2 (Int32.toNatClampNeg v3)) fun y6 => some (y6, z))
set_option maxHeartbeats 4000000 in
set_option maxRecDepth 100000 in
theorem bX11_portOfAddress_25 (hst : zSt B ids) (F : zFx p m c cX11_portOfAddress 4 s args RX11 D cy B ids A) (hA : ∀ q : Nat, s.heap.size ≤ q → A q) {r : Option Nat} {z' : St} (E : zEnd p l e rmX11_portOfAddress s m args below meth c cX11_portOfAddress D cy B ids A Q (some (va_rf (r.map (B 8)))) z' .areturn (∀ i, r = some i → (8, i) ∈ ids)) {N : Nat}  (x1 : Int32) (s0 : Option Nat) (hs0 : ∀ t, s0 = some t → (5, t) ∈ ids) {z : St} {H : Heap} {locs : List Loc} {ls : Array Slot} (hr : zRep D cy B ids A s.heap z H locs) (hl : lv_has ls 4 [(1, .int x1)]) (h : fX11_portOfAddress_25 N x1 s0 z = some (r, z')) : W p l e rmX11_portOfAddress s m args below meth c H locs 0 0 Q (F0 m 25 ls [va_rf (Option.map (B 5) s0)]) := by
  unfold fX11_portOfAddress_25 at h
  refine zr_astore_n (lv' := [(2, va_rf (Option.map (B 5) s0)), (1, .int x1)]) F.1 F.2.1 dX11_portOfAddress_25 rfl hl (by decide) rfl (fun ls hl => ?_)
  refine zr_aload_n F.1 F.2.1 dX11_portOfAddress_26 rfl (lv_at hl 0 rfl) ?_
  refine zr_ifnonnull (tgt := 32) F.1 F.2.1 dX11_portOfAddress_27 (by decide) (fun e1 => ?_) (fun a2 e1 => ?_)
  · replace h := zo_n e1 h
    subst e1
    refine lv_null F.1 F.2.1 dX11_portOfAddress_30 ?_
    obtain ⟨rfl, rfl⟩ := zret h
    exact E _ _ _ _ dX11_portOfAddress_31 zal_0 hr
  · replace h := zo_s e1 h
    subst e1
    refine lv_iload_n F.1 F.2.1 dX11_portOfAddress_32 rfl (lv_at hl 1 rfl) ?_
    refine lv_ldc (v := (65535)) F.1 F.2.1 F.2.2.2.1 (F.2.2.2.2.1 _ zq_322) dX11_portOfAddress_33 ?_
    refine lv_iand F.1 F.2.1 dX11_portOfAddress_35 ?_
    refine lv_iconst (v := (1 : Int32)) F.1 F.2.1 dX11_portOfAddress_36 (by decide) ?_
    refine lv_isub F.1 F.2.1 dX11_portOfAddress_37 ?_
    refine lv_topi (fun v3 ev3 => ?_)
    replace h := zl_sub ev3 h
    refine lv_istore_n (lv' := [(3, .int v3), (2, .ref (B 5 a2)), (1, .int x1)]) F.1 F.2.1 dX11_portOfAddress_38 rfl hl (by decide) rfl (fun ls hl => ?_)
    refine lv_iload_n F.1 F.2.1 dX11_portOfAddress_39 rfl (lv_at hl 0 rfl) ?_
    refine lv_aload_n F.1 F.2.1 dX11_portOfAddress_40 rfl (lv_at hl 1 rfl) ?_
    refine gf11_124 F (hs0 _ rfl) hr dX11_portOfAddress_41 ?_
    refine lv_icmp_ge (tgt := 56) F.1 F.2.1 dX11_portOfAddress_44 (by decide) (fun c4 => ?_) (fun c4 => ?_)
    · replace h := zi_t c4 h
      refine lv_null F.1 F.2.1 dX11_portOfAddress_56 ?_
      obtain ⟨rfl, rfl⟩ := zret h
      exact E _ _ _ _ dX11_portOfAddress_57 zal_0 hr
    · replace h := zi_f c4 h
      refine lv_aload_n F.1 F.2.1 dX11_portOfAddress_47 rfl (lv_at hl 1 rfl) ?_
      refine gf11_138 F (hs0 _ rfl) hr dX11_portOfAddress_48 ?_
      refine lv_iload_n F.1 F.2.1 dX11_portOfAddress_51 rfl (lv_at hl 0 rfl) ?_
      replace h := zk_some h
      obtain ⟨c5, h⟩ := h
      refine zr_aaldv (k := 123) (by decide) rfl rfl (zlen_d (by decide)) F (zal_a F (hs0 _ rfl) (j := 7) rfl) hr dX11_portOfAddress_52 c5 (fun y6 ey6 => ?_)
      replace h := zl_sub ey6 h
      have hy6 := zal_q hr (zal_a F (hs0 _ rfl) (j := 7) rfl) rfl ey6
      clear ey6
      refine lv_goto (tgt := 57) F.1 F.2.1 dX11_portOfAddress_53 (by decide) ?_
      obtain ⟨rfl, rfl⟩ := zret h
      exact E _ _ _ _ dX11_portOfAddress_57 hy6 hr
def fX11_portOfAddress (N : Nat)  (x0 : Nat) (x1 : Int32) (z : St) : Option (Option Nat × St) := zc (fX11_isNetAddress N x0 x1 z) fun r1 z2 => if r1 = 0 then (fX11_portOfAddress_25 N x1 none z2) else (zk ((((x1).toUInt32 >>> (((16 : Int32)).toUInt32 &&& Int32.toUInt32 31)).toInt32) &&& (255 : Int32)) 24 <| zl (zgQ z2 139 x0 (Int32.toNatClampNeg ((((x1).toUInt32 >>> (((16 : Int32)).toUInt32 &&& Int32.toUInt32 31)).toInt32) &&& (255 : Int32)))) fun y7 => fX11_portOfAddress_25 N x1 y7 z2)
set_option maxHeartbeats 4000000 in
set_option maxRecDepth 100000 in
theorem bX11_portOfAddress_0 (hst : zSt B ids) (F : zFx p m c cX11_portOfAddress 4 s args RX11 D cy B ids A) (hA : ∀ q : Nat, s.heap.size ≤ q → A q) {r : Option Nat} {z' : St} (E : zEnd p l e rmX11_portOfAddress s m args below meth c cX11_portOfAddress D cy B ids A Q (some (va_rf (r.map (B 8)))) z' .areturn (∀ i, r = some i → (8, i) ∈ ids)) {N : Nat}  (x0 : Nat) (x1 : Int32) (hx0 : (11, x0) ∈ ids) {z : St} {H : Heap} {locs : List Loc} {ls : Array Slot} (hr : zRep D cy B ids A s.heap z H locs) (hl : lv_has ls 4 [(0, .ref (B 11 x0)), (1, .int x1)]) (h : fX11_portOfAddress N x0 x1 z = some (r, z')) : W p l e rmX11_portOfAddress s m args below meth c H locs 0 0 Q (F0 m 0 ls []) := by
  unfold fX11_portOfAddress at h
  refine lv_aload_n F.1 F.2.1 dX11_portOfAddress_0 rfl (lv_at hl 0 rfl) ?_
  refine lv_iload_n F.1 F.2.1 dX11_portOfAddress_1 rfl (lv_at hl 1 rfl) ?_
  replace h := zc_some h
  obtain ⟨r1, z2, hc3, h⟩ := h
  refine zr_calli (zrun_V (As := [.int x1]) (rest := []) zq_318 zq_320 zs_X11_isNetAddress zq_321 zq_1 hdX11_isNetAddress (by decide) (T := TX11) (N := 21) rfl (okX11_isNetAddress l D cy B ids hst N x0 hx0 x1  hr.2.2 hc3) F hr hx0 hl.1 rfl (by decide) dX11_portOfAddress_2 rfl rfl hroX11_portOfAddress_X11_isNetAddress ⟨Nat.zero_le _, Nat.zero_le _⟩) F hA hr (fun H locs hw4 hr => ?_)
  clear hc3
  refine lv_if_eq (tgt := 24) F.1 F.2.1 dX11_portOfAddress_5 (by decide) (fun c5 => ?_) (fun c5 => ?_)
  · replace h := zi_t c5 h
    refine lv_null F.1 F.2.1 dX11_portOfAddress_24 ?_
    exact bX11_portOfAddress_25 hst F hA E  x1 none zal_0 hr (lv_sub hl [1] rfl) h
  · replace h := zi_f c5 h
    refine lv_aload_n F.1 F.2.1 dX11_portOfAddress_8 rfl (lv_at hl 0 rfl) ?_
    refine gf11_11 F hx0 hr dX11_portOfAddress_9 ?_
    refine lv_iload_n F.1 F.2.1 dX11_portOfAddress_12 rfl (lv_at hl 1 rfl) ?_
    refine lv_bipush (v := (16 : Int32)) F.1 F.2.1 dX11_portOfAddress_13 (by decide) ?_
    refine lv_iushr F.1 F.2.1 dX11_portOfAddress_15 rfl ?_
    refine lv_sipush (v := (255 : Int32)) F.1 F.2.1 dX11_portOfAddress_16 (by decide) ?_
    refine lv_iand F.1 F.2.1 dX11_portOfAddress_19 ?_
    replace h := zk_some h
    obtain ⟨c6, h⟩ := h
    refine zr_aaldv (k := 139) (by decide) rfl rfl (zlen_d (by decide)) F (zal_a F hx0 (j := 0) rfl) hr dX11_portOfAddress_20 c6 (fun y7 ey7 => ?_)
    replace h := zl_sub ey7 h
    have hy7 := zal_q hr (zal_a F hx0 (j := 0) rfl) rfl ey7
    clear ey7
    refine lv_goto (tgt := 25) F.1 F.2.1 dX11_portOfAddress_21 (by decide) ?_
    exact bX11_portOfAddress_25 hst F hA E  x1 y7 hy7 hr (lv_sub hl [1] rfl) h
end SX11_portOfAddress
set_option maxRecDepth 100000 in
theorem okX11_portOfAddress (l : Launch) (D : va_G) (cy : Nat → ClassId) (B : Nat → Nat → Nat) (ids : List (Nat × Nat)) (hst : zSt B ids) (N : Nat) (x0 : Nat) (hx0 : (11, x0) ∈ ids) (x1 : Int32) {z : St} {r : Option Nat} {z' : St} (hW : zWf ids z) (h : fX11_portOfAddress N x0 x1 z = some (r, z')) : zM l yX11_portOfAddress (zws yX11_portOfAddress cX11_portOfAddress 4 (some (.object "WholeInternet$Port"))) rmX11_portOfAddress D cy B ids [.ref (B 11 x0), .int x1] (some (va_rf (r.map (B 8)))) (∀ i, r = some i → (8, i) ∈ ids) z z' :=
  zM_of hst hW (by decide +kernel) (Nat.le_of_ble_eq_true rfl) (fun p e s m args below meth c A ls F hA hret hlocks hr hl => bX11_portOfAddress_0 hst F hA (zEnd_r F hret hlocks) x0 x1 hx0 hr hl h)
abbrev rmX11_joinedWith : Room := { frames := 2, cells := 0, slots := 0, locals := 45 }
theorem hdX11_joinedWith : yX11_joinedWith.cls ≠ "java/lang/invoke/MethodHandle" ∧ yX11_joinedWith.cls ≠ "java/lang/invoke/VarHandle" ∧ (parseMethodDescriptor yX11_joinedWith.desc).map (fun d => d.parameters.length) = some 2 := by decide +kernel
theorem hroX11_joinedWith_X11_portOfAddress : rmX11_portOfAddress.frames + 1 ≤ rmX11_joinedWith.frames ∧ 8 + (4 + 11) + rmX11_portOfAddress.locals ≤ rmX11_joinedWith.locals := by decide
theorem hroX11_joinedWith_X1_netsUp : rmX1_netsUp.frames + 1 ≤ rmX11_joinedWith.frames ∧ 8 + (3 + 11) + rmX1_netsUp.locals ≤ rmX11_joinedWith.locals := by decide
section SX11_joinedWith
variable {p : Program} {l : Launch} {e : Env} {s : State} {m : MethodId} {args : Array Value} {below : List Frame} {meth : Method} {c : Code} {Q : State → Prop} {D : va_G} {cy : Nat → ClassId} {B : Nat → Nat → Nat} {ids : List (Nat × Nat)} {A : Nat → Prop}
def fX11_joinedWith_122 (N : Nat) (K60 : Nat → Nat → Int32 → Int32 → St → Option (Int32 × St)) (K70 : Nat → Nat → Int32 → Int32 → Int32 → St → Option (Int32 × St)) (x0 : Nat) (x4 : Nat) (x5 : Int32) (x6 : Int32) (x7 : Int32) (z : St) : Option (Int32 × St) := zl (x7 + 1) fun v1 => K70 x0 x4 x5 x6 v1 z
set_option maxHeartbeats 4000000 in
set_option maxRecDepth 100000 in
theorem bX11_joinedWith_122 (hst : zSt B ids) (F : zFx p m c cX11_joinedWith 9 s args RX11 D cy B ids A) (hA : ∀ q : Nat, s.heap.size ≤ q → A q) {r : Int32} {z' : St} (E : zEnd p l e rmX11_joinedWith s m args below meth c cX11_joinedWith D cy B ids A Q (some (.int r)) z' .ireturn (r = 0 ∨ r = 1)) {N : Nat} {K60 : Nat → Nat → Int32 → Int32 → St → Option (Int32 × St)} {K70 : Nat → Nat → Int32 → Int32 → Int32 → St → Option (Int32 × St)} (hK60 : ∀ (x0 : Nat) (x4 : Nat) (x5 : Int32) (x6 : Int32) (hx0 : (11, x0) ∈ ids) (hx4 : (8, x4) ∈ ids) {z : St} {H : Heap} {locs : List Loc} {ls : Array Slot} (hr : zRep D cy B ids A s.heap z H locs) (hl : lv_has ls 9 [(0, .ref (B 11 x0)), (4, .ref (B 8 x4)), (5, .int x5), (6, .int x6)]), K60 x0 x4 x5 x6 z = some (r, z') → W p l e rmX11_joinedWith s m args below meth c H locs 0 0 Q (F0 m 60 ls [])) (hK70 : ∀ (x0 : Nat) (x4 : Nat) (x5 : Int32) (x6 : Int32) (x7 : Int32) (hx0 : (11, x0) ∈ ids) (hx4 : (8, x4) ∈ ids) {z : St} {H : Heap} {locs : List Loc} {ls : Array Slot} (hr : zRep D cy B ids A s.heap z H locs) (hl : lv_has ls 9 [(0, .ref (B 11 x0)), (4, .ref (B 8 x4)), (5, .int x5), (6, .int x6), (7, .int x7)]), K70 x0 x4 x5 x6 x7 z = some (r, z') → W p l e rmX11_joinedWith s m args below meth c H locs 0 0 Q (F0 m 70 ls [])) (x0 : Nat) (x4 : Nat) (x5 : Int32) (x6 : Int32) (x7 : Int32) (hx0 : (11, x0) ∈ ids) (hx4 : (8, x4) ∈ ids) {z : St} {H : Heap} {locs : List Loc} {ls : Array Slot} (hr : zRep D cy B ids A s.heap z H locs) (hl : lv_has ls 9 [(0, .ref (B 11 x0)), (4, .ref (B 8 x4)), (5, .int x5), (6, .int x6), (7, .int x7)]) (h : fX11_joinedWith_122 N K60 K70 x0 x4 x5 x6 x7 z = some (r, z')) : W p l e rmX11_joinedWith s m args below meth c H locs 0 0 Q (F0 m 122 ls []) := by
  unfold fX11_joinedWith_122 at h
  obtain ⟨v1, ev1⟩ : ∃ y : Int32, y = (x7 + 1) := ⟨_, rfl⟩
  replace h := zl_sub ev1 h
  refine lv_iinc (v := v1) (lv' := [(7, .int v1), (0, .ref (B 11 x0)), (4, .ref (B 8 x4)), (5, .int x5), (6, .int x6)]) F.1 F.2.1 dX11_joinedWith_122 hl (k := 4) rfl (by rw [ev1]; rfl) (by decide) rfl (fun ls hl => ?_)
  refine lv_goto (tgt := 70) F.1 F.2.1 dX11_joinedWith_125 (by decide) ?_
  exact hK70 x0 x4 x5 x6 v1 hx0 hx4 hr (lv_sub hl [1, 2, 3, 4, 0] rfl) h
def fX11_joinedWith_70b (N : Nat) (K60 : Nat → Nat → Int32 → Int32 → St → Option (Int32 × St)) (K70 : Nat → Nat → Int32 → Int32 → Int32 → St → Option (Int32 × St)) (x0 : Nat) (x4 : Nat) (x5 : Int32) (x6 : Int32) (x7 : Int32) (z : St) : Option (Int32 × St) := if (zgI z 11 3 x0) ≤ x7 then (zl (x6 + 1) fun v2 => K60 x0 x4 x5 v2 z) else (zk x7 16 <| zl (zgQ z 140 x0 (Int32.toNatClampNeg x7)) fun y4 => zd y4 fun a5 => if ¬ (zgI z 1 1 a5) = 0 then (zk x7 16 <| zl (zgQ z 140 x0 (Int32.toNatClampNeg x7)) fun y8 => zd y8 fun a9 => zc (fX1_netsUp N a9 z) fun r10 z11 => if (r10 &&& x5) = 0 then (fX11_joinedWith_122 N K60 K70 x0 x4 x5 x6 x7 z11) else (zl (x5 ||| r10) fun v15 => fX11_joinedWith_122 N K60 K70 x0 x4 v15 x6 x7 z11)) else (fX11_joinedWith_122 N K60 K70 x0 x4 x5 x6 x7 z))
def fX11_joinedWith_70 (N : Nat) (K60 : Nat → Nat → Int32 → Int32 → St → Option (Int32 × St)) : Nat → Nat → Nat → Int32 → Int32 → Int32 → St → Option (Int32 × St)
  | 0 => fun _ _ _ _ _ _ => none
  | n + 1 => fX11_joinedWith_70b N K60 (fX11_joinedWith_70 N K60 n)
set_option maxHeartbeats 4000000 in
set_option maxRecDepth 100000 in
theorem bX11_joinedWith_70 (hst : zSt B ids) (F : zFx p m c cX11_joinedWith 9 s args RX11 D cy B ids A) (hA : ∀ q : Nat, s.heap.size ≤ q → A q) {r : Int32} {z' : St} (E : zEnd p l e rmX11_joinedWith s m args below meth c cX11_joinedWith D cy B ids A Q (some (.int r)) z' .ireturn (r = 0 ∨ r = 1)) {N : Nat} {K60 : Nat → Nat → Int32 → Int32 → St → Option (Int32 × St)} {K70 : Nat → Nat → Int32 → Int32 → Int32 → St → Option (Int32 × St)} (hK60 : ∀ (x0 : Nat) (x4 : Nat) (x5 : Int32) (x6 : Int32) (hx0 : (11, x0) ∈ ids) (hx4 : (8, x4) ∈ ids) {z : St} {H : Heap} {locs : List Loc} {ls : Array Slot} (hr : zRep D cy B ids A s.heap z H locs) (hl : lv_has ls 9 [(0, .ref (B 11 x0)), (4, .ref (B 8 x4)), (5, .int x5), (6, .int x6)]), K60 x0 x4 x5 x6 z = some (r, z') → W p l e rmX11_joinedWith s m args below meth c H locs 0 0 Q (F0 m 60 ls [])) (hK70 : ∀ (x0 : Nat) (x4 : Nat) (x5 : Int32) (x6 : Int32) (x7 : Int32) (hx0 : (11, x0) ∈ ids) (hx4 : (8, x4) ∈ ids) {z : St} {H : Heap} {locs : List Loc} {ls : Array Slot} (hr : zRep D cy B ids A s.heap z H locs) (hl : lv_has ls 9 [(0, .ref (B 11 x0)), (4, .ref (B 8 x4)), (5, .int x5), (6, .int x6), (7, .int x7)]), K70 x0 x4 x5 x6 x7 z = some (r, z') → W p l e rmX11_joinedWith s m args below meth c H locs 0 0 Q (F0 m 70 ls [])) (x0 : Nat) (x4 : Nat) (x5 : Int32) (x6 : Int32) (x7 : Int32) (hx0 : (11, x0) ∈ ids) (hx4 : (8, x4) ∈ ids) {z : St} {H : Heap} {locs : List Loc} {ls : Array Slot} (hr : zRep D cy B ids A s.heap z H locs) (hl : lv_has ls 9 [(0, .ref (B 11 x0)), (4, .ref (B 8 x4)), (5, .int x5), (6, .int x6), (7, .int x7)]) (h : fX11_joinedWith_70b N K60 K70 x0 x4 x5 x6 x7 z = some (r, z')) : W p l e rmX11_joinedWith s m args below meth c H locs 0 0 Q (F0 m 70 ls []) := by
  unfold fX11_joinedWith_70b at h
  refine lv_iload F.1 F.2.1 dX11_joinedWith_70 (lv_at hl 4 rfl) ?_
  refine lv_aload_n F.1 F.2.1 dX11_joinedWith_72 rfl (lv_at hl 0 rfl) ?_
  refine gf11_61 F hx0 hr dX11_joinedWith_73 ?_
  refine lv_icmp_ge (tgt := 128) F.1 F.2.1 dX11_joinedWith_76 (by decide) (fun c1 => ?_) (fun c1 => ?_)
  · replace h := zi_t c1 h
    obtain ⟨v2, ev2⟩ : ∃ y : Int32, y = (x6 + 1) := ⟨_, rfl⟩
    replace h := zl_sub ev2 h
    refine lv_iinc (v := v2) (lv' := [(6, .int v2), (0, .ref (B 11 x0)), (4, .ref (B 8 x4)), (5, .int x5), (7, .int x7)]) F.1 F.2.1 dX11_joinedWith_128 hl (k := 3) rfl (by rw [ev2]; rfl) (by decide) rfl (fun ls hl => ?_)
    refine lv_goto (tgt := 60) F.1 F.2.1 dX11_joinedWith_131 (by decide) ?_
    exact hK60 x0 x4 x5 v2 hx0 hx4 hr (lv_sub hl [1, 2, 3, 0] rfl) h
  · replace h := zi_f c1 h
    refine lv_aload_n F.1 F.2.1 dX11_joinedWith_79 rfl (lv_at hl 0 rfl) ?_
    refine gf11_17 F hx0 hr dX11_joinedWith_80 ?_
    refine lv_iload F.1 F.2.1 dX11_joinedWith_83 (lv_at hl 4 rfl) ?_
    replace h := zk_some h
    obtain ⟨c3, h⟩ := h
    refine zr_aaldv (k := 140) (by decide) rfl rfl (zlen_d (by decide)) F (zal_a F hx0 (j := 2) rfl) hr dX11_joinedWith_85 c3 (fun y4 ey4 => ?_)
    replace h := zl_sub ey4 h
    have hy4 := zal_q hr (zal_a F hx0 (j := 2) rfl) rfl ey4
    clear ey4
    replace h := zd_some h
    obtain ⟨a5, rfl, h⟩ := h
    refine gf11_109 F (hy4 _ rfl) hr dX11_joinedWith_86 ?_
    refine lv_if_ne (tgt := 95) F.1 F.2.1 dX11_joinedWith_89 (by decide) (fun c6 => ?_) (fun c6 => ?_)
    · replace h := zi_t c6 h
      refine lv_aload_n F.1 F.2.1 dX11_joinedWith_95 rfl (lv_at hl 0 rfl) ?_
      refine gf11_17 F hx0 hr dX11_joinedWith_96 ?_
      refine lv_iload F.1 F.2.1 dX11_joinedWith_99 (lv_at hl 4 rfl) ?_
      replace h := zk_some h
      obtain ⟨c7, h⟩ := h
      refine zr_aaldv (k := 140) (by decide) rfl rfl (zlen_d (by decide)) F (zal_a F hx0 (j := 2) rfl) hr dX11_joinedWith_101 c7 (fun y8 ey8 => ?_)
      replace h := zl_sub ey8 h
      have hy8 := zal_q hr (zal_a F hx0 (j := 2) rfl) rfl ey8
      clear ey8
      replace h := zd_some h
      obtain ⟨a9, rfl, h⟩ := h
      replace h := zc_some h
      obtain ⟨r10, z11, hc12, h⟩ := h
      refine zr_calli (zrun_VN (As := []) (rest := []) zn_323 zq_325 zs_X1_netsUp zq_326 zq_9 hdX1_netsUp (by decide) (T := TX1) (N := 13) rfl (okX1_netsUp l D cy B ids hst N a9 (hy8 _ rfl) hr.2.2 hc12) F hr (hy8 _ rfl) hl.1 rfl (by decide) dX11_joinedWith_102 rfl rfl hroX11_joinedWith_X1_netsUp ⟨Nat.zero_le _, Nat.zero_le _⟩) F hA hr (fun H locs hw13 hr => ?_)
      clear hc12
      refine lv_istore (lv' := [(8, .int r10), (0, .ref (B 11 x0)), (4, .ref (B 8 x4)), (5, .int x5), (6, .int x6), (7, .int x7)]) F.1 F.2.1 dX11_joinedWith_105 hl (by decide) rfl (fun ls hl => ?_)
      refine lv_iload F.1 F.2.1 dX11_joinedWith_107 (lv_at hl 0 rfl) ?_
      refine lv_iload F.1 F.2.1 dX11_joinedWith_109 (lv_at hl 3 rfl) ?_
      refine lv_iand F.1 F.2.1 dX11_joinedWith_111 ?_
      refine lv_if_eq (tgt := 122) F.1 F.2.1 dX11_joinedWith_112 (by decide) (fun c14 => ?_) (fun c14 => ?_)
      · replace h := zi_t c14 h
        exact bX11_joinedWith_122 hst F hA E hK60 hK70 x0 x4 x5 x6 x7 hx0 hx4 hr (lv_sub hl [1, 2, 3, 4, 5] rfl) h
      · replace h := zi_f c14 h
        refine lv_iload F.1 F.2.1 dX11_joinedWith_115 (lv_at hl 3 rfl) ?_
        refine lv_iload F.1 F.2.1 dX11_joinedWith_117 (lv_at hl 0 rfl) ?_
        refine lv_ior F.1 F.2.1 dX11_joinedWith_119 ?_
        refine lv_topi (fun v15 ev15 => ?_)
        replace h := zl_sub ev15 h
        refine lv_istore (lv' := [(5, .int v15), (8, .int r10), (0, .ref (B 11 x0)), (4, .ref (B 8 x4)), (6, .int x6), (7, .int x7)]) F.1 F.2.1 dX11_joinedWith_120 hl (by decide) rfl (fun ls hl => ?_)
        exact bX11_joinedWith_122 hst F hA E hK60 hK70 x0 x4 v15 x6 x7 hx0 hx4 hr (lv_sub hl [2, 3, 0, 4, 5] rfl) h
    · replace h := zi_f (fun q => q c6) h
      refine lv_goto (tgt := 122) F.1 F.2.1 dX11_joinedWith_92 (by decide) ?_
      exact bX11_joinedWith_122 hst F hA E hK60 hK70 x0 x4 x5 x6 x7 hx0 hx4 hr (lv_sub hl [0, 1, 2, 3, 4] rfl) h
theorem lX11_joinedWith_70 (hst : zSt B ids) (F : zFx p m c cX11_joinedWith 9 s args RX11 D cy B ids A) (hA : ∀ q : Nat, s.heap.size ≤ q → A q) {r : Int32} {z' : St} (E : zEnd p l e rmX11_joinedWith s m args below meth c cX11_joinedWith D cy B ids A Q (some (.int r)) z' .ireturn (r = 0 ∨ r = 1)) {N : Nat} {K60 : Nat → Nat → Int32 → Int32 → St → Option (Int32 × St)} (hK60 : ∀ (x0 : Nat) (x4 : Nat) (x5 : Int32) (x6 : Int32) (hx0 : (11, x0) ∈ ids) (hx4 : (8, x4) ∈ ids) {z : St} {H : Heap} {locs : List Loc} {ls : Array Slot} (hr : zRep D cy B ids A s.heap z H locs) (hl : lv_has ls 9 [(0, .ref (B 11 x0)), (4, .ref (B 8 x4)), (5, .int x5), (6, .int x6)]), K60 x0 x4 x5 x6 z = some (r, z') → W p l e rmX11_joinedWith s m args below meth c H locs 0 0 Q (F0 m 60 ls [])) : ∀ (n : Nat) (x0 : Nat) (x4 : Nat) (x5 : Int32) (x6 : Int32) (x7 : Int32) (hx0 : (11, x0) ∈ ids) (hx4 : (8, x4) ∈ ids) {z : St} {H : Heap} {locs : List Loc} {ls : Array Slot} (hr : zRep D cy B ids A s.heap z H locs) (hl : lv_has ls 9 [(0, .ref (B 11 x0)), (4, .ref (B 8 x4)), (5, .int x5), (6, .int x6), (7, .int x7)]), fX11_joinedWith_70 N K60 n x0 x4 x5 x6 x7 z = some (r, z') → W p l e rmX11_joinedWith s m args below meth c H locs 0 0 Q (F0 m 70 ls []) := by
  intro n
  induction n with
  | zero => intro x0 x4 x5 x6 x7 hx0 hx4 z H locs ls hr hl h; cases h
  | succ n ih => intro x0 x4 x5 x6 x7 hx0 hx4 z H locs ls hr hl h; exact bX11_joinedWith_70 hst F hA E hK60 ih x0 x4 x5 x6 x7 hx0 hx4 hr hl h
def fX11_joinedWith_60b (N : Nat) (K60 : Nat → Nat → Int32 → Int32 → St → Option (Int32 × St)) (x0 : Nat) (x4 : Nat) (x5 : Int32) (x6 : Int32) (z : St) : Option (Int32 × St) := if (24 : Int32) ≤ x6 then (zl (zgR z 8 1 x4) fun y2 => zd y2 fun a3 => if ((((x5).toUInt32 >>> (((zgI z 5 0 a3)).toUInt32 &&& Int32.toUInt32 31)).toInt32) &&& (1 : Int32)) = 0 then (some ((0 : Int32), z)) else (some ((1 : Int32), z))) else (fX11_joinedWith_70 N K60 N x0 x4 x5 x6 (0 : Int32) z)
def fX11_joinedWith_60 (N : Nat)  : Nat → Nat → Nat → Int32 → Int32 → St → Option (Int32 × St)
  | 0 => fun _ _ _ _ _ => none
  | n + 1 => fX11_joinedWith_60b N (fX11_joinedWith_60 N  n)
set_option maxHeartbeats 4000000 in
set_option maxRecDepth 100000 in
theorem bX11_joinedWith_60 (hst : zSt B ids) (F : zFx p m c cX11_joinedWith 9 s args RX11 D cy B ids A) (hA : ∀ q : Nat, s.heap.size ≤ q → A q) {r : Int32} {z' : St} (E : zEnd p l e rmX11_joinedWith s m args below meth c cX11_joinedWith D cy B ids A Q (some (.int r)) z' .ireturn (r = 0 ∨ r = 1)) {N : Nat} {K60 : Nat → Nat → Int32 → Int32 → St → Option (Int32 × St)} (hK60 : ∀ (x0 : Nat) (x4 : Nat) (x5 : Int32) (x6 : Int32) (hx0 : (11, x0) ∈ ids) (hx4 : (8, x4) ∈ ids) {z : St} {H : Heap} {locs : List Loc} {ls : Array Slot} (hr : zRep D cy B ids A s.heap z H locs) (hl : lv_has ls 9 [(0, .ref (B 11 x0)), (4, .ref (B 8 x4)), (5, .int x5), (6, .int x6)]), K60 x0 x4 x5 x6 z = some (r, z') → W p l e rmX11_joinedWith s m args below meth c H locs 0 0 Q (F0 m 60 ls [])) (x0 : Nat) (x4 : Nat) (x5 : Int32) (x6 : Int32) (hx0 : (11, x0) ∈ ids) (hx4 : (8, x4) ∈ ids) {z : St} {H : Heap} {locs : List Loc} {ls : Array Slot} (hr : zRep D cy B ids A s.heap z H locs) (hl : lv_has ls 9 [(0, .ref (B 11 x0)), (4, .ref (B 8 x4)), (5, .int x5), (6, .int x6)]) (h : fX11_joinedWith_60b N K60 x0 x4 x5 x6 z = some (r, z')) : W p l e rmX11_joinedWith s m args below meth c H locs 0 0 Q (F0 m 60 ls []) := by
  unfold fX11_joinedWith_60b at h
  refine lv_iload F.1 F.2.1 dX11_joinedWith_60 (lv_at hl 3 rfl) ?_
  refine lv_bipush (v := (24 : Int32)) F.1 F.2.1 dX11_joinedWith_62 (by decide) ?_
  refine lv_icmp_ge (tgt := 134) F.1 F.2.1 dX11_joinedWith_64 (by decide) (fun c1 => ?_) (fun c1 => ?_)
  · replace h := zi_t c1 h
    refine lv_iload F.1 F.2.1 dX11_joinedWith_134 (lv_at hl 2 rfl) ?_
    refine lv_aload F.1 F.2.1 dX11_joinedWith_136 (lv_at hl 1 rfl) ?_
    refine gf11_261 F hx4 hr dX11_joinedWith_138 (fun y2 ey2 => ?_)
    replace h := zl_sub ey2 h
    have hy2 := zal_g hr hx4 (j := 1) rfl ey2
    clear ey2
    replace h := zd_some h
    obtain ⟨a3, rfl, h⟩ := h
    refine gf11_478 F (hy2 _ rfl) hr dX11_joinedWith_141 ?_
    refine lv_iushr F.1 F.2.1 dX11_joinedWith_144 rfl ?_
    refine lv_iconst (v := (1 : Int32)) F.1 F.2.1 dX11_joinedWith_145 (by decide) ?_
    refine lv_iand F.1 F.2.1 dX11_joinedWith_146 ?_
    refine lv_if_eq (tgt := 154) F.1 F.2.1 dX11_joinedWith_147 (by decide) (fun c4 => ?_) (fun c4 => ?_)
    · replace h := zi_t c4 h
      refine lv_iconst (v := (0 : Int32)) F.1 F.2.1 dX11_joinedWith_154 (by decide) ?_
      obtain ⟨rfl, rfl⟩ := zret h
      exact E _ _ _ _ dX11_joinedWith_155 (by decide) hr
    · replace h := zi_f c4 h
      refine lv_iconst (v := (1 : Int32)) F.1 F.2.1 dX11_joinedWith_150 (by decide) ?_
      refine lv_goto (tgt := 155) F.1 F.2.1 dX11_joinedWith_151 (by decide) ?_
      obtain ⟨rfl, rfl⟩ := zret h
      exact E _ _ _ _ dX11_joinedWith_155 (by decide) hr
  · replace h := zi_f c1 h
    refine lv_iconst (v := (0 : Int32)) F.1 F.2.1 dX11_joinedWith_67 (by decide) ?_
    refine lv_istore (lv' := [(7, .int (0 : Int32)), (0, .ref (B 11 x0)), (4, .ref (B 8 x4)), (5, .int x5), (6, .int x6)]) F.1 F.2.1 dX11_joinedWith_68 hl (by decide) rfl (fun ls hl => ?_)
    exact lX11_joinedWith_70 hst F hA E hK60 _ x0 x4 x5 x6 (0 : Int32) hx0 hx4 hr (lv_sub hl [1, 2, 3, 4, 0] rfl) h
theorem lX11_joinedWith_60 (hst : zSt B ids) (F : zFx p m c cX11_joinedWith 9 s args RX11 D cy B ids A) (hA : ∀ q : Nat, s.heap.size ≤ q → A q) {r : Int32} {z' : St} (E : zEnd p l e rmX11_joinedWith s m args below meth c cX11_joinedWith D cy B ids A Q (some (.int r)) z' .ireturn (r = 0 ∨ r = 1)) {N : Nat}  : ∀ (n : Nat) (x0 : Nat) (x4 : Nat) (x5 : Int32) (x6 : Int32) (hx0 : (11, x0) ∈ ids) (hx4 : (8, x4) ∈ ids) {z : St} {H : Heap} {locs : List Loc} {ls : Array Slot} (hr : zRep D cy B ids A s.heap z H locs) (hl : lv_has ls 9 [(0, .ref (B 11 x0)), (4, .ref (B 8 x4)), (5, .int x5), (6, .int x6)]), fX11_joinedWith_60 N  n x0 x4 x5 x6 z = some (r, z') → W p l e rmX11_joinedWith s m args below meth c H locs 0 0 Q (F0 m 60 ls []) := by
  intro n
  induction n with
  | zero => intro x0 x4 x5 x6 hx0 hx4 z H locs ls hr hl h; cases h
  | succ n ih => intro x0 x4 x5 x6 hx0 hx4 z H locs ls hr hl h; exact bX11_joinedWith_60 hst F hA E ih x0 x4 x5 x6 hx0 hx4 hr hl h
def fX11_joinedWith (N : Nat)  (x0 : Nat) (x1 : Nat) (x2 : Int32) (z : St) : Option (Int32 × St) := zk (0 : Int32) 6 <| zl (zgQ z 112 x1 (Int32.toNatClampNeg (0 : Int32))) fun y2 => zc (fX11_portOfAddress N x0 x2 z) fun r3 z4 => zo y2 (some ((0 : Int32), z4)) fun a8 => zo r3 (some ((0 : Int32), z4)) fun a10 => zl (zgR z4 8 0 a10) fun y11 => zd y11 fun a12 => if ¬ (zgI z4 1 1 a12) = 0 then (some ((0 : Int32), z4)) else (zl (zgR z4 8 1 a8) fun y14 => zd y14 fun a15 => if ¬ (zgI z4 5 3 a15) = 0 then (zl (zgR z4 8 1 a8) fun y17 => zd y17 fun a18 => zl ((1 : Int32) <<< ((zgI z4 5 0 a18) &&& 31)) fun v19 => fX11_joinedWith_60 N N x0 a10 v19 (0 : Int32) z4) else (some ((0 : Int32), z4)))
set_option maxHeartbeats 4000000 in
set_option maxRecDepth 100000 in
theorem bX11_joinedWith_0 (hst : zSt B ids) (F : zFx p m c cX11_joinedWith 9 s args RX11 D cy B ids A) (hA : ∀ q : Nat, s.heap.size ≤ q → A q) {r : Int32} {z' : St} (E : zEnd p l e rmX11_joinedWith s m args below meth c cX11_joinedWith D cy B ids A Q (some (.int r)) z' .ireturn (r = 0 ∨ r = 1)) {N : Nat}  (x0 : Nat) (x1 : Nat) (x2 : Int32) (hx0 : (11, x0) ∈ ids) (hx1 : (1, x1) ∈ ids) {z : St} {H : Heap} {locs : List Loc} {ls : Array Slot} (hr : zRep D cy B ids A s.heap z H locs) (hl : lv_has ls 9 [(0, .ref (B 11 x0)), (1, .ref (B 1 x1)), (2, .int x2)]) (h : fX11_joinedWith N x0 x1 x2 z = some (r, z')) : W p l e rmX11_joinedWith s m args below meth c H locs 0 0 Q (F0 m 0 ls []) := by
  unfold fX11_joinedWith at h
  refine lv_aload_n F.1 F.2.1 dX11_joinedWith_0 rfl (lv_at hl 1 rfl) ?_
  refine gf11_134 F hx1 hr dX11_joinedWith_1 ?_
  refine lv_iconst (v := (0 : Int32)) F.1 F.2.1 dX11_joinedWith_4 (by decide) ?_
  replace h := zk_some h
  obtain ⟨c1, h⟩ := h
  refine zr_aaldv (k := 112) (by decide) rfl rfl (zlen_d (by decide)) F (zal_a F hx1 (j := 2) rfl) hr dX11_joinedWith_5 c1 (fun y2 ey2 => ?_)
  replace h := zl_sub ey2 h
  have hy2 := zal_q hr (zal_a F hx1 (j := 2) rfl) rfl ey2
  clear ey2
  refine zr_astore_n (lv' := [(3, va_rf (Option.map (B 8) y2)), (0, .ref (B 11 x0)), (1, .ref (B 1 x1)), (2, .int x2)]) F.1 F.2.1 dX11_joinedWith_6 rfl hl (by decide) rfl (fun ls hl => ?_)
  refine lv_aload_n F.1 F.2.1 dX11_joinedWith_7 rfl (lv_at hl 1 rfl) ?_
  refine lv_iload_n F.1 F.2.1 dX11_joinedWith_8 rfl (lv_at hl 3 rfl) ?_
  replace h := zc_some h
  obtain ⟨r3, z4, hc5, h⟩ := h
  refine zr_callr (zrun_V (As := [.int x2]) (rest := []) zq_314 zq_316 zs_X11_portOfAddress zq_317 zq_1 hdX11_portOfAddress (by decide) (T := TX11) (N := 21) rfl (okX11_portOfAddress l D cy B ids hst N x0 hx0 x2  hr.2.2 hc5) F hr hx0 hl.1 rfl (by decide) dX11_joinedWith_9 rfl rfl hroX11_joinedWith_X11_portOfAddress ⟨Nat.zero_le _, Nat.zero_le _⟩) F hA hr (fun H locs hw6 hr => ?_)
  clear hc5
  refine zr_astore (lv' := [(4, va_rf (Option.map (B 8) r3)), (3, va_rf (Option.map (B 8) y2)), (0, .ref (B 11 x0)), (1, .ref (B 1 x1)), (2, .int x2)]) F.1 F.2.1 dX11_joinedWith_12 hl (by decide) (by simp only [List.filter, zrf_cat]; rfl) (fun ls hl => ?_)
  refine zr_aload_n F.1 F.2.1 dX11_joinedWith_14 rfl (lv_at hl 1 rfl) ?_
  refine zr_ifnull (tgt := 44) F.1 F.2.1 dX11_joinedWith_15 (by decide) (fun e7 => ?_) (fun a8 e7 => ?_)
  · replace h := zo_n e7 h
    subst e7
    refine lv_iconst (v := (0 : Int32)) F.1 F.2.1 dX11_joinedWith_44 (by decide) ?_
    obtain ⟨rfl, rfl⟩ := zret h
    exact E _ _ _ _ dX11_joinedWith_45 (by decide) hr
  · replace h := zo_s e7 h
    subst e7
    refine zr_aload F.1 F.2.1 dX11_joinedWith_18 (lv_at hl 0 rfl) ?_
    refine zr_ifnull (tgt := 44) F.1 F.2.1 dX11_joinedWith_20 (by decide) (fun e9 => ?_) (fun a10 e9 => ?_)
    · replace h := zo_n e9 h
      subst e9
      refine lv_iconst (v := (0 : Int32)) F.1 F.2.1 dX11_joinedWith_44 (by decide) ?_
      obtain ⟨rfl, rfl⟩ := zret h
      exact E _ _ _ _ dX11_joinedWith_45 (by decide) hr
    · replace h := zo_s e9 h
      subst e9
      refine lv_aload F.1 F.2.1 dX11_joinedWith_23 (lv_at hl 0 rfl) ?_
      refine gf11_474 F (hw6 _ rfl) hr dX11_joinedWith_25 (fun y11 ey11 => ?_)
      replace h := zl_sub ey11 h
      have hy11 := zal_g hr (hw6 _ rfl) (j := 0) rfl ey11
      clear ey11
      replace h := zd_some h
      obtain ⟨a12, rfl, h⟩ := h
      refine gf11_109 F (hy11 _ rfl) hr dX11_joinedWith_28 ?_
      refine lv_if_ne (tgt := 44) F.1 F.2.1 dX11_joinedWith_31 (by decide) (fun c13 => ?_) (fun c13 => ?_)
      · replace h := zi_t c13 h
        refine lv_iconst (v := (0 : Int32)) F.1 F.2.1 dX11_joinedWith_44 (by decide) ?_
        obtain ⟨rfl, rfl⟩ := zret h
        exact E _ _ _ _ dX11_joinedWith_45 (by decide) hr
      · replace h := zi_f (fun q => q c13) h
        refine lv_aload_n F.1 F.2.1 dX11_joinedWith_34 rfl (lv_at hl 1 rfl) ?_
        refine gf11_261 F (hy2 _ rfl) hr dX11_joinedWith_35 (fun y14 ey14 => ?_)
        replace h := zl_sub ey14 h
        have hy14 := zal_g hr (hy2 _ rfl) (j := 1) rfl ey14
        clear ey14
        replace h := zd_some h
        obtain ⟨a15, rfl, h⟩ := h
        refine gf11_158 F (hy14 _ rfl) hr dX11_joinedWith_38 ?_
        refine lv_if_ne (tgt := 46) F.1 F.2.1 dX11_joinedWith_41 (by decide) (fun c16 => ?_) (fun c16 => ?_)
        · replace h := zi_t c16 h
          refine lv_iconst (v := (1 : Int32)) F.1 F.2.1 dX11_joinedWith_46 (by decide) ?_
          refine lv_aload_n F.1 F.2.1 dX11_joinedWith_47 rfl (lv_at hl 1 rfl) ?_
          refine gf11_261 F (hy2 _ rfl) hr dX11_joinedWith_48 (fun y17 ey17 => ?_)
          replace h := zl_sub ey17 h
          have hy17 := zal_g hr (hy2 _ rfl) (j := 1) rfl ey17
          clear ey17
          replace h := zd_some h
          obtain ⟨a18, rfl, h⟩ := h
          refine gf11_478 F (hy17 _ rfl) hr dX11_joinedWith_51 ?_
          refine lv_ishl F.1 F.2.1 dX11_joinedWith_54 ?_
          refine lv_topi (fun v19 ev19 => ?_)
          replace h := zl_sub ev19 h
          refine lv_istore (lv' := [(5, .int v19), (4, .ref (B 8 a10)), (3, .ref (B 8 a8)), (0, .ref (B 11 x0)), (1, .ref (B 1 x1)), (2, .int x2)]) F.1 F.2.1 dX11_joinedWith_55 hl (by decide) rfl (fun ls hl => ?_)
          refine lv_iconst (v := (0 : Int32)) F.1 F.2.1 dX11_joinedWith_57 (by decide) ?_
          refine lv_istore (lv' := [(6, .int (0 : Int32)), (5, .int v19), (4, .ref (B 8 a10)), (3, .ref (B 8 a8)), (0, .ref (B 11 x0)), (1, .ref (B 1 x1)), (2, .int x2)]) F.1 F.2.1 dX11_joinedWith_58 hl (by decide) rfl (fun ls hl => ?_)
          exact lX11_joinedWith_60 hst F hA E  _ x0 a10 v19 (0 : Int32) hx0 (hw6 _ rfl) hr (lv_sub hl [4, 2, 1, 0] rfl) h
        · replace h := zi_f (fun q => q c16) h
          refine lv_iconst (v := (0 : Int32)) F.1 F.2.1 dX11_joinedWith_44 (by decide) ?_
          obtain ⟨rfl, rfl⟩ := zret h
          exact E _ _ _ _ dX11_joinedWith_45 (by decide) hr
end SX11_joinedWith
set_option maxRecDepth 100000 in
theorem okX11_joinedWith (l : Launch) (D : va_G) (cy : Nat → ClassId) (B : Nat → Nat → Nat) (ids : List (Nat × Nat)) (hst : zSt B ids) (N : Nat) (x0 : Nat) (hx0 : (11, x0) ∈ ids) (x1 : Nat) (hx1 : (1, x1) ∈ ids) (x2 : Int32) {z : St} {r : Int32} {z' : St} (hW : zWf ids z) (h : fX11_joinedWith N x0 x1 x2 z = some (r, z')) : zM l yX11_joinedWith (zws yX11_joinedWith cX11_joinedWith 9 (some .boolean)) rmX11_joinedWith D cy B ids [.ref (B 11 x0), .ref (B 1 x1), .int x2] (some (.int r)) (r = 0 ∨ r = 1) z z' :=
  zM_of hst hW (by decide +kernel) (Nat.le_of_ble_eq_true rfl) (fun p e s m args below meth c A ls F hA hret hlocks hr hl => bX11_joinedWith_0 hst F hA (zEnd_z F hret hlocks) x0 x1 x2 hx0 hx1 hr hl h)
abbrev rmX11_stuckEnds : Room := { frames := 3, cells := 0, slots := 0, locals := 73 }
theorem hdX11_stuckEnds : yX11_stuckEnds.cls ≠ "java/lang/invoke/MethodHandle" ∧ yX11_stuckEnds.cls ≠ "java/lang/invoke/VarHandle" ∧ (parseMethodDescriptor yX11_stuckEnds.desc).map (fun d => d.parameters.length) = some 1 := by decide +kernel
theorem hroX11_stuckEnds_X11_joinedWith : rmX11_joinedWith.frames + 1 ≤ rmX11_stuckEnds.frames ∧ 8 + (9 + 11) + rmX11_joinedWith.locals ≤ rmX11_stuckEnds.locals := by decide
section SX11_stuckEnds
variable {p : Program} {l : Launch} {e : Env} {s : State} {m : MethodId} {args : Array Value} {below : List Frame} {meth : Method} {c : Code} {Q : State → Prop} {D : va_G} {cy : Nat → ClassId} {B : Nat → Nat → Nat} {ids : List (Nat × Nat)} {A : Nat → Prop}
def fX11_stuckEnds_85 (N : Nat) (K4 : Nat → Nat → Int32 → Int32 → St → Option (Int32 × St)) (x0 : Nat) (x1 : Nat) (x2 : Int32) (x3 : Int32) (z : St) : Option (Int32 × St) := zl (x3 + 1) fun v1 => K4 x0 x1 x2 v1 z
set_option maxHeartbeats 4000000 in
set_option maxRecDepth 100000 in
theorem bX11_stuckEnds_85 (hst : zSt B ids) (F : zFx p m c cX11_stuckEnds 5 s args RX11 D cy B ids A) (hA : ∀ q : Nat, s.heap.size ≤ q → A q) {r : Int32} {z' : St} (E : zEnd p l e rmX11_stuckEnds s m args below meth c cX11_stuckEnds D cy B ids A Q (some (.int r)) z' .ireturn True) {N : Nat} {K4 : Nat → Nat → Int32 → Int32 → St → Option (Int32 × St)} (hK4 : ∀ (x0 : Nat) (x1 : Nat) (x2 : Int32) (x3 : Int32) (hx0 : (11, x0) ∈ ids) (hx1 : (1, x1) ∈ ids) {z : St} {H : Heap} {locs : List Loc} {ls : Array Slot} (hr : zRep D cy B ids A s.heap z H locs) (hl : lv_has ls 5 [(0, .ref (B 11 x0)), (1, .ref (B 1 x1)), (2, .int x2), (3, .int x3)]), K4 x0 x1 x2 x3 z = some (r, z') → W p l e rmX11_stuckEnds s m args below meth c H locs 0 0 Q (F0 m 4 ls [])) (x0 : Nat) (x1 : Nat) (x2 : Int32) (x3 : Int32) (hx0 : (11, x0) ∈ ids) (hx1 : (1, x1) ∈ ids) {z : St} {H : Heap} {locs : List Loc} {ls : Array Slot} (hr : zRep D cy B ids A s.heap z H locs) (hl : lv_has ls 5 [(0, .ref (B 11 x0)), (1, .ref (B 1 x1)), (2, .int x2), (3, .int x3)]) (h : fX11_stuckEnds_85 N K4 x0 x1 x2 x3 z = some (r, z')) : W p l e rmX11_stuckEnds s m args below meth c H locs 0 0 Q (F0 m 85 ls []) := by
  unfold fX11_stuckEnds_85 at h
  obtain ⟨v1, ev1⟩ : ∃ y : Int32, y = (x3 + 1) := ⟨_, rfl⟩
  replace h := zl_sub ev1 h
  refine lv_iinc (v := v1) (lv' := [(3, .int v1), (0, .ref (B 11 x0)), (1, .ref (B 1 x1)), (2, .int x2)]) F.1 F.2.1 dX11_stuckEnds_85 hl (k := 3) rfl (by rw [ev1]; rfl) (by decide) rfl (fun ls hl => ?_)
  refine lv_goto (tgt := 4) F.1 F.2.1 dX11_stuckEnds_88 (by decide) ?_
  exact hK4 x0 x1 x2 v1 hx0 hx1 hr (lv_sub hl [1, 2, 3, 0] rfl) h
def fX11_stuckEnds_4b (N : Nat) (K4 : Nat → Nat → Int32 → Int32 → St → Option (Int32 × St)) (x0 : Nat) (x1 : Nat) (x2 : Int32) (x3 : Int32) (z : St) : Option (Int32 × St) := if (6 : Int32) ≤ x3 then (some (x2, z)) else (zk x3 (zlen z 119 x1) <| zl (zgQ z 119 x1 (Int32.toNatClampNeg x3)) fun y3 => zd y3 fun a4 => if ¬ (zgI z 2 0 a4) = (2 : Int32) then (fX11_stuckEnds_85 N K4 x0 x1 x2 x3 z) else (zl (zgR z 2 12 a4) fun y6 => zd y6 fun a7 => if (zgI z 3 0 a7) < (4 : Int32) then (fX11_stuckEnds_85 N K4 x0 x1 x2 x3 z) else (zl (zgR z 2 12 a4) fun y9 => zd y9 fun a10 => if (zgI z 3 0 a10) ≤ (10 : Int32) then (zl (zgR z 2 12 a4) fun y12 => zd y12 fun a13 => zl (zgR z 3 16 a13) fun y14 => zd y14 fun a15 => if (zgI z 6 2 a15) ≤ 0 then (fX11_stuckEnds_85 N K4 x0 x1 x2 x3 z) else (zc (fX11_joinedWith N x0 x1 (zgI z 2 2 a4) z) fun r17 z18 => if r17 = 0 then (fX11_stuckEnds_85 N K4 x0 x1 x2 x3 z18) else (zl (x2 + 1) fun v22 => fX11_stuckEnds_85 N K4 x0 x1 v22 x3 z18))) else (fX11_stuckEnds_85 N K4 x0 x1 x2 x3 z))))
def fX11_stuckEnds_4 (N : Nat)  : Nat → Nat → Nat → Int32 → Int32 → St → Option (Int32 × St)
  | 0 => fun _ _ _ _ _ => none
  | n + 1 => fX11_stuckEnds_4b N (fX11_stuckEnds_4 N  n)
set_option maxHeartbeats 4000000 in
set_option maxRecDepth 100000 in
theorem bX11_stuckEnds_4 (hst : zSt B ids) (F : zFx p m c cX11_stuckEnds 5 s args RX11 D cy B ids A) (hA : ∀ q : Nat, s.heap.size ≤ q → A q) {r : Int32} {z' : St} (E : zEnd p l e rmX11_stuckEnds s m args below meth c cX11_stuckEnds D cy B ids A Q (some (.int r)) z' .ireturn True) {N : Nat} {K4 : Nat → Nat → Int32 → Int32 → St → Option (Int32 × St)} (hK4 : ∀ (x0 : Nat) (x1 : Nat) (x2 : Int32) (x3 : Int32) (hx0 : (11, x0) ∈ ids) (hx1 : (1, x1) ∈ ids) {z : St} {H : Heap} {locs : List Loc} {ls : Array Slot} (hr : zRep D cy B ids A s.heap z H locs) (hl : lv_has ls 5 [(0, .ref (B 11 x0)), (1, .ref (B 1 x1)), (2, .int x2), (3, .int x3)]), K4 x0 x1 x2 x3 z = some (r, z') → W p l e rmX11_stuckEnds s m args below meth c H locs 0 0 Q (F0 m 4 ls [])) (x0 : Nat) (x1 : Nat) (x2 : Int32) (x3 : Int32) (hx0 : (11, x0) ∈ ids) (hx1 : (1, x1) ∈ ids) {z : St} {H : Heap} {locs : List Loc} {ls : Array Slot} (hr : zRep D cy B ids A s.heap z H locs) (hl : lv_has ls 5 [(0, .ref (B 11 x0)), (1, .ref (B 1 x1)), (2, .int x2), (3, .int x3)]) (h : fX11_stuckEnds_4b N K4 x0 x1 x2 x3 z = some (r, z')) : W p l e rmX11_stuckEnds s m args below meth c H locs 0 0 Q (F0 m 4 ls []) := by
  unfold fX11_stuckEnds_4b at h
  refine lv_iload_n F.1 F.2.1 dX11_stuckEnds_4 rfl (lv_at hl 3 rfl) ?_
  refine lv_bipush (v := (6 : Int32)) F.1 F.2.1 dX11_stuckEnds_5 (by decide) ?_
  refine lv_icmp_ge (tgt := 91) F.1 F.2.1 dX11_stuckEnds_7 (by decide) (fun c1 => ?_) (fun c1 => ?_)
  · replace h := zi_t c1 h
    refine lv_iload_n F.1 F.2.1 dX11_stuckEnds_91 rfl (lv_at hl 2 rfl) ?_
    obtain ⟨rfl, rfl⟩ := zret h
    exact E _ _ _ _ dX11_stuckEnds_92 trivial hr
  · replace h := zi_f c1 h
    refine lv_aload_n F.1 F.2.1 dX11_stuckEnds_10 rfl (lv_at hl 1 rfl) ?_
    refine gf11_220 F hx1 hr dX11_stuckEnds_11 ?_
    refine lv_iload_n F.1 F.2.1 dX11_stuckEnds_14 rfl (lv_at hl 3 rfl) ?_
    replace h := zk_some h
    obtain ⟨c2, h⟩ := h
    refine zr_aaldv (k := 119) (by decide) rfl rfl rfl F (zal_a F hx1 (j := 11) rfl) hr dX11_stuckEnds_15 c2 (fun y3 ey3 => ?_)
    replace h := zl_sub ey3 h
    have hy3 := zal_q hr (zal_a F hx1 (j := 11) rfl) rfl ey3
    clear ey3
    refine zr_astore (lv' := [(4, va_rf (Option.map (B 2) y3)), (0, .ref (B 11 x0)), (1, .ref (B 1 x1)), (2, .int x2), (3, .int x3)]) F.1 F.2.1 dX11_stuckEnds_16 hl (by decide) rfl (fun ls hl => ?_)
    refine zr_aload F.1 F.2.1 dX11_stuckEnds_18 (lv_at hl 0 rfl) ?_
    replace h := zd_some h
    obtain ⟨a4, rfl, h⟩ := h
    refine gf11_279 F (hy3 _ rfl) hr dX11_stuckEnds_20 ?_
    refine lv_iconst (v := (2 : Int32)) F.1 F.2.1 dX11_stuckEnds_23 (by decide) ?_
    refine lv_icmp_ne (tgt := 85) F.1 F.2.1 dX11_stuckEnds_24 (by decide) (fun c5 => ?_) (fun c5 => ?_)
    · replace h := zi_t c5 h
      exact bX11_stuckEnds_85 hst F hA E hK4 x0 x1 x2 x3 hx0 hx1 hr (lv_sub hl [1, 2, 3, 4] rfl) h
    · replace h := zi_f (fun q => q c5) h
      refine lv_aload F.1 F.2.1 dX11_stuckEnds_27 (lv_at hl 0 rfl) ?_
      refine gf11_253 F (hy3 _ rfl) hr dX11_stuckEnds_29 (fun y6 ey6 => ?_)
      replace h := zl_sub ey6 h
      have hy6 := zal_g hr (hy3 _ rfl) (j := 12) rfl ey6
      clear ey6
      replace h := zd_some h
      obtain ⟨a7, rfl, h⟩ := h
      refine gf11_290 F (hy6 _ rfl) hr dX11_stuckEnds_32 ?_
      refine lv_iconst (v := (4 : Int32)) F.1 F.2.1 dX11_stuckEnds_35 (by decide) ?_
      refine lv_icmp_lt (tgt := 85) F.1 F.2.1 dX11_stuckEnds_36 (by decide) (fun c8 => ?_) (fun c8 => ?_)
      · replace h := zi_t c8 h
        exact bX11_stuckEnds_85 hst F hA E hK4 x0 x1 x2 x3 hx0 hx1 hr (lv_sub hl [1, 2, 3, 4] rfl) h
      · replace h := zi_f c8 h
        refine lv_aload F.1 F.2.1 dX11_stuckEnds_39 (lv_at hl 0 rfl) ?_
        refine gf11_253 F (hy3 _ rfl) hr dX11_stuckEnds_41 (fun y9 ey9 => ?_)
        replace h := zl_sub ey9 h
        have hy9 := zal_g hr (hy3 _ rfl) (j := 12) rfl ey9
        clear ey9
        replace h := zd_some h
        obtain ⟨a10, rfl, h⟩ := h
        refine gf11_290 F (hy9 _ rfl) hr dX11_stuckEnds_44 ?_
        refine lv_bipush (v := (10 : Int32)) F.1 F.2.1 dX11_stuckEnds_47 (by decide) ?_
        refine lv_icmp_le (tgt := 55) F.1 F.2.1 dX11_stuckEnds_49 (by decide) (fun c11 => ?_) (fun c11 => ?_)
        · replace h := zi_t c11 h
          refine lv_aload F.1 F.2.1 dX11_stuckEnds_55 (lv_at hl 0 rfl) ?_
          refine gf11_253 F (hy3 _ rfl) hr dX11_stuckEnds_57 (fun y12 ey12 => ?_)
          replace h := zl_sub ey12 h
          have hy12 := zal_g hr (hy3 _ rfl) (j := 12) rfl ey12
          clear ey12
          replace h := zd_some h
          obtain ⟨a13, rfl, h⟩ := h
          refine gf11_301 F (hy12 _ rfl) hr dX11_stuckEnds_60 (fun y14 ey14 => ?_)
          replace h := zl_sub ey14 h
          have hy14 := zal_g hr (hy12 _ rfl) (j := 16) rfl ey14
          clear ey14
          replace h := zd_some h
          obtain ⟨a15, rfl, h⟩ := h
          refine gf11_305 F (hy14 _ rfl) hr dX11_stuckEnds_63 ?_
          refine lv_if_le (tgt := 85) F.1 F.2.1 dX11_stuckEnds_66 (by decide) (fun c16 => ?_) (fun c16 => ?_)
          · replace h := zi_t c16 h
            exact bX11_stuckEnds_85 hst F hA E hK4 x0 x1 x2 x3 hx0 hx1 hr (lv_sub hl [1, 2, 3, 4] rfl) h
          · replace h := zi_f c16 h
            refine lv_aload_n F.1 F.2.1 dX11_stuckEnds_69 rfl (lv_at hl 1 rfl) ?_
            refine lv_aload_n F.1 F.2.1 dX11_stuckEnds_70 rfl (lv_at hl 2 rfl) ?_
            refine lv_aload F.1 F.2.1 dX11_stuckEnds_71 (lv_at hl 0 rfl) ?_
            refine gf11_384 F (hy3 _ rfl) hr dX11_stuckEnds_73 ?_
            replace h := zc_some h
            obtain ⟨r17, z18, hc19, h⟩ := h
            refine zr_calli (zrun_V (As := [.ref (B 1 x1), .int (zgI z 2 2 a4)]) (rest := []) zq_310 zq_312 zs_X11_joinedWith zq_313 zq_1 hdX11_joinedWith (by decide) (T := TX11) (N := 21) rfl (okX11_joinedWith l D cy B ids hst N x0 hx0 x1 hx1 (zgI z 2 2 a4)  hr.2.2 hc19) F hr hx0 hl.1 rfl (by decide) dX11_stuckEnds_76 rfl rfl hroX11_stuckEnds_X11_joinedWith ⟨Nat.zero_le _, Nat.zero_le _⟩) F hA hr (fun H locs hw20 hr => ?_)
            clear hc19
            refine lv_if_eq (tgt := 85) F.1 F.2.1 dX11_stuckEnds_79 (by decide) (fun c21 => ?_) (fun c21 => ?_)
            · replace h := zi_t c21 h
              exact bX11_stuckEnds_85 hst F hA E hK4 x0 x1 x2 x3 hx0 hx1 hr (lv_sub hl [1, 2, 3, 4] rfl) h
            · replace h := zi_f c21 h
              obtain ⟨v22, ev22⟩ : ∃ y : Int32, y = (x2 + 1) := ⟨_, rfl⟩
              replace h := zl_sub ev22 h
              refine lv_iinc (v := v22) (lv' := [(2, .int v22), (4, .ref (B 2 a4)), (0, .ref (B 11 x0)), (1, .ref (B 1 x1)), (3, .int x3)]) F.1 F.2.1 dX11_stuckEnds_82 hl (k := 3) rfl (by rw [ev22]; rfl) (by decide) rfl (fun ls hl => ?_)
              exact bX11_stuckEnds_85 hst F hA E hK4 x0 x1 v22 x3 hx0 hx1 hr (lv_sub hl [2, 3, 0, 4] rfl) h
        · replace h := zi_f c11 h
          refine lv_goto (tgt := 85) F.1 F.2.1 dX11_stuckEnds_52 (by decide) ?_
          exact bX11_stuckEnds_85 hst F hA E hK4 x0 x1 x2 x3 hx0 hx1 hr (lv_sub hl [1, 2, 3, 4] rfl) h
theorem lX11_stuckEnds_4 (hst : zSt B ids) (F : zFx p m c cX11_stuckEnds 5 s args RX11 D cy B ids A) (hA : ∀ q : Nat, s.heap.size ≤ q → A q) {r : Int32} {z' : St} (E : zEnd p l e rmX11_stuckEnds s m args below meth c cX11_stuckEnds D cy B ids A Q (some (.int r)) z' .ireturn True) {N : Nat}  : ∀ (n : Nat) (x0 : Nat) (x1 : Nat) (x2 : Int32) (x3 : Int32) (hx0 : (11, x0) ∈ ids) (hx1 : (1, x1) ∈ ids) {z : St} {H : Heap} {locs : List Loc} {ls : Array Slot} (hr : zRep D cy B ids A s.heap z H locs) (hl : lv_has ls 5 [(0, .ref (B 11 x0)), (1, .ref (B 1 x1)), (2, .int x2), (3, .int x3)]), fX11_stuckEnds_4 N  n x0 x1 x2 x3 z = some (r, z') → W p l e rmX11_stuckEnds s m args below meth c H locs 0 0 Q (F0 m 4 ls []) := by
  intro n
  induction n with
  | zero => intro x0 x1 x2 x3 hx0 hx1 z H locs ls hr hl h; cases h
  | succ n ih => intro x0 x1 x2 x3 hx0 hx1 z H locs ls hr hl h; exact bX11_stuckEnds_4 hst F hA E ih x0 x1 x2 x3 hx0 hx1 hr hl h
def fX11_stuckEnds (N : Nat)  (x0 : Nat) (x1 : Nat) (z : St) : Option (Int32 × St) := fX11_stuckEnds_4 N N x0 x1 (0 : Int32) (0 : Int32) z
set_option maxHeartbeats 4000000 in
set_option maxRecDepth 100000 in
theorem bX11_stuckEnds_0 (hst : zSt B ids) (F : zFx p m c cX11_stuckEnds 5 s args RX11 D cy B ids A) (hA : ∀ q : Nat, s.heap.size ≤ q → A q) {r : Int32} {z' : St} (E : zEnd p l e rmX11_stuckEnds s m args below meth c cX11_stuckEnds D cy B ids A Q (some (.int r)) z' .ireturn True) {N : Nat}  (x0 : Nat) (x1 : Nat) (hx0 : (11, x0) ∈ ids) (hx1 : (1, x1) ∈ ids) {z : St} {H : Heap} {locs : List Loc} {ls : Array Slot} (hr : zRep D cy B ids A s.heap z H locs) (hl : lv_has ls 5 [(0, .ref (B 11 x0)), (1, .ref (B 1 x1))]) (h : fX11_stuckEnds N x0 x1 z = some (r, z')) : W p l e rmX11_stuckEnds s m args below meth c H locs 0 0 Q (F0 m 0 ls []) := by
  unfold fX11_stuckEnds at h
  refine lv_iconst (v := (0 : Int32)) F.1 F.2.1 dX11_stuckEnds_0 (by decide) ?_
  refine lv_istore_n (lv' := [(2, .int (0 : Int32)), (0, .ref (B 11 x0)), (1, .ref (B 1 x1))]) F.1 F.2.1 dX11_stuckEnds_1 rfl hl (by decide) rfl (fun ls hl => ?_)
  refine lv_iconst (v := (0 : Int32)) F.1 F.2.1 dX11_stuckEnds_2 (by decide) ?_
  refine lv_istore_n (lv' := [(3, .int (0 : Int32)), (2, .int (0 : Int32)), (0, .ref (B 11 x0)), (1, .ref (B 1 x1))]) F.1 F.2.1 dX11_stuckEnds_3 rfl hl (by decide) rfl (fun ls hl => ?_)
  exact lX11_stuckEnds_4 hst F hA E  _ x0 x1 (0 : Int32) (0 : Int32) hx0 hx1 hr (lv_sub hl [2, 3, 1, 0] rfl) h
end SX11_stuckEnds
set_option maxRecDepth 100000 in
theorem okX11_stuckEnds (l : Launch) (D : va_G) (cy : Nat → ClassId) (B : Nat → Nat → Nat) (ids : List (Nat × Nat)) (hst : zSt B ids) (N : Nat) (x0 : Nat) (hx0 : (11, x0) ∈ ids) (x1 : Nat) (hx1 : (1, x1) ∈ ids) {z : St} {r : Int32} {z' : St} (hW : zWf ids z) (h : fX11_stuckEnds N x0 x1 z = some (r, z')) : zM l yX11_stuckEnds (zws yX11_stuckEnds cX11_stuckEnds 5 (some .int)) rmX11_stuckEnds D cy B ids [.ref (B 11 x0), .ref (B 1 x1)] (some (.int r)) True z z' :=
  zM_of hst hW (by decide +kernel) (Nat.le_of_ble_eq_true rfl) (fun p e s m args below meth c A ls F hA hret hlocks hr hl => bX11_stuckEnds_0 hst F hA (zEnd_i F hret hlocks) x0 x1 hx0 hx1 hr hl h)
abbrev rmX11_spreadReach : Room := { frames := 0, cells := 0, slots := 0, locals := 0 }
theorem hdX11_spreadReach : yX11_spreadReach.cls ≠ "java/lang/invoke/MethodHandle" ∧ yX11_spreadReach.cls ≠ "java/lang/invoke/VarHandle" ∧ (parseMethodDescriptor yX11_spreadReach.desc).map (fun d => d.parameters.length) = some 1 := by decide +kernel
section SX11_spreadReach
variable {p : Program} {l : Launch} {e : Env} {s : State} {m : MethodId} {args : Array Value} {below : List Frame} {meth : Method} {c : Code} {Q : State → Prop} {D : va_G} {cy : Nat → ClassId} {B : Nat → Nat → Nat} {ids : List (Nat × Nat)} {A : Nat → Prop}
def fX11_spreadReach_120 (N : Nat) (K4 : Nat → Nat → Int32 → Int32 → St → Option (Int32 × St)) (K40 : Nat → Nat → Int32 → Int32 → Nat → Int32 → Int32 → St → Option (Int32 × St)) (x0 : Nat) (x1 : Nat) (x2 : Int32) (x3 : Int32) (x4 : Nat) (x5 : Int32) (x6 : Int32) (z : St) : Option (Int32 × St) := zl (x6 + 1) fun v1 => K40 x0 x1 x2 x3 x4 x5 v1 z
set_option maxHeartbeats 4000000 in
set_option maxRecDepth 100000 in
theorem bX11_spreadReach_120 (hst : zSt B ids) (F : zFx p m c cX11_spreadReach 8 s args RX11 D cy B ids A) (hA : ∀ q : Nat, s.heap.size ≤ q → A q) {r : Int32} {z' : St} (E : zEnd p l e rmX11_spreadReach s m args below meth c cX11_spreadReach D cy B ids A Q (some (.int r)) z' .ireturn (r = 0 ∨ r = 1)) {N : Nat} {K4 : Nat → Nat → Int32 → Int32 → St → Option (Int32 × St)} {K40 : Nat → Nat → Int32 → Int32 → Nat → Int32 → Int32 → St → Option (Int32 × St)} (hK4 : ∀ (x0 : Nat) (x1 : Nat) (x2 : Int32) (x3 : Int32) (hx0 : (11, x0) ∈ ids) (hx1 : (1, x1) ∈ ids) {z : St} {H : Heap} {locs : List Loc} {ls : Array Slot} (hr : zRep D cy B ids A s.heap z H locs) (hl : lv_has ls 8 [(0, .ref (B 11 x0)), (1, .ref (B 1 x1)), (2, .int x2), (3, .int x3)]), K4 x0 x1 x2 x3 z = some (r, z') → W p l e rmX11_spreadReach s m args below meth c H locs 0 0 Q (F0 m 4 ls [])) (hK40 : ∀ (x0 : Nat) (x1 : Nat) (x2 : Int32) (x3 : Int32) (x4 : Nat) (x5 : Int32) (x6 : Int32) (hx0 : (11, x0) ∈ ids) (hx1 : (1, x1) ∈ ids) (hx4 : (8, x4) ∈ ids) {z : St} {H : Heap} {locs : List Loc} {ls : Array Slot} (hr : zRep D cy B ids A s.heap z H locs) (hl : lv_has ls 8 [(0, .ref (B 11 x0)), (1, .ref (B 1 x1)), (2, .int x2), (3, .int x3), (4, .ref (B 8 x4)), (5, .int x5), (6, .int x6)]), K40 x0 x1 x2 x3 x4 x5 x6 z = some (r, z') → W p l e rmX11_spreadReach s m args below meth c H locs 0 0 Q (F0 m 40 ls [])) (x0 : Nat) (x1 : Nat) (x2 : Int32) (x3 : Int32) (x4 : Nat) (x5 : Int32) (x6 : Int32) (hx0 : (11, x0) ∈ ids) (hx1 : (1, x1) ∈ ids) (hx4 : (8, x4) ∈ ids) {z : St} {H : Heap} {locs : List Loc} {ls : Array Slot} (hr : zRep D cy B ids A s.heap z H locs) (hl : lv_has ls 8 [(0, .ref (B 11 x0)), (1, .ref (B 1 x1)), (2, .int x2), (3, .int x3), (4, .ref (B 8 x4)), (5, .int x5), (6, .int x6)]) (h : fX11_spreadReach_120 N K4 K40 x0 x1 x2 x3 x4 x5 x6 z = some (r, z')) : W p l e rmX11_spreadReach s m args below meth c H locs 0 0 Q (F0 m 120 ls []) := by
  unfold fX11_spreadReach_120 at h
  obtain ⟨v1, ev1⟩ : ∃ y : Int32, y = (x6 + 1) := ⟨_, rfl⟩
  replace h := zl_sub ev1 h
  refine lv_iinc (v := v1) (lv' := [(6, .int v1), (0, .ref (B 11 x0)), (1, .ref (B 1 x1)), (2, .int x2), (3, .int x3), (4, .ref (B 8 x4)), (5, .int x5)]) F.1 F.2.1 dX11_spreadReach_120 hl (k := 6) rfl (by rw [ev1]; rfl) (by decide) rfl (fun ls hl => ?_)
  refine lv_goto (tgt := 40) F.1 F.2.1 dX11_spreadReach_123 (by decide) ?_
  exact hK40 x0 x1 x2 x3 x4 x5 v1 hx0 hx1 hx4 hr (lv_sub hl [1, 2, 3, 4, 5, 6, 0] rfl) h
def fX11_spreadReach_126 (N : Nat) (K4 : Nat → Nat → Int32 → Int32 → St → Option (Int32 × St)) (x0 : Nat) (x1 : Nat) (x2 : Int32) (x3 : Int32) (z : St) : Option (Int32 × St) := zl (x3 + 1) fun v1 => K4 x0 x1 x2 v1 z
set_option maxHeartbeats 4000000 in
set_option maxRecDepth 100000 in
theorem bX11_spreadReach_126 (hst : zSt B ids) (F : zFx p m c cX11_spreadReach 8 s args RX11 D cy B ids A) (hA : ∀ q : Nat, s.heap.size ≤ q → A q) {r : Int32} {z' : St} (E : zEnd p l e rmX11_spreadReach s m args below meth c cX11_spreadReach D cy B ids A Q (some (.int r)) z' .ireturn (r = 0 ∨ r = 1)) {N : Nat} {K4 : Nat → Nat → Int32 → Int32 → St → Option (Int32 × St)} (hK4 : ∀ (x0 : Nat) (x1 : Nat) (x2 : Int32) (x3 : Int32) (hx0 : (11, x0) ∈ ids) (hx1 : (1, x1) ∈ ids) {z : St} {H : Heap} {locs : List Loc} {ls : Array Slot} (hr : zRep D cy B ids A s.heap z H locs) (hl : lv_has ls 8 [(0, .ref (B 11 x0)), (1, .ref (B 1 x1)), (2, .int x2), (3, .int x3)]), K4 x0 x1 x2 x3 z = some (r, z') → W p l e rmX11_spreadReach s m args below meth c H locs 0 0 Q (F0 m 4 ls [])) (x0 : Nat) (x1 : Nat) (x2 : Int32) (x3 : Int32) (hx0 : (11, x0) ∈ ids) (hx1 : (1, x1) ∈ ids) {z : St} {H : Heap} {locs : List Loc} {ls : Array Slot} (hr : zRep D cy B ids A s.heap z H locs) (hl : lv_has ls 8 [(0, .ref (B 11 x0)), (1, .ref (B 1 x1)), (2, .int x2), (3, .int x3)]) (h : fX11_spreadReach_126 N K4 x0 x1 x2 x3 z = some (r, z')) : W p l e rmX11_spreadReach s m args below meth c H locs 0 0 Q (F0 m 126 ls []) := by
  unfold fX11_spreadReach_126 at h
  obtain ⟨v1, ev1⟩ : ∃ y : Int32, y = (x3 + 1) := ⟨_, rfl⟩
  replace h := zl_sub ev1 h
  refine lv_iinc (v := v1) (lv' := [(3, .int v1), (0, .ref (B 11 x0)), (1, .ref (B 1 x1)), (2, .int x2)]) F.1 F.2.1 dX11_spreadReach_126 hl (k := 3) rfl (by rw [ev1]; rfl) (by decide) rfl (fun ls hl => ?_)
  refine lv_goto (tgt := 4) F.1 F.2.1 dX11_spreadReach_129 (by decide) ?_
  exact hK4 x0 x1 x2 v1 hx0 hx1 hr (lv_sub hl [1, 2, 3, 0] rfl) h
def fX11_spreadReach_40b (N : Nat) (K4 : Nat → Nat → Int32 → Int32 → St → Option (Int32 × St)) (K40 : Nat → Nat → Int32 → Int32 → Nat → Int32 → Int32 → St → Option (Int32 × St)) (x0 : Nat) (x1 : Nat) (x2 : Int32) (x3 : Int32) (x4 : Nat) (x5 : Int32) (x6 : Int32) (z : St) : Option (Int32 × St) := zl (zgR z 8 1 x4) fun y1 => zd y1 fun a2 => if (zgI z 5 8 a2) ≤ x6 then (fX11_spreadReach_126 N K4 x0 x1 x2 x3 z) else (zl (zgR z 8 1 x4) fun y4 => zd y4 fun a5 => if (zgI z 5 3 a5) = 0 then (fX11_spreadReach_126 N K4 x0 x1 x2 x3 z) else (zl (zgR z 8 1 x4) fun y7 => zd y7 fun a8 => zk x6 8 <| zl (zgQ z 123 a8 (Int32.toNatClampNeg x6)) fun y10 => zd y10 fun a11 => zl (zgR z 8 0 a11) fun y12 => zd y12 fun a13 => if (zgI z 1 1 a13) = 0 then (fX11_spreadReach_120 N K4 K40 x0 x1 x2 x3 x4 x5 x6 z) else (zk (zgI z 1 0 a13) 16 <| if x5 < (zgA z 146 x0 (Int32.toNatClampNeg (zgI z 1 0 a13))) then (zk (zgI z 1 0 a13) 16 <| zl (zsA z 146 x0 (Int32.toNatClampNeg (zgI z 1 0 a13)) x5) fun z18 => fX11_spreadReach_120 N K4 K40 x0 x1 (1 : Int32) x3 x4 x5 x6 z18) else (fX11_spreadReach_120 N K4 K40 x0 x1 x2 x3 x4 x5 x6 z))))
def fX11_spreadReach_40 (N : Nat) (K4 : Nat → Nat → Int32 → Int32 → St → Option (Int32 × St)) : Nat → Nat → Nat → Int32 → Int32 → Nat → Int32 → Int32 → St → Option (Int32 × St)
  | 0 => fun _ _ _ _ _ _ _ _ => none
  | n + 1 => fX11_spreadReach_40b N K4 (fX11_spreadReach_40 N K4 n)
set_option maxHeartbeats 4000000 in
set_option maxRecDepth 100000 in
theorem bX11_spreadReach_40 (hst : zSt B ids) (F : zFx p m c cX11_spreadReach 8 s args RX11 D cy B ids A) (hA : ∀ q : Nat, s.heap.size ≤ q → A q) {r : Int32} {z' : St} (E : zEnd p l e rmX11_spreadReach s m args below meth c cX11_spreadReach D cy B ids A Q (some (.int r)) z' .ireturn (r = 0 ∨ r = 1)) {N : Nat} {K4 : Nat → Nat → Int32 → Int32 → St → Option (Int32 × St)} {K40 : Nat → Nat → Int32 → Int32 → Nat → Int32 → Int32 → St → Option (Int32 × St)} (hK4 : ∀ (x0 : Nat) (x1 : Nat) (x2 : Int32) (x3 : Int32) (hx0 : (11, x0) ∈ ids) (hx1 : (1, x1) ∈ ids) {z : St} {H : Heap} {locs : List Loc} {ls : Array Slot} (hr : zRep D cy B ids A s.heap z H locs) (hl : lv_has ls 8 [(0, .ref (B 11 x0)), (1, .ref (B 1 x1)), (2, .int x2), (3, .int x3)]), K4 x0 x1 x2 x3 z = some (r, z') → W p l e rmX11_spreadReach s m args below meth c H locs 0 0 Q (F0 m 4 ls [])) (hK40 : ∀ (x0 : Nat) (x1 : Nat) (x2 : Int32) (x3 : Int32) (x4 : Nat) (x5 : Int32) (x6 : Int32) (hx0 : (11, x0) ∈ ids) (hx1 : (1, x1) ∈ ids) (hx4 : (8, x4) ∈ ids) {z : St} {H : Heap} {locs : List Loc} {ls : Array Slot} (hr : zRep D cy B ids A s.heap z H locs) (hl : lv_has ls 8 [(0, .ref (B 11 x0)), (1, .ref (B 1 x1)), (2, .int x2), (3, .int x3), (4, .ref (B 8 x4)), (5, .int x5), (6, .int x6)]), K40 x0 x1 x2 x3 x4 x5 x6 z = some (r, z') → W p l e rmX11_spreadReach s m args below meth c H locs 0 0 Q (F0 m 40 ls [])) (x0 : Nat) (x1 : Nat) (x2 : Int32) (x3 : Int32) (x4 : Nat) (x5 : Int32) (x6 : Int32) (hx0 : (11, x0) ∈ ids) (hx1 : (1, x1) ∈ ids) (hx4 : (8, x4) ∈ ids) {z : St} {H : Heap} {locs : List Loc} {ls : Array Slot} (hr : zRep D cy B ids A s.heap z H locs) (hl : lv_has ls 8 [(0, .ref (B 11 x0)), (1, .ref (B 1 x1)), (2, .int x2), (3, .int x3), (4, .ref (B 8 x4)), (5, .int x5), (6, .int x6)]) (h : fX11_spreadReach_40b N K4 K40 x0 x1 x2 x3 x4 x5 x6 z = some (r, z')) : W p l e rmX11_spreadReach s m args below meth c H locs 0 0 Q (F0 m 40 ls []) := by
  unfold fX11_spreadReach_40b at h
  refine lv_iload F.1 F.2.1 dX11_spreadReach_40 (lv_at hl 6 rfl) ?_
  refine lv_aload F.1 F.2.1 dX11_spreadReach_42 (lv_at hl 4 rfl) ?_
  refine gf11_261 F hx4 hr dX11_spreadReach_44 (fun y1 ey1 => ?_)
  replace h := zl_sub ey1 h
  have hy1 := zal_g hr hx4 (j := 1) rfl ey1
  clear ey1
  replace h := zd_some h
  obtain ⟨a2, rfl, h⟩ := h
  refine gf11_124 F (hy1 _ rfl) hr dX11_spreadReach_47 ?_
  refine lv_icmp_ge (tgt := 126) F.1 F.2.1 dX11_spreadReach_50 (by decide) (fun c3 => ?_) (fun c3 => ?_)
  · replace h := zi_t c3 h
    exact bX11_spreadReach_126 hst F hA E hK4 x0 x1 x2 x3 hx0 hx1 hr (lv_sub hl [0, 1, 2, 3] rfl) h
  · replace h := zi_f c3 h
    refine lv_aload F.1 F.2.1 dX11_spreadReach_53 (lv_at hl 4 rfl) ?_
    refine gf11_261 F hx4 hr dX11_spreadReach_55 (fun y4 ey4 => ?_)
    replace h := zl_sub ey4 h
    have hy4 := zal_g hr hx4 (j := 1) rfl ey4
    clear ey4
    replace h := zd_some h
    obtain ⟨a5, rfl, h⟩ := h
    refine gf11_158 F (hy4 _ rfl) hr dX11_spreadReach_58 ?_
    refine lv_if_eq (tgt := 126) F.1 F.2.1 dX11_spreadReach_61 (by decide) (fun c6 => ?_) (fun c6 => ?_)
    · replace h := zi_t c6 h
      exact bX11_spreadReach_126 hst F hA E hK4 x0 x1 x2 x3 hx0 hx1 hr (lv_sub hl [0, 1, 2, 3] rfl) h
    · replace h := zi_f c6 h
      refine lv_aload F.1 F.2.1 dX11_spreadReach_64 (lv_at hl 4 rfl) ?_
      refine gf11_261 F hx4 hr dX11_spreadReach_66 (fun y7 ey7 => ?_)
      replace h := zl_sub ey7 h
      have hy7 := zal_g hr hx4 (j := 1) rfl ey7
      clear ey7
      replace h := zd_some h
      obtain ⟨a8, rfl, h⟩ := h
      refine gf11_138 F (hy7 _ rfl) hr dX11_spreadReach_69 ?_
      refine lv_iload F.1 F.2.1 dX11_spreadReach_72 (lv_at hl 6 rfl) ?_
      replace h := zk_some h
      obtain ⟨c9, h⟩ := h
      refine zr_aaldv (k := 123) (by decide) rfl rfl (zlen_d (by decide)) F (zal_a F (hy7 _ rfl) (j := 7) rfl) hr dX11_spreadReach_74 c9 (fun y10 ey10 => ?_)
      replace h := zl_sub ey10 h
      have hy10 := zal_q hr (zal_a F (hy7 _ rfl) (j := 7) rfl) rfl ey10
      clear ey10
      replace h := zd_some h
      obtain ⟨a11, rfl, h⟩ := h
      refine gf11_474 F (hy10 _ rfl) hr dX11_spreadReach_75 (fun y12 ey12 => ?_)
      replace h := zl_sub ey12 h
      have hy12 := zal_g hr (hy10 _ rfl) (j := 0) rfl ey12
      clear ey12
      refine zr_astore (lv' := [(7, va_rf (Option.map (B 1) y12)), (0, .ref (B 11 x0)), (1, .ref (B 1 x1)), (2, .int x2), (3, .int x3), (4, .ref (B 8 x4)), (5, .int x5), (6, .int x6)]) F.1 F.2.1 dX11_spreadReach_78 hl (by decide) rfl (fun ls hl => ?_)
      refine zr_aload F.1 F.2.1 dX11_spreadReach_80 (lv_at hl 0 rfl) ?_
      replace h := zd_some h
      obtain ⟨a13, rfl, h⟩ := h
      refine gf11_109 F (hy12 _ rfl) hr dX11_spreadReach_82 ?_
      refine lv_if_eq (tgt := 120) F.1 F.2.1 dX11_spreadReach_85 (by decide) (fun c14 => ?_) (fun c14 => ?_)
      · replace h := zi_t c14 h
        exact bX11_spreadReach_120 hst F hA E hK4 hK40 x0 x1 x2 x3 x4 x5 x6 hx0 hx1 hx4 hr (lv_sub hl [1, 2, 3, 4, 5, 6, 7] rfl) h
      · replace h := zi_f c14 h
        refine lv_aload_n F.1 F.2.1 dX11_spreadReach_88 rfl (lv_at hl 1 rfl) ?_
        refine gf11_49 F hx0 hr dX11_spreadReach_89 ?_
        refine lv_aload F.1 F.2.1 dX11_spreadReach_92 (lv_at hl 0 rfl) ?_
        refine gf11_484 F (hy12 _ rfl) hr dX11_spreadReach_94 ?_
        replace h := zk_some h
        obtain ⟨c15, h⟩ := h
        refine zr_iald (k := 146) (by decide) rfl (by decide) F (zal_a F hx0 (j := 20) rfl) hr dX11_spreadReach_97 c15 ?_
        refine lv_iload F.1 F.2.1 dX11_spreadReach_98 (lv_at hl 6 rfl) ?_
        refine lv_icmp_gt (tgt := 106) F.1 F.2.1 dX11_spreadReach_100 (by decide) (fun c16 => ?_) (fun c16 => ?_)
        · replace h := zi_t c16 h
          refine lv_aload_n F.1 F.2.1 dX11_spreadReach_106 rfl (lv_at hl 1 rfl) ?_
          refine gf11_49 F hx0 hr dX11_spreadReach_107 ?_
          refine lv_aload F.1 F.2.1 dX11_spreadReach_110 (lv_at hl 0 rfl) ?_
          refine gf11_484 F (hy12 _ rfl) hr dX11_spreadReach_112 ?_
          refine lv_iload F.1 F.2.1 dX11_spreadReach_115 (lv_at hl 6 rfl) ?_
          replace h := zk_some h
          obtain ⟨c17, h⟩ := h
          refine zr_iast (k := 146) (by decide) rfl (by decide) F (zal_a F hx0 (j := 20) rfl) hr dX11_spreadReach_117 c17 (fun H locs z18 ez18 hr => ?_)
          replace h := zl_sub ez18 h
          clear ez18
          refine lv_iconst (v := (1 : Int32)) F.1 F.2.1 dX11_spreadReach_118 (by decide) ?_
          refine lv_istore_n (lv' := [(2, .int (1 : Int32)), (7, .ref (B 1 a13)), (0, .ref (B 11 x0)), (1, .ref (B 1 x1)), (3, .int x3), (4, .ref (B 8 x4)), (5, .int x5), (6, .int x6)]) F.1 F.2.1 dX11_spreadReach_119 rfl hl (by decide) rfl (fun ls hl => ?_)
          exact bX11_spreadReach_120 hst F hA E hK4 hK40 x0 x1 (1 : Int32) x3 x4 x5 x6 hx0 hx1 hx4 hr (lv_sub hl [2, 3, 0, 4, 5, 6, 7] rfl) h
        · replace h := zi_f c16 h
          refine lv_goto (tgt := 120) F.1 F.2.1 dX11_spreadReach_103 (by decide) ?_
          exact bX11_spreadReach_120 hst F hA E hK4 hK40 x0 x1 x2 x3 x4 x5 x6 hx0 hx1 hx4 hr (lv_sub hl [1, 2, 3, 4, 5, 6, 7] rfl) h
theorem lX11_spreadReach_40 (hst : zSt B ids) (F : zFx p m c cX11_spreadReach 8 s args RX11 D cy B ids A) (hA : ∀ q : Nat, s.heap.size ≤ q → A q) {r : Int32} {z' : St} (E : zEnd p l e rmX11_spreadReach s m args below meth c cX11_spreadReach D cy B ids A Q (some (.int r)) z' .ireturn (r = 0 ∨ r = 1)) {N : Nat} {K4 : Nat → Nat → Int32 → Int32 → St → Option (Int32 × St)} (hK4 : ∀ (x0 : Nat) (x1 : Nat) (x2 : Int32) (x3 : Int32) (hx0 : (11, x0) ∈ ids) (hx1 : (1, x1) ∈ ids) {z : St} {H : Heap} {locs : List Loc} {ls : Array Slot} (hr : zRep D cy B ids A s.heap z H locs) (hl : lv_has ls 8 [(0, .ref (B 11 x0)), (1, .ref (B 1 x1)), (2, .int x2), (3, .int x3)]), K4 x0 x1 x2 x3 z = some (r, z') → W p l e rmX11_spreadReach s m args below meth c H locs 0 0 Q (F0 m 4 ls [])) : ∀ (n : Nat) (x0 : Nat) (x1 : Nat) (x2 : Int32) (x3 : Int32) (x4 : Nat) (x5 : Int32) (x6 : Int32) (hx0 : (11, x0) ∈ ids) (hx1 : (1, x1) ∈ ids) (hx4 : (8, x4) ∈ ids) {z : St} {H : Heap} {locs : List Loc} {ls : Array Slot} (hr : zRep D cy B ids A s.heap z H locs) (hl : lv_has ls 8 [(0, .ref (B 11 x0)), (1, .ref (B 1 x1)), (2, .int x2), (3, .int x3), (4, .ref (B 8 x4)), (5, .int x5), (6, .int x6)]), fX11_spreadReach_40 N K4 n x0 x1 x2 x3 x4 x5 x6 z = some (r, z') → W p l e rmX11_spreadReach s m args below meth c H locs 0 0 Q (F0 m 40 ls []) := by
  intro n
  induction n with
  | zero => intro x0 x1 x2 x3 x4 x5 x6 hx0 hx1 hx4 z H locs ls hr hl h; cases h
  | succ n ih => intro x0 x1 x2 x3 x4 x5 x6 hx0 hx1 hx4 z H locs ls hr hl h; exact bX11_spreadReach_40 hst F hA E hK4 ih x0 x1 x2 x3 x4 x5 x6 hx0 hx1 hx4 hr hl h
def fX11_spreadReach_4b (N : Nat) (K4 : Nat → Nat → Int32 → Int32 → St → Option (Int32 × St)) (x0 : Nat) (x1 : Nat) (x2 : Int32) (x3 : Int32) (z : St) : Option (Int32 × St) := if (zgI z 1 3 x1) ≤ x3 then (zq (x2 = 0 ∨ x2 = 1) <| some (x2, z)) else (zk x3 6 <| zl (zgQ z 112 x1 (Int32.toNatClampNeg x3)) fun y4 => zk (zgI z 1 0 x1) 16 <| zd y4 fun a6 => zl ((zgA z 146 x0 (Int32.toNatClampNeg (zgI z 1 0 x1))) + (zgI z 8 5 a6)) fun v7 => fX11_spreadReach_40 N K4 N x0 x1 x2 x3 a6 v7 (0 : Int32) z)
def fX11_spreadReach_4 (N : Nat)  : Nat → Nat → Nat → Int32 → Int32 → St → Option (Int32 × St)
  | 0 => fun _ _ _ _ _ => none
  | n + 1 => fX11_spreadReach_4b N (fX11_spreadReach_4 N  n)
set_option maxHeartbeats 4000000 in
set_option maxRecDepth 100000 in
theorem bX11_spreadReach_4 (hst : zSt B ids) (F : zFx p m c cX11_spreadReach 8 s args RX11 D cy B ids A) (hA : ∀ q : Nat, s.heap.size ≤ q → A q) {r : Int32} {z' : St} (E : zEnd p l e rmX11_spreadReach s m args below meth c cX11_spreadReach D cy B ids A Q (some (.int r)) z' .ireturn (r = 0 ∨ r = 1)) {N : Nat} {K4 : Nat → Nat → Int32 → Int32 → St → Option (Int32 × St)} (hK4 : ∀ (x0 : Nat) (x1 : Nat) (x2 : Int32) (x3 : Int32) (hx0 : (11, x0) ∈ ids) (hx1 : (1, x1) ∈ ids) {z : St} {H : Heap} {locs : List Loc} {ls : Array Slot} (hr : zRep D cy B ids A s.heap z H locs) (hl : lv_has ls 8 [(0, .ref (B 11 x0)), (1, .ref (B 1 x1)), (2, .int x2), (3, .int x3)]), K4 x0 x1 x2 x3 z = some (r, z') → W p l e rmX11_spreadReach s m args below meth c H locs 0 0 Q (F0 m 4 ls [])) (x0 : Nat) (x1 : Nat) (x2 : Int32) (x3 : Int32) (hx0 : (11, x0) ∈ ids) (hx1 : (1, x1) ∈ ids) {z : St} {H : Heap} {locs : List Loc} {ls : Array Slot} (hr : zRep D cy B ids A s.heap z H locs) (hl : lv_has ls 8 [(0, .ref (B 11 x0)), (1, .ref (B 1 x1)), (2, .int x2), (3, .int x3)]) (h : fX11_spreadReach_4b N K4 x0 x1 x2 x3 z = some (r, z')) : W p l e rmX11_spreadReach s m args below meth c H locs 0 0 Q (F0 m 4 ls []) := by
  unfold fX11_spreadReach_4b at h
  refine lv_iload_n F.1 F.2.1 dX11_spreadReach_4 rfl (lv_at hl 3 rfl) ?_
  refine lv_aload_n F.1 F.2.1 dX11_spreadReach_5 rfl (lv_at hl 1 rfl) ?_
  refine gf11_113 F hx1 hr dX11_spreadReach_6 ?_
  refine lv_icmp_ge (tgt := 132) F.1 F.2.1 dX11_spreadReach_9 (by decide) (fun c1 => ?_) (fun c1 => ?_)
  · replace h := zi_t c1 h
    refine lv_iload_n F.1 F.2.1 dX11_spreadReach_132 rfl (lv_at hl 2 rfl) ?_
    replace h := zq_some h
    obtain ⟨c2, h⟩ := h
    obtain ⟨rfl, rfl⟩ := zret h
    exact E _ _ _ _ dX11_spreadReach_133 c2 hr
  · replace h := zi_f c1 h
    refine lv_aload_n F.1 F.2.1 dX11_spreadReach_12 rfl (lv_at hl 1 rfl) ?_
    refine gf11_134 F hx1 hr dX11_spreadReach_13 ?_
    refine lv_iload_n F.1 F.2.1 dX11_spreadReach_16 rfl (lv_at hl 3 rfl) ?_
    replace h := zk_some h
    obtain ⟨c3, h⟩ := h
    refine zr_aaldv (k := 112) (by decide) rfl rfl (zlen_d (by decide)) F (zal_a F hx1 (j := 2) rfl) hr dX11_spreadReach_17 c3 (fun y4 ey4 => ?_)
    replace h := zl_sub ey4 h
    have hy4 := zal_q hr (zal_a F hx1 (j := 2) rfl) rfl ey4
    clear ey4
    refine zr_astore (lv' := [(4, va_rf (Option.map (B 8) y4)), (0, .ref (B 11 x0)), (1, .ref (B 1 x1)), (2, .int x2), (3, .int x3)]) F.1 F.2.1 dX11_spreadReach_18 hl (by decide) rfl (fun ls hl => ?_)
    refine lv_aload_n F.1 F.2.1 dX11_spreadReach_20 rfl (lv_at hl 1 rfl) ?_
    refine gf11_49 F hx0 hr dX11_spreadReach_21 ?_
    refine lv_aload_n F.1 F.2.1 dX11_spreadReach_24 rfl (lv_at hl 2 rfl) ?_
    refine gf11_484 F hx1 hr dX11_spreadReach_25 ?_
    replace h := zk_some h
    obtain ⟨c5, h⟩ := h
    refine zr_iald (k := 146) (by decide) rfl (by decide) F (zal_a F hx0 (j := 20) rfl) hr dX11_spreadReach_28 c5 ?_
    refine zr_aload F.1 F.2.1 dX11_spreadReach_29 (lv_at hl 0 rfl) ?_
    replace h := zd_some h
    obtain ⟨a6, rfl, h⟩ := h
    refine gf11_153 F (hy4 _ rfl) hr dX11_spreadReach_31 ?_
    refine lv_iadd F.1 F.2.1 dX11_spreadReach_34 ?_
    refine lv_topi (fun v7 ev7 => ?_)
    replace h := zl_sub ev7 h
    refine lv_istore (lv' := [(5, .int v7), (4, .ref (B 8 a6)), (0, .ref (B 11 x0)), (1, .ref (B 1 x1)), (2, .int x2), (3, .int x3)]) F.1 F.2.1 dX11_spreadReach_35 hl (by decide) rfl (fun ls hl => ?_)
    refine lv_iconst (v := (0 : Int32)) F.1 F.2.1 dX11_spreadReach_37 (by decide) ?_
    refine lv_istore (lv' := [(6, .int (0 : Int32)), (5, .int v7), (4, .ref (B 8 a6)), (0, .ref (B 11 x0)), (1, .ref (B 1 x1)), (2, .int x2), (3, .int x3)]) F.1 F.2.1 dX11_spreadReach_38 hl (by decide) rfl (fun ls hl => ?_)
    exact lX11_spreadReach_40 hst F hA E hK4 _ x0 x1 x2 x3 a6 v7 (0 : Int32) hx0 hx1 (hy4 _ rfl) hr (lv_sub hl [3, 4, 5, 6, 2, 1, 0] rfl) h
theorem lX11_spreadReach_4 (hst : zSt B ids) (F : zFx p m c cX11_spreadReach 8 s args RX11 D cy B ids A) (hA : ∀ q : Nat, s.heap.size ≤ q → A q) {r : Int32} {z' : St} (E : zEnd p l e rmX11_spreadReach s m args below meth c cX11_spreadReach D cy B ids A Q (some (.int r)) z' .ireturn (r = 0 ∨ r = 1)) {N : Nat}  : ∀ (n : Nat) (x0 : Nat) (x1 : Nat) (x2 : Int32) (x3 : Int32) (hx0 : (11, x0) ∈ ids) (hx1 : (1, x1) ∈ ids) {z : St} {H : Heap} {locs : List Loc} {ls : Array Slot} (hr : zRep D cy B ids A s.heap z H locs) (hl : lv_has ls 8 [(0, .ref (B 11 x0)), (1, .ref (B 1 x1)), (2, .int x2), (3, .int x3)]), fX11_spreadReach_4 N  n x0 x1 x2 x3 z = some (r, z') → W p l e rmX11_spreadReach s m args below meth c H locs 0 0 Q (F0 m 4 ls []) := by
  intro n
  induction n with
  | zero => intro x0 x1 x2 x3 hx0 hx1 z H locs ls hr hl h; cases h
  | succ n ih => intro x0 x1 x2 x3 hx0 hx1 z H locs ls hr hl h; exact bX11_spreadReach_4 hst F hA E ih x0 x1 x2 x3 hx0 hx1 hr hl h
def fX11_spreadReach (N : Nat)  (x0 : Nat) (x1 : Nat) (z : St) : Option (Int32 × St) := fX11_spreadReach_4 N N x0 x1 (0 : Int32) (0 : Int32) z
set_option maxHeartbeats 4000000 in
set_option maxRecDepth 100000 in
theorem bX11_spreadReach_0 (hst : zSt B ids) (F : zFx p m c cX11_spreadReach 8 s args RX11 D cy B ids A) (hA : ∀ q : Nat, s.heap.size ≤ q → A q) {r : Int32} {z' : St} (E : zEnd p l e rmX11_spreadReach s m args below meth c cX11_spreadReach D cy B ids A Q (some (.int r)) z' .ireturn (r = 0 ∨ r = 1)) {N : Nat}  (x0 : Nat) (x1 : Nat) (hx0 : (11, x0) ∈ ids) (hx1 : (1, x1) ∈ ids) {z : St} {H : Heap} {locs : List Loc} {ls : Array Slot} (hr : zRep D cy B ids A s.heap z H locs) (hl : lv_has ls 8 [(0, .ref (B 11 x0)), (1, .ref (B 1 x1))]) (h : fX11_spreadReach N x0 x1 z = some (r, z')) : W p l e rmX11_spreadReach s m args below meth c H locs 0 0 Q (F0 m 0 ls []) := by
  unfold fX11_spreadReach at h
  refine lv_iconst (v := (0 : Int32)) F.1 F.2.1 dX11_spreadReach_0 (by decide) ?_
  refine lv_istore_n (lv' := [(2, .int (0 : Int32)), (0, .ref (B 11 x0)), (1, .ref (B 1 x1))]) F.1 F.2.1 dX11_spreadReach_1 rfl hl (by decide) rfl (fun ls hl => ?_)
  refine lv_iconst (v := (0 : Int32)) F.1 F.2.1 dX11_spreadReach_2 (by decide) ?_
  refine lv_istore_n (lv' := [(3, .int (0 : Int32)), (2, .int (0 : Int32)), (0, .ref (B 11 x0)), (1, .ref (B 1 x1))]) F.1 F.2.1 dX11_spreadReach_3 rfl hl (by decide) rfl (fun ls hl => ?_)
  exact lX11_spreadReach_4 hst F hA E  _ x0 x1 (0 : Int32) (0 : Int32) hx0 hx1 hr (lv_sub hl [2, 3, 1, 0] rfl) h
end SX11_spreadReach
set_option maxRecDepth 100000 in
theorem okX11_spreadReach (l : Launch) (D : va_G) (cy : Nat → ClassId) (B : Nat → Nat → Nat) (ids : List (Nat × Nat)) (hst : zSt B ids) (N : Nat) (x0 : Nat) (hx0 : (11, x0) ∈ ids) (x1 : Nat) (hx1 : (1, x1) ∈ ids) {z : St} {r : Int32} {z' : St} (hW : zWf ids z) (h : fX11_spreadReach N x0 x1 z = some (r, z')) : zM l yX11_spreadReach (zws yX11_spreadReach cX11_spreadReach 8 (some .boolean)) rmX11_spreadReach D cy B ids [.ref (B 11 x0), .ref (B 1 x1)] (some (.int r)) (r = 0 ∨ r = 1) z z' :=
  zM_of hst hW (by decide +kernel) (Nat.le_of_ble_eq_true rfl) (fun p e s m args below meth c A ls F hA hret hlocks hr hl => bX11_spreadReach_0 hst F hA (zEnd_z F hret hlocks) x0 x1 hx0 hx1 hr hl h)
