abbrev rmX19_askings : Room := { frames := 12, cells := 0, slots := 0, locals := 315 }
theorem hdX19_askings : yX19_askings.cls ≠ "java/lang/invoke/MethodHandle" ∧ yX19_askings.cls ≠ "java/lang/invoke/VarHandle" ∧ (parseMethodDescriptor yX19_askings.desc).map (fun d => d.parameters.length) = some 1 := by decide +kernel
theorem hroX19_askings_X18_endAsking : rmX18_endAsking.frames + 1 ≤ rmX19_askings.frames ∧ 8 + (3 + 11) + rmX18_endAsking.locals ≤ rmX19_askings.locals := by decide
theorem hroX19_askings_X19_ask : rmX19_ask.frames + 1 ≤ rmX19_askings.frames ∧ 8 + (3 + 11) + rmX19_ask.locals ≤ rmX19_askings.locals := by decide
theorem hroX19_askings_X19_comeBack : rmX19_comeBack.frames + 1 ≤ rmX19_askings.frames ∧ 8 + (8 + 11) + rmX19_comeBack.locals ≤ rmX19_askings.locals := by decide
theorem hroX19_askings_X19_drop : rmX19_drop.frames + 1 ≤ rmX19_askings.frames ∧ 8 + (2 + 11) + rmX19_drop.locals ≤ rmX19_askings.locals := by decide
theorem hroX19_askings_X19_firstWaiting : rmX19_firstWaiting.frames + 1 ≤ rmX19_askings.frames ∧ 8 + (4 + 11) + rmX19_firstWaiting.locals ≤ rmX19_askings.locals := by decide
section SX19_askings
variable {p : Program} {l : Launch} {e : Env} {s : State} {m : MethodId} {args : Array Value} {below : List Frame} {meth : Method} {c : Code} {Q : State → Prop} {D : va_G} {cy : Nat → ClassId} {B : Nat → Nat → Nat} {ids : List (Nat × Nat)} {A : Nat → Prop}
def fX19_askings_150 (N : Nat) (K2 : Nat → Nat → Int32 → St → Option (Int32 × St)) (x0 : Nat) (x1 : Nat) (x2 : Int32) (z : St) : Option (Int32 × St) := K2 x0 x1 x2 z
set_option maxHeartbeats 4000000 in
set_option maxRecDepth 100000 in
theorem bX19_askings_150 (hst : zSt B ids) (F : zFx p m c cX19_askings 9 s args RX19 D cy B ids A) (hA : ∀ q : Nat, s.heap.size ≤ q → A q) {r : Int32} {z' : St} (E : zEnd p l e rmX19_askings s m args below meth c cX19_askings D cy B ids A Q none z' .return_ True) {N : Nat} {K2 : Nat → Nat → Int32 → St → Option (Int32 × St)} (hK2 : ∀ (x0 : Nat) (x1 : Nat) (x2 : Int32) (hx0 : (19, x0) ∈ ids) (hx1 : (18, x1) ∈ ids) {z : St} {H : Heap} {locs : List Loc} {ls : Array Slot} (hr : zRep D cy B ids A s.heap z H locs) (hl : lv_has ls 9 [(0, .ref (B 19 x0)), (1, .ref (B 18 x1)), (2, .int x2)]), K2 x0 x1 x2 z = some (r, z') → W p l e rmX19_askings s m args below meth c H locs 0 0 Q (F0 m 2 ls [])) (x0 : Nat) (x1 : Nat) (x2 : Int32) (hx0 : (19, x0) ∈ ids) (hx1 : (18, x1) ∈ ids) {z : St} {H : Heap} {locs : List Loc} {ls : Array Slot} (hr : zRep D cy B ids A s.heap z H locs) (hl : lv_has ls 9 [(0, .ref (B 19 x0)), (1, .ref (B 18 x1)), (2, .int x2)]) (h : fX19_askings_150 N K2 x0 x1 x2 z = some (r, z')) : W p l e rmX19_askings s m args below meth c H locs 0 0 Q (F0 m 150 ls []) := by
  unfold fX19_askings_150 at h
  refine lv_goto (tgt := 2) F.1 F.2.1 dX19_askings_150 (by decide) ?_
  exact hK2 x0 x1 x2 hx0 hx1 hr (lv_sub hl [0, 1, 2] rfl) h
def fX19_askings_86b (N : Nat) (K2 : Nat → Nat → Int32 → St → Option (Int32 × St)) (K86 : Nat → Nat → Int32 → Int32 → Int32 → St → Option (Int32 × St)) (x0 : Nat) (x1 : Nat) (x2 : Int32) (x5 : Int32) (x7 : Int32) (z : St) : Option (Int32 × St) := if x5 ≤ x7 then (fX19_askings_150 N K2 x0 x1 x2 z) else (zk x7 16 <| zl (zgA z 189 x0 (Int32.toNatClampNeg x7)) fun v3 => zl (zgR z 18 0 x1) fun y4 => zd y4 fun a5 => zc (fX19_comeBack N x0 a5 v3 z) fun _ z7 => zc (fX19_drop N x0 v3 z7) fun _ z11 => zl (x7 + 1) fun v14 => K86 x0 x1 x2 x5 v14 z11)
def fX19_askings_86 (N : Nat) (K2 : Nat → Nat → Int32 → St → Option (Int32 × St)) : Nat → Nat → Nat → Int32 → Int32 → Int32 → St → Option (Int32 × St)
  | 0 => fun _ _ _ _ _ _ => none
  | n + 1 => fX19_askings_86b N K2 (fX19_askings_86 N K2 n)
set_option maxHeartbeats 4000000 in
set_option maxRecDepth 100000 in
theorem bX19_askings_86 (hst : zSt B ids) (F : zFx p m c cX19_askings 9 s args RX19 D cy B ids A) (hA : ∀ q : Nat, s.heap.size ≤ q → A q) {r : Int32} {z' : St} (E : zEnd p l e rmX19_askings s m args below meth c cX19_askings D cy B ids A Q none z' .return_ True) {N : Nat} {K2 : Nat → Nat → Int32 → St → Option (Int32 × St)} {K86 : Nat → Nat → Int32 → Int32 → Int32 → St → Option (Int32 × St)} (hK2 : ∀ (x0 : Nat) (x1 : Nat) (x2 : Int32) (hx0 : (19, x0) ∈ ids) (hx1 : (18, x1) ∈ ids) {z : St} {H : Heap} {locs : List Loc} {ls : Array Slot} (hr : zRep D cy B ids A s.heap z H locs) (hl : lv_has ls 9 [(0, .ref (B 19 x0)), (1, .ref (B 18 x1)), (2, .int x2)]), K2 x0 x1 x2 z = some (r, z') → W p l e rmX19_askings s m args below meth c H locs 0 0 Q (F0 m 2 ls [])) (hK86 : ∀ (x0 : Nat) (x1 : Nat) (x2 : Int32) (x5 : Int32) (x7 : Int32) (hx0 : (19, x0) ∈ ids) (hx1 : (18, x1) ∈ ids) {z : St} {H : Heap} {locs : List Loc} {ls : Array Slot} (hr : zRep D cy B ids A s.heap z H locs) (hl : lv_has ls 9 [(0, .ref (B 19 x0)), (1, .ref (B 18 x1)), (2, .int x2), (5, .int x5), (7, .int x7)]), K86 x0 x1 x2 x5 x7 z = some (r, z') → W p l e rmX19_askings s m args below meth c H locs 0 0 Q (F0 m 86 ls [])) (x0 : Nat) (x1 : Nat) (x2 : Int32) (x5 : Int32) (x7 : Int32) (hx0 : (19, x0) ∈ ids) (hx1 : (18, x1) ∈ ids) {z : St} {H : Heap} {locs : List Loc} {ls : Array Slot} (hr : zRep D cy B ids A s.heap z H locs) (hl : lv_has ls 9 [(0, .ref (B 19 x0)), (1, .ref (B 18 x1)), (2, .int x2), (5, .int x5), (7, .int x7)]) (h : fX19_askings_86b N K2 K86 x0 x1 x2 x5 x7 z = some (r, z')) : W p l e rmX19_askings s m args below meth c H locs 0 0 Q (F0 m 86 ls []) := by
  unfold fX19_askings_86b at h
  refine lv_iload F.1 F.2.1 dX19_askings_86 (lv_at hl 4 rfl) ?_
  refine lv_iload F.1 F.2.1 dX19_askings_88 (lv_at hl 3 rfl) ?_
  refine lv_icmp_ge (tgt := 124) F.1 F.2.1 dX19_askings_90 (by decide) (fun c1 => ?_) (fun c1 => ?_)
  · replace h := zi_t c1 h
    refine lv_goto (tgt := 150) F.1 F.2.1 dX19_askings_124 (by decide) ?_
    exact bX19_askings_150 hst F hA E hK2 x0 x1 x2 hx0 hx1 hr (lv_sub hl [0, 1, 2] rfl) h
  · replace h := zi_f c1 h
    refine lv_aload_n F.1 F.2.1 dX19_askings_93 rfl (lv_at hl 0 rfl) ?_
    refine gf19_127 F hx0 hr dX19_askings_94 ?_
    refine lv_iload F.1 F.2.1 dX19_askings_97 (lv_at hl 4 rfl) ?_
    replace h := zk_some h
    obtain ⟨c2, h⟩ := h
    refine zr_iald (k := 189) (by decide) rfl (by decide) F (zal_a F hx0 (j := 28) rfl) hr dX19_askings_99 c2 ?_
    refine lv_topi (fun v3 ev3 => ?_)
    replace h := zl_sub ev3 h
    refine lv_istore (lv' := [(8, .int v3), (0, .ref (B 19 x0)), (1, .ref (B 18 x1)), (2, .int x2), (5, .int x5), (7, .int x7)]) F.1 F.2.1 dX19_askings_100 hl (by decide) rfl (fun ls hl => ?_)
    refine lv_aload_n F.1 F.2.1 dX19_askings_102 rfl (lv_at hl 1 rfl) ?_
    refine lv_aload_n F.1 F.2.1 dX19_askings_103 rfl (lv_at hl 2 rfl) ?_
    refine gf19_197 F hx1 hr dX19_askings_104 (fun y4 ey4 => ?_)
    replace h := zl_sub ey4 h
    have hy4 := zal_g hr hx1 (j := 0) rfl ey4
    clear ey4
    refine lv_iload F.1 F.2.1 dX19_askings_107 (lv_at hl 0 rfl) ?_
    replace h := zd_some h
    obtain ⟨a5, rfl, h⟩ := h
    replace h := zc_some h
    obtain ⟨r6, z7, hc8, h⟩ := h
    refine zr_callv (zrun_V (As := [.ref (B 12 a5), .int v3]) (rest := []) zq_2802 zq_2804 zs_X19_comeBack zq_2805 zq_4 hdX19_comeBack (by decide) (T := TX19) (N := 32) rfl (okX19_comeBack l D cy B ids hst N x0 hx0 a5 (hy4 _ rfl) v3  hr.2.2 hc8) F hr hx0 hl.1 rfl (by decide) dX19_askings_109 rfl rfl hroX19_askings_X19_comeBack ⟨Nat.zero_le _, Nat.zero_le _⟩) F hA hr (fun H locs hw9 hr => ?_)
    clear hc8
    refine lv_aload_n F.1 F.2.1 dX19_askings_112 rfl (lv_at hl 1 rfl) ?_
    refine lv_iload F.1 F.2.1 dX19_askings_113 (lv_at hl 0 rfl) ?_
    replace h := zc_some h
    obtain ⟨r10, z11, hc12, h⟩ := h
    refine zr_callv (zrun_V (As := [.int v3]) (rest := []) zq_2545 zq_2547 zs_X19_drop zq_2548 zq_4 hdX19_drop (by decide) (T := TX19) (N := 32) rfl (okX19_drop l D cy B ids hst N x0 hx0 v3  hr.2.2 hc12) F hr hx0 hl.1 rfl (by decide) dX19_askings_115 rfl rfl hroX19_askings_X19_drop ⟨Nat.zero_le _, Nat.zero_le _⟩) F hA hr (fun H locs hw13 hr => ?_)
    clear hc12
    obtain ⟨v14, ev14⟩ : ∃ y : Int32, y = (x7 + 1) := ⟨_, rfl⟩
    replace h := zl_sub ev14 h
    refine lv_iinc (v := v14) (lv' := [(7, .int v14), (8, .int v3), (0, .ref (B 19 x0)), (1, .ref (B 18 x1)), (2, .int x2), (5, .int x5)]) F.1 F.2.1 dX19_askings_118 hl (k := 5) rfl (by rw [ev14]; rfl) (by decide) rfl (fun ls hl => ?_)
    refine lv_goto (tgt := 86) F.1 F.2.1 dX19_askings_121 (by decide) ?_
    exact hK86 x0 x1 x2 x5 v14 hx0 hx1 hr (lv_sub hl [2, 3, 4, 5, 0] rfl) h
theorem lX19_askings_86 (hst : zSt B ids) (F : zFx p m c cX19_askings 9 s args RX19 D cy B ids A) (hA : ∀ q : Nat, s.heap.size ≤ q → A q) {r : Int32} {z' : St} (E : zEnd p l e rmX19_askings s m args below meth c cX19_askings D cy B ids A Q none z' .return_ True) {N : Nat} {K2 : Nat → Nat → Int32 → St → Option (Int32 × St)} (hK2 : ∀ (x0 : Nat) (x1 : Nat) (x2 : Int32) (hx0 : (19, x0) ∈ ids) (hx1 : (18, x1) ∈ ids) {z : St} {H : Heap} {locs : List Loc} {ls : Array Slot} (hr : zRep D cy B ids A s.heap z H locs) (hl : lv_has ls 9 [(0, .ref (B 19 x0)), (1, .ref (B 18 x1)), (2, .int x2)]), K2 x0 x1 x2 z = some (r, z') → W p l e rmX19_askings s m args below meth c H locs 0 0 Q (F0 m 2 ls [])) : ∀ (n : Nat) (x0 : Nat) (x1 : Nat) (x2 : Int32) (x5 : Int32) (x7 : Int32) (hx0 : (19, x0) ∈ ids) (hx1 : (18, x1) ∈ ids) {z : St} {H : Heap} {locs : List Loc} {ls : Array Slot} (hr : zRep D cy B ids A s.heap z H locs) (hl : lv_has ls 9 [(0, .ref (B 19 x0)), (1, .ref (B 18 x1)), (2, .int x2), (5, .int x5), (7, .int x7)]), fX19_askings_86 N K2 n x0 x1 x2 x5 x7 z = some (r, z') → W p l e rmX19_askings s m args below meth c H locs 0 0 Q (F0 m 86 ls []) := by
  intro n
  induction n with
  | zero => intro x0 x1 x2 x5 x7 hx0 hx1 z H locs ls hr hl h; cases h
  | succ n ih => intro x0 x1 x2 x5 x7 hx0 hx1 z H locs ls hr hl h; exact bX19_askings_86 hst F hA E hK2 ih x0 x1 x2 x5 x7 hx0 hx1 hr hl h
def fX19_askings_54b (N : Nat) (K2 : Nat → Nat → Int32 → St → Option (Int32 × St)) (K54 : Nat → Nat → Int32 → Int32 → Int32 → Int32 → St → Option (Int32 × St)) (x0 : Nat) (x1 : Nat) (x2 : Int32) (x3 : Int32) (x5 : Int32) (x6 : Int32) (z : St) : Option (Int32 × St) := if x6 = (-1 : Int32) then (fX19_askings_86 N K2 N x0 x1 x2 x5 (0 : Int32) z) else (zk x5 16 <| zl (zsA z 189 x0 (Int32.toNatClampNeg x5) x6) fun z3 => zl (x5 + 1) fun v4 => zc (fX19_firstWaiting N x0 x1 x3 z3) fun r5 z6 => K54 x0 x1 x2 x3 v4 r5 z6)
def fX19_askings_54 (N : Nat) (K2 : Nat → Nat → Int32 → St → Option (Int32 × St)) : Nat → Nat → Nat → Int32 → Int32 → Int32 → Int32 → St → Option (Int32 × St)
  | 0 => fun _ _ _ _ _ _ _ => none
  | n + 1 => fX19_askings_54b N K2 (fX19_askings_54 N K2 n)
set_option maxHeartbeats 4000000 in
set_option maxRecDepth 100000 in
theorem bX19_askings_54 (hst : zSt B ids) (F : zFx p m c cX19_askings 9 s args RX19 D cy B ids A) (hA : ∀ q : Nat, s.heap.size ≤ q → A q) {r : Int32} {z' : St} (E : zEnd p l e rmX19_askings s m args below meth c cX19_askings D cy B ids A Q none z' .return_ True) {N : Nat} {K2 : Nat → Nat → Int32 → St → Option (Int32 × St)} {K54 : Nat → Nat → Int32 → Int32 → Int32 → Int32 → St → Option (Int32 × St)} (hK2 : ∀ (x0 : Nat) (x1 : Nat) (x2 : Int32) (hx0 : (19, x0) ∈ ids) (hx1 : (18, x1) ∈ ids) {z : St} {H : Heap} {locs : List Loc} {ls : Array Slot} (hr : zRep D cy B ids A s.heap z H locs) (hl : lv_has ls 9 [(0, .ref (B 19 x0)), (1, .ref (B 18 x1)), (2, .int x2)]), K2 x0 x1 x2 z = some (r, z') → W p l e rmX19_askings s m args below meth c H locs 0 0 Q (F0 m 2 ls [])) (hK54 : ∀ (x0 : Nat) (x1 : Nat) (x2 : Int32) (x3 : Int32) (x5 : Int32) (x6 : Int32) (hx0 : (19, x0) ∈ ids) (hx1 : (18, x1) ∈ ids) {z : St} {H : Heap} {locs : List Loc} {ls : Array Slot} (hr : zRep D cy B ids A s.heap z H locs) (hl : lv_has ls 9 [(0, .ref (B 19 x0)), (1, .ref (B 18 x1)), (2, .int x2), (3, .int x3), (5, .int x5), (6, .int x6)]), K54 x0 x1 x2 x3 x5 x6 z = some (r, z') → W p l e rmX19_askings s m args below meth c H locs 0 0 Q (F0 m 54 ls [])) (x0 : Nat) (x1 : Nat) (x2 : Int32) (x3 : Int32) (x5 : Int32) (x6 : Int32) (hx0 : (19, x0) ∈ ids) (hx1 : (18, x1) ∈ ids) {z : St} {H : Heap} {locs : List Loc} {ls : Array Slot} (hr : zRep D cy B ids A s.heap z H locs) (hl : lv_has ls 9 [(0, .ref (B 19 x0)), (1, .ref (B 18 x1)), (2, .int x2), (3, .int x3), (5, .int x5), (6, .int x6)]) (h : fX19_askings_54b N K2 K54 x0 x1 x2 x3 x5 x6 z = some (r, z')) : W p l e rmX19_askings s m args below meth c H locs 0 0 Q (F0 m 54 ls []) := by
  unfold fX19_askings_54b at h
  refine lv_iload F.1 F.2.1 dX19_askings_54 (lv_at hl 5 rfl) ?_
  refine lv_iconst (v := (-1 : Int32)) F.1 F.2.1 dX19_askings_56 (by decide) ?_
  refine lv_icmp_eq (tgt := 83) F.1 F.2.1 dX19_askings_57 (by decide) (fun c1 => ?_) (fun c1 => ?_)
  · replace h := zi_t c1 h
    refine lv_iconst (v := (0 : Int32)) F.1 F.2.1 dX19_askings_83 (by decide) ?_
    refine lv_istore (lv' := [(7, .int (0 : Int32)), (0, .ref (B 19 x0)), (1, .ref (B 18 x1)), (2, .int x2), (3, .int x3), (5, .int x5), (6, .int x6)]) F.1 F.2.1 dX19_askings_84 hl (by decide) rfl (fun ls hl => ?_)
    exact lX19_askings_86 hst F hA E hK2 _ x0 x1 x2 x5 (0 : Int32) hx0 hx1 hr (lv_sub hl [1, 2, 3, 5, 0] rfl) h
  · replace h := zi_f c1 h
    refine lv_aload_n F.1 F.2.1 dX19_askings_60 rfl (lv_at hl 0 rfl) ?_
    refine gf19_127 F hx0 hr dX19_askings_61 ?_
    refine lv_iload F.1 F.2.1 dX19_askings_64 (lv_at hl 4 rfl) ?_
    refine lv_iload F.1 F.2.1 dX19_askings_66 (lv_at hl 5 rfl) ?_
    replace h := zk_some h
    obtain ⟨c2, h⟩ := h
    refine zr_iast (k := 189) (by decide) rfl (by decide) F (zal_a F hx0 (j := 28) rfl) hr dX19_askings_68 c2 (fun H locs z3 ez3 hr => ?_)
    replace h := zl_sub ez3 h
    clear ez3
    obtain ⟨v4, ev4⟩ : ∃ y : Int32, y = (x5 + 1) := ⟨_, rfl⟩
    replace h := zl_sub ev4 h
    refine lv_iinc (v := v4) (lv' := [(5, .int v4), (0, .ref (B 19 x0)), (1, .ref (B 18 x1)), (2, .int x2), (3, .int x3), (6, .int x6)]) F.1 F.2.1 dX19_askings_69 hl (k := 4) rfl (by rw [ev4]; rfl) (by decide) rfl (fun ls hl => ?_)
    refine lv_aload_n F.1 F.2.1 dX19_askings_72 rfl (lv_at hl 1 rfl) ?_
    refine lv_aload_n F.1 F.2.1 dX19_askings_73 rfl (lv_at hl 2 rfl) ?_
    refine lv_iload_n F.1 F.2.1 dX19_askings_74 rfl (lv_at hl 4 rfl) ?_
    replace h := zc_some h
    obtain ⟨r5, z6, hc7, h⟩ := h
    refine zr_calli (zrun_V (As := [.ref (B 18 x1), .int x3]) (rest := []) zq_2599 zq_2601 zs_X19_firstWaiting zq_2602 zq_4 hdX19_firstWaiting (by decide) (T := TX19) (N := 32) rfl (okX19_firstWaiting l D cy B ids hst N x0 hx0 x1 hx1 x3  hr.2.2 hc7) F hr hx0 hl.1 rfl (by decide) dX19_askings_75 rfl rfl hroX19_askings_X19_firstWaiting ⟨Nat.zero_le _, Nat.zero_le _⟩) F hA hr (fun H locs hw8 hr => ?_)
    clear hc7
    refine lv_istore (lv' := [(6, .int r5), (5, .int v4), (0, .ref (B 19 x0)), (1, .ref (B 18 x1)), (2, .int x2), (3, .int x3)]) F.1 F.2.1 dX19_askings_78 hl (by decide) rfl (fun ls hl => ?_)
    refine lv_goto (tgt := 54) F.1 F.2.1 dX19_askings_80 (by decide) ?_
    exact hK54 x0 x1 x2 x3 v4 r5 hx0 hx1 hr (lv_sub hl [2, 3, 4, 5, 1, 0] rfl) h
theorem lX19_askings_54 (hst : zSt B ids) (F : zFx p m c cX19_askings 9 s args RX19 D cy B ids A) (hA : ∀ q : Nat, s.heap.size ≤ q → A q) {r : Int32} {z' : St} (E : zEnd p l e rmX19_askings s m args below meth c cX19_askings D cy B ids A Q none z' .return_ True) {N : Nat} {K2 : Nat → Nat → Int32 → St → Option (Int32 × St)} (hK2 : ∀ (x0 : Nat) (x1 : Nat) (x2 : Int32) (hx0 : (19, x0) ∈ ids) (hx1 : (18, x1) ∈ ids) {z : St} {H : Heap} {locs : List Loc} {ls : Array Slot} (hr : zRep D cy B ids A s.heap z H locs) (hl : lv_has ls 9 [(0, .ref (B 19 x0)), (1, .ref (B 18 x1)), (2, .int x2)]), K2 x0 x1 x2 z = some (r, z') → W p l e rmX19_askings s m args below meth c H locs 0 0 Q (F0 m 2 ls [])) : ∀ (n : Nat) (x0 : Nat) (x1 : Nat) (x2 : Int32) (x3 : Int32) (x5 : Int32) (x6 : Int32) (hx0 : (19, x0) ∈ ids) (hx1 : (18, x1) ∈ ids) {z : St} {H : Heap} {locs : List Loc} {ls : Array Slot} (hr : zRep D cy B ids A s.heap z H locs) (hl : lv_has ls 9 [(0, .ref (B 19 x0)), (1, .ref (B 18 x1)), (2, .int x2), (3, .int x3), (5, .int x5), (6, .int x6)]), fX19_askings_54 N K2 n x0 x1 x2 x3 x5 x6 z = some (r, z') → W p l e rmX19_askings s m args below meth c H locs 0 0 Q (F0 m 54 ls []) := by
  intro n
  induction n with
  | zero => intro x0 x1 x2 x3 x5 x6 hx0 hx1 z H locs ls hr hl h; cases h
  | succ n ih => intro x0 x1 x2 x3 x5 x6 hx0 hx1 z H locs ls hr hl h; exact bX19_askings_54 hst F hA E hK2 ih x0 x1 x2 x3 x5 x6 hx0 hx1 hr hl h
def fX19_askings_147 (N : Nat) (K2 : Nat → Nat → Int32 → St → Option (Int32 × St)) (x0 : Nat) (x1 : Nat) (x2 : Int32) (z : St) : Option (Int32 × St) := zl (x2 + 1) fun v1 => fX19_askings_150 N K2 x0 x1 v1 z
set_option maxHeartbeats 4000000 in
set_option maxRecDepth 100000 in
theorem bX19_askings_147 (hst : zSt B ids) (F : zFx p m c cX19_askings 9 s args RX19 D cy B ids A) (hA : ∀ q : Nat, s.heap.size ≤ q → A q) {r : Int32} {z' : St} (E : zEnd p l e rmX19_askings s m args below meth c cX19_askings D cy B ids A Q none z' .return_ True) {N : Nat} {K2 : Nat → Nat → Int32 → St → Option (Int32 × St)} (hK2 : ∀ (x0 : Nat) (x1 : Nat) (x2 : Int32) (hx0 : (19, x0) ∈ ids) (hx1 : (18, x1) ∈ ids) {z : St} {H : Heap} {locs : List Loc} {ls : Array Slot} (hr : zRep D cy B ids A s.heap z H locs) (hl : lv_has ls 9 [(0, .ref (B 19 x0)), (1, .ref (B 18 x1)), (2, .int x2)]), K2 x0 x1 x2 z = some (r, z') → W p l e rmX19_askings s m args below meth c H locs 0 0 Q (F0 m 2 ls [])) (x0 : Nat) (x1 : Nat) (x2 : Int32) (hx0 : (19, x0) ∈ ids) (hx1 : (18, x1) ∈ ids) {z : St} {H : Heap} {locs : List Loc} {ls : Array Slot} (hr : zRep D cy B ids A s.heap z H locs) (hl : lv_has ls 9 [(0, .ref (B 19 x0)), (1, .ref (B 18 x1)), (2, .int x2)]) (h : fX19_askings_147 N K2 x0 x1 x2 z = some (r, z')) : W p l e rmX19_askings s m args below meth c H locs 0 0 Q (F0 m 147 ls []) := by
  unfold fX19_askings_147 at h
  obtain ⟨v1, ev1⟩ : ∃ y : Int32, y = (x2 + 1) := ⟨_, rfl⟩
  replace h := zl_sub ev1 h
  refine lv_iinc (v := v1) (lv' := [(2, .int v1), (0, .ref (B 19 x0)), (1, .ref (B 18 x1))]) F.1 F.2.1 dX19_askings_147 hl (k := 2) rfl (by rw [ev1]; rfl) (by decide) rfl (fun ls hl => ?_)
  exact bX19_askings_150 hst F hA E hK2 x0 x1 v1 hx0 hx1 hr (lv_sub hl [1, 2, 0] rfl) h
def fX19_askings_141 (N : Nat) (K2 : Nat → Nat → Int32 → St → Option (Int32 × St)) (x0 : Nat) (x1 : Nat) (x2 : Int32) (x3 : Int32) (z : St) : Option (Int32 × St) := zc (fX19_ask N x0 x1 x3 z) fun _ z2 => fX19_askings_147 N K2 x0 x1 x2 z2
set_option maxHeartbeats 4000000 in
set_option maxRecDepth 100000 in
theorem bX19_askings_141 (hst : zSt B ids) (F : zFx p m c cX19_askings 9 s args RX19 D cy B ids A) (hA : ∀ q : Nat, s.heap.size ≤ q → A q) {r : Int32} {z' : St} (E : zEnd p l e rmX19_askings s m args below meth c cX19_askings D cy B ids A Q none z' .return_ True) {N : Nat} {K2 : Nat → Nat → Int32 → St → Option (Int32 × St)} (hK2 : ∀ (x0 : Nat) (x1 : Nat) (x2 : Int32) (hx0 : (19, x0) ∈ ids) (hx1 : (18, x1) ∈ ids) {z : St} {H : Heap} {locs : List Loc} {ls : Array Slot} (hr : zRep D cy B ids A s.heap z H locs) (hl : lv_has ls 9 [(0, .ref (B 19 x0)), (1, .ref (B 18 x1)), (2, .int x2)]), K2 x0 x1 x2 z = some (r, z') → W p l e rmX19_askings s m args below meth c H locs 0 0 Q (F0 m 2 ls [])) (x0 : Nat) (x1 : Nat) (x2 : Int32) (x3 : Int32) (hx0 : (19, x0) ∈ ids) (hx1 : (18, x1) ∈ ids) {z : St} {H : Heap} {locs : List Loc} {ls : Array Slot} (hr : zRep D cy B ids A s.heap z H locs) (hl : lv_has ls 9 [(0, .ref (B 19 x0)), (1, .ref (B 18 x1)), (2, .int x2), (3, .int x3)]) (h : fX19_askings_141 N K2 x0 x1 x2 x3 z = some (r, z')) : W p l e rmX19_askings s m args below meth c H locs 0 0 Q (F0 m 141 ls []) := by
  unfold fX19_askings_141 at h
  refine lv_aload_n F.1 F.2.1 dX19_askings_141 rfl (lv_at hl 0 rfl) ?_
  refine lv_aload_n F.1 F.2.1 dX19_askings_142 rfl (lv_at hl 1 rfl) ?_
  refine lv_iload_n F.1 F.2.1 dX19_askings_143 rfl (lv_at hl 3 rfl) ?_
  replace h := zc_some h
  obtain ⟨r1, z2, hc3, h⟩ := h
  refine zr_callv (zrun_V (As := [.ref (B 18 x1), .int x3]) (rest := []) zq_2797 zq_2799 zs_X19_ask zq_2800 zq_4 hdX19_ask (by decide) (T := TX19) (N := 32) rfl (okX19_ask l D cy B ids hst N x0 hx0 x1 hx1 x3  hr.2.2 hc3) F hr hx0 hl.1 rfl (by decide) dX19_askings_144 rfl rfl hroX19_askings_X19_ask ⟨Nat.zero_le _, Nat.zero_le _⟩) F hA hr (fun H locs hw4 hr => ?_)
  clear hc3
  exact bX19_askings_147 hst F hA E hK2 x0 x1 x2 hx0 hx1 hr (lv_sub hl [0, 1, 2] rfl) h
def fX19_askings_2b (N : Nat) (K2 : Nat → Nat → Int32 → St → Option (Int32 × St)) (x0 : Nat) (x1 : Nat) (x2 : Int32) (z : St) : Option (Int32 × St) := if (zgI z 18 9 x1) ≤ x2 then (some (0, z)) else (zk x2 8 <| zl (zgA z 168 x1 (Int32.toNatClampNeg x2)) fun v3 => zk x2 8 <| zl ((zgI z 19 24 x0) - (zgA z 169 x1 (Int32.toNatClampNeg x2))) fun v5 => if v5 < (200 : Int32) then (if v5 = (20 : Int32) then (fX19_askings_141 N K2 x0 x1 x2 v3 z) else (if ¬ v5 = (40 : Int32) then (fX19_askings_147 N K2 x0 x1 x2 z) else (fX19_askings_141 N K2 x0 x1 x2 v3 z))) else (zc (fX18_endAsking N x1 x2 z) fun _ z10 => zc (fX19_firstWaiting N x0 x1 v3 z10) fun r13 z14 => fX19_askings_54 N K2 N x0 x1 x2 v3 (0 : Int32) r13 z14))
def fX19_askings_2 (N : Nat)  : Nat → Nat → Nat → Int32 → St → Option (Int32 × St)
  | 0 => fun _ _ _ _ => none
  | n + 1 => fX19_askings_2b N (fX19_askings_2 N  n)
set_option maxHeartbeats 4000000 in
set_option maxRecDepth 100000 in
theorem bX19_askings_2 (hst : zSt B ids) (F : zFx p m c cX19_askings 9 s args RX19 D cy B ids A) (hA : ∀ q : Nat, s.heap.size ≤ q → A q) {r : Int32} {z' : St} (E : zEnd p l e rmX19_askings s m args below meth c cX19_askings D cy B ids A Q none z' .return_ True) {N : Nat} {K2 : Nat → Nat → Int32 → St → Option (Int32 × St)} (hK2 : ∀ (x0 : Nat) (x1 : Nat) (x2 : Int32) (hx0 : (19, x0) ∈ ids) (hx1 : (18, x1) ∈ ids) {z : St} {H : Heap} {locs : List Loc} {ls : Array Slot} (hr : zRep D cy B ids A s.heap z H locs) (hl : lv_has ls 9 [(0, .ref (B 19 x0)), (1, .ref (B 18 x1)), (2, .int x2)]), K2 x0 x1 x2 z = some (r, z') → W p l e rmX19_askings s m args below meth c H locs 0 0 Q (F0 m 2 ls [])) (x0 : Nat) (x1 : Nat) (x2 : Int32) (hx0 : (19, x0) ∈ ids) (hx1 : (18, x1) ∈ ids) {z : St} {H : Heap} {locs : List Loc} {ls : Array Slot} (hr : zRep D cy B ids A s.heap z H locs) (hl : lv_has ls 9 [(0, .ref (B 19 x0)), (1, .ref (B 18 x1)), (2, .int x2)]) (h : fX19_askings_2b N K2 x0 x1 x2 z = some (r, z')) : W p l e rmX19_askings s m args below meth c H locs 0 0 Q (F0 m 2 ls []) := by
  unfold fX19_askings_2b at h
  refine lv_iload_n F.1 F.2.1 dX19_askings_2 rfl (lv_at hl 2 rfl) ?_
  refine lv_aload_n F.1 F.2.1 dX19_askings_3 rfl (lv_at hl 1 rfl) ?_
  refine gf19_235 F hx1 hr dX19_askings_4 ?_
  refine lv_icmp_ge (tgt := 153) F.1 F.2.1 dX19_askings_7 (by decide) (fun c1 => ?_) (fun c1 => ?_)
  · replace h := zi_t c1 h
    obtain ⟨rfl, rfl⟩ := zret h
    exact E _ _ _ _ dX19_askings_153 trivial hr
  · replace h := zi_f c1 h
    refine lv_aload_n F.1 F.2.1 dX19_askings_10 rfl (lv_at hl 1 rfl) ?_
    refine gf19_232 F hx1 hr dX19_askings_11 ?_
    refine lv_iload_n F.1 F.2.1 dX19_askings_14 rfl (lv_at hl 2 rfl) ?_
    replace h := zk_some h
    obtain ⟨c2, h⟩ := h
    refine zr_iald (k := 168) (by decide) rfl (by decide) F (zal_a F hx1 (j := 7) rfl) hr dX19_askings_15 c2 ?_
    refine lv_topi (fun v3 ev3 => ?_)
    replace h := zl_sub ev3 h
    refine lv_istore_n (lv' := [(3, .int v3), (0, .ref (B 19 x0)), (1, .ref (B 18 x1)), (2, .int x2)]) F.1 F.2.1 dX19_askings_16 rfl hl (by decide) rfl (fun ls hl => ?_)
    refine lv_aload_n F.1 F.2.1 dX19_askings_17 rfl (lv_at hl 1 rfl) ?_
    refine gf19_143 F hx0 hr dX19_askings_18 ?_
    refine lv_aload_n F.1 F.2.1 dX19_askings_21 rfl (lv_at hl 2 rfl) ?_
    refine gf19_238 F hx1 hr dX19_askings_22 ?_
    refine lv_iload_n F.1 F.2.1 dX19_askings_25 rfl (lv_at hl 3 rfl) ?_
    replace h := zk_some h
    obtain ⟨c4, h⟩ := h
    refine zr_iald (k := 169) (by decide) rfl (by decide) F (zal_a F hx1 (j := 8) rfl) hr dX19_askings_26 c4 ?_
    refine lv_isub F.1 F.2.1 dX19_askings_27 ?_
    refine lv_topi (fun v5 ev5 => ?_)
    replace h := zl_sub ev5 h
    refine lv_istore (lv' := [(4, .int v5), (3, .int v3), (0, .ref (B 19 x0)), (1, .ref (B 18 x1)), (2, .int x2)]) F.1 F.2.1 dX19_askings_28 hl (by decide) rfl (fun ls hl => ?_)
    refine lv_iload F.1 F.2.1 dX19_askings_30 (lv_at hl 0 rfl) ?_
    refine lv_sipush (v := (200 : Int32)) F.1 F.2.1 dX19_askings_32 (by decide) ?_
    refine lv_icmp_lt (tgt := 127) F.1 F.2.1 dX19_askings_35 (by decide) (fun c6 => ?_) (fun c6 => ?_)
    · replace h := zi_t c6 h
      refine lv_iload F.1 F.2.1 dX19_askings_127 (lv_at hl 0 rfl) ?_
      refine lv_bipush (v := (20 : Int32)) F.1 F.2.1 dX19_askings_129 (by decide) ?_
      refine lv_icmp_eq (tgt := 141) F.1 F.2.1 dX19_askings_131 (by decide) (fun c7 => ?_) (fun c7 => ?_)
      · replace h := zi_t c7 h
        exact bX19_askings_141 hst F hA E hK2 x0 x1 x2 v3 hx0 hx1 hr (lv_sub hl [2, 3, 4, 1] rfl) h
      · replace h := zi_f c7 h
        refine lv_iload F.1 F.2.1 dX19_askings_134 (lv_at hl 0 rfl) ?_
        refine lv_bipush (v := (40 : Int32)) F.1 F.2.1 dX19_askings_136 (by decide) ?_
        refine lv_icmp_ne (tgt := 147) F.1 F.2.1 dX19_askings_138 (by decide) (fun c8 => ?_) (fun c8 => ?_)
        · replace h := zi_t c8 h
          exact bX19_askings_147 hst F hA E hK2 x0 x1 x2 hx0 hx1 hr (lv_sub hl [2, 3, 4] rfl) h
        · replace h := zi_f (fun q => q c8) h
          exact bX19_askings_141 hst F hA E hK2 x0 x1 x2 v3 hx0 hx1 hr (lv_sub hl [2, 3, 4, 1] rfl) h
    · replace h := zi_f c6 h
      refine lv_aload_n F.1 F.2.1 dX19_askings_38 rfl (lv_at hl 3 rfl) ?_
      refine lv_iload_n F.1 F.2.1 dX19_askings_39 rfl (lv_at hl 4 rfl) ?_
      replace h := zc_some h
      obtain ⟨r9, z10, hc11, h⟩ := h
      refine zr_callv (zrun_VN (As := [.int x2]) (rest := []) zn_2595 zq_2597 zs_X18_endAsking zq_2598 zq_25 hdX18_endAsking (by decide) (T := TX18) (N := 13) rfl (okX18_endAsking l D cy B ids hst N x1 hx1 x2  hr.2.2 hc11) F hr hx1 hl.1 rfl (by decide) dX19_askings_40 rfl rfl hroX19_askings_X18_endAsking ⟨Nat.zero_le _, Nat.zero_le _⟩) F hA hr (fun H locs hw12 hr => ?_)
      clear hc11
      refine lv_iconst (v := (0 : Int32)) F.1 F.2.1 dX19_askings_43 (by decide) ?_
      refine lv_istore (lv' := [(5, .int (0 : Int32)), (4, .int v5), (3, .int v3), (0, .ref (B 19 x0)), (1, .ref (B 18 x1)), (2, .int x2)]) F.1 F.2.1 dX19_askings_44 hl (by decide) rfl (fun ls hl => ?_)
      refine lv_aload_n F.1 F.2.1 dX19_askings_46 rfl (lv_at hl 3 rfl) ?_
      refine lv_aload_n F.1 F.2.1 dX19_askings_47 rfl (lv_at hl 4 rfl) ?_
      refine lv_iload_n F.1 F.2.1 dX19_askings_48 rfl (lv_at hl 2 rfl) ?_
      replace h := zc_some h
      obtain ⟨r13, z14, hc15, h⟩ := h
      refine zr_calli (zrun_V (As := [.ref (B 18 x1), .int v3]) (rest := []) zq_2599 zq_2601 zs_X19_firstWaiting zq_2602 zq_4 hdX19_firstWaiting (by decide) (T := TX19) (N := 32) rfl (okX19_firstWaiting l D cy B ids hst N x0 hx0 x1 hx1 v3  hr.2.2 hc15) F hr hx0 hl.1 rfl (by decide) dX19_askings_49 rfl rfl hroX19_askings_X19_firstWaiting ⟨Nat.zero_le _, Nat.zero_le _⟩) F hA hr (fun H locs hw16 hr => ?_)
      clear hc15
      refine lv_istore (lv' := [(6, .int r13), (5, .int (0 : Int32)), (4, .int v5), (3, .int v3), (0, .ref (B 19 x0)), (1, .ref (B 18 x1)), (2, .int x2)]) F.1 F.2.1 dX19_askings_52 hl (by decide) rfl (fun ls hl => ?_)
      exact lX19_askings_54 hst F hA E hK2 _ x0 x1 x2 v3 (0 : Int32) r13 hx0 hx1 hr (lv_sub hl [4, 5, 6, 3, 1, 0] rfl) h
theorem lX19_askings_2 (hst : zSt B ids) (F : zFx p m c cX19_askings 9 s args RX19 D cy B ids A) (hA : ∀ q : Nat, s.heap.size ≤ q → A q) {r : Int32} {z' : St} (E : zEnd p l e rmX19_askings s m args below meth c cX19_askings D cy B ids A Q none z' .return_ True) {N : Nat}  : ∀ (n : Nat) (x0 : Nat) (x1 : Nat) (x2 : Int32) (hx0 : (19, x0) ∈ ids) (hx1 : (18, x1) ∈ ids) {z : St} {H : Heap} {locs : List Loc} {ls : Array Slot} (hr : zRep D cy B ids A s.heap z H locs) (hl : lv_has ls 9 [(0, .ref (B 19 x0)), (1, .ref (B 18 x1)), (2, .int x2)]), fX19_askings_2 N  n x0 x1 x2 z = some (r, z') → W p l e rmX19_askings s m args below meth c H locs 0 0 Q (F0 m 2 ls []) := by
  intro n
  induction n with
  | zero => intro x0 x1 x2 hx0 hx1 z H locs ls hr hl h; cases h
  | succ n ih => intro x0 x1 x2 hx0 hx1 z H locs ls hr hl h; exact bX19_askings_2 hst F hA E ih x0 x1 x2 hx0 hx1 hr hl h
def fX19_askings (N : Nat)  (x0 : Nat) (x1 : Nat) (z : St) : Option (Int32 × St) := fX19_askings_2 N N x0 x1 (0 : Int32) z
set_option maxHeartbeats 4000000 in
set_option maxRecDepth 100000 in
theorem bX19_askings_0 (hst : zSt B ids) (F : zFx p m c cX19_askings 9 s args RX19 D cy B ids A) (hA : ∀ q : Nat, s.heap.size ≤ q → A q) {r : Int32} {z' : St} (E : zEnd p l e rmX19_askings s m args below meth c cX19_askings D cy B ids A Q none z' .return_ True) {N : Nat}  (x0 : Nat) (x1 : Nat) (hx0 : (19, x0) ∈ ids) (hx1 : (18, x1) ∈ ids) {z : St} {H : Heap} {locs : List Loc} {ls : Array Slot} (hr : zRep D cy B ids A s.heap z H locs) (hl : lv_has ls 9 [(0, .ref (B 19 x0)), (1, .ref (B 18 x1))]) (h : fX19_askings N x0 x1 z = some (r, z')) : W p l e rmX19_askings s m args below meth c H locs 0 0 Q (F0 m 0 ls []) := by
  unfold fX19_askings at h
  refine lv_iconst (v := (0 : Int32)) F.1 F.2.1 dX19_askings_0 (by decide) ?_
  refine lv_istore_n (lv' := [(2, .int (0 : Int32)), (0, .ref (B 19 x0)), (1, .ref (B 18 x1))]) F.1 F.2.1 dX19_askings_1 rfl hl (by decide) rfl (fun ls hl => ?_)
  exact lX19_askings_2 hst F hA E  _ x0 x1 (0 : Int32) hx0 hx1 hr (lv_sub hl [1, 2, 0] rfl) h
end SX19_askings
set_option maxRecDepth 100000 in
theorem okX19_askings (l : Launch) (D : va_G) (cy : Nat → ClassId) (B : Nat → Nat → Nat) (ids : List (Nat × Nat)) (hst : zSt B ids) (N : Nat) (x0 : Nat) (hx0 : (19, x0) ∈ ids) (x1 : Nat) (hx1 : (18, x1) ∈ ids) {z : St} {r : Int32} {z' : St} (hW : zWf ids z) (h : fX19_askings N x0 x1 z = some (r, z')) : zM l yX19_askings (zws yX19_askings cX19_askings 9 none) rmX19_askings D cy B ids [.ref (B 19 x0), .ref (B 18 x1)] none True z z' :=
  zM_of hst hW (by decide +kernel) (Nat.le_of_ble_eq_true rfl) (fun p e s m args below meth c A ls F hA hret hlocks hr hl => bX19_askings_0 hst F hA (zEnd_v F hret hlocks) x0 x1 hx0 hx1 hr hl h)
abbrev rmX19_forward : Room := { frames := 12, cells := 0, slots := 0, locals := 315 }
theorem hdX19_forward : yX19_forward.cls ≠ "java/lang/invoke/MethodHandle" ∧ yX19_forward.cls ≠ "java/lang/invoke/VarHandle" ∧ (parseMethodDescriptor yX19_forward.desc).map (fun d => d.parameters.length) = some 2 := by decide +kernel
theorem hroX19_forward_X19_comeBack : rmX19_comeBack.frames + 1 ≤ rmX19_forward.frames ∧ 8 + (8 + 11) + rmX19_comeBack.locals ≤ rmX19_forward.locals := by decide
theorem hroX19_forward_X19_of : rmX19_of.frames + 1 ≤ rmX19_forward.frames ∧ 8 + (3 + 11) + rmX19_of.locals ≤ rmX19_forward.locals := by decide
theorem hroX19_forward_X19_routerSends : rmX19_routerSends.frames + 1 ≤ rmX19_forward.frames ∧ 8 + (8 + 11) + rmX19_routerSends.locals ≤ rmX19_forward.locals := by decide
theorem hroX19_forward_X19_set : rmX19_set.frames + 1 ≤ rmX19_forward.frames ∧ 8 + (4 + 11) + rmX19_set.locals ≤ rmX19_forward.locals := by decide
section SX19_forward
variable {p : Program} {l : Launch} {e : Env} {s : State} {m : MethodId} {args : Array Value} {below : List Frame} {meth : Method} {c : Code} {Q : State → Prop} {D : va_G} {cy : Nat → ClassId} {B : Nat → Nat → Nat} {ids : List (Nat × Nat)} {A : Nat → Prop}
def fX19_forward (N : Nat)  (x0 : Nat) (x1 : Nat) (x2 : Int32) (z : St) : Option (Int32 × St) := zc (fX19_of N x0 x2 (4 : Int32) z) fun r1 z2 => zc (fX19_set N x0 x2 (4 : Int32) (r1 - (1 : Int32)) z2) fun _ z6 => zc (fX19_of N x0 x2 (4 : Int32) z6) fun r9 z10 => if ¬ r9 = 0 then (zc (fX19_routerSends N x0 x1 x2 (1 : Int32) z10) fun _ z15 => some (0, z15)) else (zc (fX19_comeBack N x0 x1 x2 z10) fun _ z19 => some (0, z19))
set_option maxHeartbeats 4000000 in
set_option maxRecDepth 100000 in
theorem bX19_forward_0 (hst : zSt B ids) (F : zFx p m c cX19_forward 3 s args RX19 D cy B ids A) (hA : ∀ q : Nat, s.heap.size ≤ q → A q) {r : Int32} {z' : St} (E : zEnd p l e rmX19_forward s m args below meth c cX19_forward D cy B ids A Q none z' .return_ True) {N : Nat}  (x0 : Nat) (x1 : Nat) (x2 : Int32) (hx0 : (19, x0) ∈ ids) (hx1 : (12, x1) ∈ ids) {z : St} {H : Heap} {locs : List Loc} {ls : Array Slot} (hr : zRep D cy B ids A s.heap z H locs) (hl : lv_has ls 3 [(0, .ref (B 19 x0)), (1, .ref (B 12 x1)), (2, .int x2)]) (h : fX19_forward N x0 x1 x2 z = some (r, z')) : W p l e rmX19_forward s m args below meth c H locs 0 0 Q (F0 m 0 ls []) := by
  unfold fX19_forward at h
  refine lv_aload_n F.1 F.2.1 dX19_forward_0 rfl (lv_at hl 0 rfl) ?_
  refine lv_iload_n F.1 F.2.1 dX19_forward_1 rfl (lv_at hl 2 rfl) ?_
  refine lv_iconst (v := (4 : Int32)) F.1 F.2.1 dX19_forward_2 (by decide) ?_
  refine lv_aload_n F.1 F.2.1 dX19_forward_3 rfl (lv_at hl 0 rfl) ?_
  refine lv_iload_n F.1 F.2.1 dX19_forward_4 rfl (lv_at hl 2 rfl) ?_
  refine lv_iconst (v := (4 : Int32)) F.1 F.2.1 dX19_forward_5 (by decide) ?_
  replace h := zc_some h
  obtain ⟨r1, z2, hc3, h⟩ := h
  refine zr_calli (zrun_V (As := [.int x2, .int (4 : Int32)]) (rest := [.int (4 : Int32), .int x2, .ref (B 19 x0)]) zq_2549 zq_2551 zs_X19_of zq_2552 zq_4 hdX19_of (by decide) (T := TX19) (N := 32) rfl (okX19_of l D cy B ids hst N x0 hx0 x2  (4 : Int32)  hr.2.2 hc3) F hr hx0 hl.1 rfl (Nat.le_of_ble_eq_true rfl) dX19_forward_6 rfl rfl hroX19_forward_X19_of ⟨Nat.zero_le _, Nat.zero_le _⟩) F hA hr (fun H locs hw4 hr => ?_)
  clear hc3
  refine lv_iconst (v := (1 : Int32)) F.1 F.2.1 dX19_forward_9 (by decide) ?_
  refine lv_isub F.1 F.2.1 dX19_forward_10 ?_
  replace h := zc_some h
  obtain ⟨r5, z6, hc7, h⟩ := h
  refine zr_callv (zrun_V (As := [.int x2, .int (4 : Int32), .int (r1 - (1 : Int32))]) (rest := []) zq_2623 zq_2625 zs_X19_set zq_2626 zq_4 hdX19_set (by decide) (T := TX19) (N := 32) rfl (okX19_set l D cy B ids hst N x0 hx0 x2  (4 : Int32)  (r1 - (1 : Int32))  hr.2.2 hc7) F hr hx0 hl.1 rfl (by decide) dX19_forward_11 rfl rfl hroX19_forward_X19_set ⟨Nat.zero_le _, Nat.zero_le _⟩) F hA hr (fun H locs hw8 hr => ?_)
  clear hc7
  refine lv_aload_n F.1 F.2.1 dX19_forward_14 rfl (lv_at hl 0 rfl) ?_
  refine lv_iload_n F.1 F.2.1 dX19_forward_15 rfl (lv_at hl 2 rfl) ?_
  refine lv_iconst (v := (4 : Int32)) F.1 F.2.1 dX19_forward_16 (by decide) ?_
  replace h := zc_some h
  obtain ⟨r9, z10, hc11, h⟩ := h
  refine zr_calli (zrun_V (As := [.int x2, .int (4 : Int32)]) (rest := []) zq_2549 zq_2551 zs_X19_of zq_2552 zq_4 hdX19_of (by decide) (T := TX19) (N := 32) rfl (okX19_of l D cy B ids hst N x0 hx0 x2  (4 : Int32)  hr.2.2 hc11) F hr hx0 hl.1 rfl (by decide) dX19_forward_17 rfl rfl hroX19_forward_X19_of ⟨Nat.zero_le _, Nat.zero_le _⟩) F hA hr (fun H locs hw12 hr => ?_)
  clear hc11
  refine lv_if_ne (tgt := 32) F.1 F.2.1 dX19_forward_20 (by decide) (fun c13 => ?_) (fun c13 => ?_)
  · replace h := zi_t c13 h
    refine lv_aload_n F.1 F.2.1 dX19_forward_32 rfl (lv_at hl 0 rfl) ?_
    refine lv_aload_n F.1 F.2.1 dX19_forward_33 rfl (lv_at hl 1 rfl) ?_
    refine lv_iload_n F.1 F.2.1 dX19_forward_34 rfl (lv_at hl 2 rfl) ?_
    refine lv_iconst (v := (1 : Int32)) F.1 F.2.1 dX19_forward_35 (by decide) ?_
    replace h := zc_some h
    obtain ⟨r14, z15, hc16, h⟩ := h
    refine zr_callv (zrun_V (As := [.ref (B 12 x1), .int x2, .int (1 : Int32)]) (rest := []) zq_2806 zq_2808 zs_X19_routerSends zq_2809 zq_4 hdX19_routerSends (by decide) (T := TX19) (N := 32) rfl (okX19_routerSends l D cy B ids hst N x0 hx0 x1 hx1 x2  (1 : Int32)  hr.2.2 hc16) F hr hx0 hl.1 rfl (by decide) dX19_forward_36 rfl rfl hroX19_forward_X19_routerSends ⟨Nat.zero_le _, Nat.zero_le _⟩) F hA hr (fun H locs hw17 hr => ?_)
    clear hc16
    obtain ⟨rfl, rfl⟩ := zret h
    exact E _ _ _ _ dX19_forward_39 trivial hr
  · replace h := zi_f (fun q => q c13) h
    refine lv_aload_n F.1 F.2.1 dX19_forward_23 rfl (lv_at hl 0 rfl) ?_
    refine lv_aload_n F.1 F.2.1 dX19_forward_24 rfl (lv_at hl 1 rfl) ?_
    refine lv_iload_n F.1 F.2.1 dX19_forward_25 rfl (lv_at hl 2 rfl) ?_
    replace h := zc_some h
    obtain ⟨r18, z19, hc20, h⟩ := h
    refine zr_callv (zrun_V (As := [.ref (B 12 x1), .int x2]) (rest := []) zq_2802 zq_2804 zs_X19_comeBack zq_2805 zq_4 hdX19_comeBack (by decide) (T := TX19) (N := 32) rfl (okX19_comeBack l D cy B ids hst N x0 hx0 x1 hx1 x2  hr.2.2 hc20) F hr hx0 hl.1 rfl (by decide) dX19_forward_26 rfl rfl hroX19_forward_X19_comeBack ⟨Nat.zero_le _, Nat.zero_le _⟩) F hA hr (fun H locs hw21 hr => ?_)
    clear hc20
    refine lv_goto (tgt := 39) F.1 F.2.1 dX19_forward_29 (by decide) ?_
    obtain ⟨rfl, rfl⟩ := zret h
    exact E _ _ _ _ dX19_forward_39 trivial hr
end SX19_forward
set_option maxRecDepth 100000 in
theorem okX19_forward (l : Launch) (D : va_G) (cy : Nat → ClassId) (B : Nat → Nat → Nat) (ids : List (Nat × Nat)) (hst : zSt B ids) (N : Nat) (x0 : Nat) (hx0 : (19, x0) ∈ ids) (x1 : Nat) (hx1 : (12, x1) ∈ ids) (x2 : Int32) {z : St} {r : Int32} {z' : St} (hW : zWf ids z) (h : fX19_forward N x0 x1 x2 z = some (r, z')) : zM l yX19_forward (zws yX19_forward cX19_forward 3 none) rmX19_forward D cy B ids [.ref (B 19 x0), .ref (B 12 x1), .int x2] none True z z' :=
  zM_of hst hW (by decide +kernel) (Nat.le_of_ble_eq_true rfl) (fun p e s m args below meth c A ls F hA hret hlocks hr hl => bX19_forward_0 hst F hA (zEnd_v F hret hlocks) x0 x1 x2 hx0 hx1 hr hl h)
abbrev rmX19_endPieces : Room := { frames := 0, cells := 0, slots := 0, locals := 0 }
theorem hdX19_endPieces : yX19_endPieces.cls ≠ "java/lang/invoke/MethodHandle" ∧ yX19_endPieces.cls ≠ "java/lang/invoke/VarHandle" ∧ (parseMethodDescriptor yX19_endPieces.desc).map (fun d => d.parameters.length) = some 2 := by decide +kernel
section SX19_endPieces
variable {p : Program} {l : Launch} {e : Env} {s : State} {m : MethodId} {args : Array Value} {below : List Frame} {meth : Method} {c : Code} {Q : State → Prop} {D : va_G} {cy : Nat → ClassId} {B : Nat → Nat → Nat} {ids : List (Nat × Nat)} {A : Nat → Prop}
def fX19_endPieces_19b (N : Nat) (K19 : Nat → Option Nat → Int32 → St → Option (Int32 × St)) (x0 : Nat) (x2 : Option Nat) (x3 : Int32) (z : St) : Option (Int32 × St) := if (zgI z 12 11 x0) ≤ x3 then (zk (zgI z 12 11 x0) 4 <| zl (zsQ z 148 x0 (Int32.toNatClampNeg (zgI z 12 11 x0)) x2) fun z3 => some (0, z3)) else (zk (x3 + (1 : Int32)) 4 <| zl (zgQ z 148 x0 (Int32.toNatClampNeg (x3 + (1 : Int32)))) fun y5 => zk x3 4 <| zl (zsQ z 148 x0 (Int32.toNatClampNeg x3) y5) fun z7 => zl (x3 + 1) fun v8 => K19 x0 x2 v8 z7)
def fX19_endPieces_19 (N : Nat)  : Nat → Nat → Option Nat → Int32 → St → Option (Int32 × St)
  | 0 => fun _ _ _ _ => none
  | n + 1 => fX19_endPieces_19b N (fX19_endPieces_19 N  n)
set_option maxHeartbeats 4000000 in
set_option maxRecDepth 100000 in
theorem bX19_endPieces_19 (hst : zSt B ids) (F : zFx p m c cX19_endPieces 4 s args RX19 D cy B ids A) (hA : ∀ q : Nat, s.heap.size ≤ q → A q) {r : Int32} {z' : St} (E : zEnd p l e rmX19_endPieces s m args below meth c cX19_endPieces D cy B ids A Q none z' .return_ True) {N : Nat} {K19 : Nat → Option Nat → Int32 → St → Option (Int32 × St)} (hK19 : ∀ (x0 : Nat) (x2 : Option Nat) (x3 : Int32) (hx0 : (12, x0) ∈ ids) (hx2 : ∀ t, x2 = some t → (17, t) ∈ ids) {z : St} {H : Heap} {locs : List Loc} {ls : Array Slot} (hr : zRep D cy B ids A s.heap z H locs) (hl : lv_has ls 4 [(0, .ref (B 12 x0)), (2, va_rf (Option.map (B 17) x2)), (3, .int x3)]), K19 x0 x2 x3 z = some (r, z') → W p l e rmX19_endPieces s m args below meth c H locs 0 0 Q (F0 m 19 ls [])) (x0 : Nat) (x2 : Option Nat) (x3 : Int32) (hx0 : (12, x0) ∈ ids) (hx2 : ∀ t, x2 = some t → (17, t) ∈ ids) {z : St} {H : Heap} {locs : List Loc} {ls : Array Slot} (hr : zRep D cy B ids A s.heap z H locs) (hl : lv_has ls 4 [(0, .ref (B 12 x0)), (2, va_rf (Option.map (B 17) x2)), (3, .int x3)]) (h : fX19_endPieces_19b N K19 x0 x2 x3 z = some (r, z')) : W p l e rmX19_endPieces s m args below meth c H locs 0 0 Q (F0 m 19 ls []) := by
  unfold fX19_endPieces_19b at h
  refine lv_iload_n F.1 F.2.1 dX19_endPieces_19 rfl (lv_at hl 2 rfl) ?_
  refine lv_aload_n F.1 F.2.1 dX19_endPieces_20 rfl (lv_at hl 0 rfl) ?_
  refine gf19_392 F hx0 hr dX19_endPieces_21 ?_
  refine lv_icmp_ge (tgt := 47) F.1 F.2.1 dX19_endPieces_24 (by decide) (fun c1 => ?_) (fun c1 => ?_)
  · replace h := zi_t c1 h
    refine lv_aload_n F.1 F.2.1 dX19_endPieces_47 rfl (lv_at hl 0 rfl) ?_
    refine gf19_395 F hx0 hr dX19_endPieces_48 ?_
    refine lv_aload_n F.1 F.2.1 dX19_endPieces_51 rfl (lv_at hl 0 rfl) ?_
    refine gf19_392 F hx0 hr dX19_endPieces_52 ?_
    refine zr_aload_n F.1 F.2.1 dX19_endPieces_55 rfl (lv_at hl 1 rfl) ?_
    replace h := zk_some h
    obtain ⟨c2, h⟩ := h
    refine zr_aast (k := 148) (v := x2) (T := TX17) (N := 7) (by decide) rfl (by decide) rfl rfl F (zal_a F hx0 (j := 10) rfl) hr dX19_endPieces_56 (by rw [zlen_d (by decide)]; exact c2) hx2 (fun H locs z3 ez3 hr => ?_)
    replace h := zl_sub ez3 h
    clear ez3
    obtain ⟨rfl, rfl⟩ := zret h
    exact E _ _ _ _ dX19_endPieces_57 trivial hr
  · replace h := zi_f c1 h
    refine lv_aload_n F.1 F.2.1 dX19_endPieces_27 rfl (lv_at hl 0 rfl) ?_
    refine gf19_395 F hx0 hr dX19_endPieces_28 ?_
    refine lv_iload_n F.1 F.2.1 dX19_endPieces_31 rfl (lv_at hl 2 rfl) ?_
    refine lv_aload_n F.1 F.2.1 dX19_endPieces_32 rfl (lv_at hl 0 rfl) ?_
    refine gf19_395 F hx0 hr dX19_endPieces_33 ?_
    refine lv_iload_n F.1 F.2.1 dX19_endPieces_36 rfl (lv_at hl 2 rfl) ?_
    refine lv_iconst (v := (1 : Int32)) F.1 F.2.1 dX19_endPieces_37 (by decide) ?_
    refine lv_iadd F.1 F.2.1 dX19_endPieces_38 ?_
    replace h := zk_some h
    obtain ⟨c4, h⟩ := h
    refine zr_aaldv (k := 148) (by decide) rfl rfl (zlen_d (by decide)) F (zal_a F hx0 (j := 10) rfl) hr dX19_endPieces_39 c4 (fun y5 ey5 => ?_)
    replace h := zl_sub ey5 h
    have hy5 := zal_q hr (zal_a F hx0 (j := 10) rfl) rfl ey5
    clear ey5
    replace h := zk_some h
    obtain ⟨c6, h⟩ := h
    refine zr_aast (k := 148) (v := y5) (T := TX17) (N := 7) (by decide) rfl (by decide) rfl rfl F (zal_a F hx0 (j := 10) rfl) hr dX19_endPieces_40 (by rw [zlen_d (by decide)]; exact c6) hy5 (fun H locs z7 ez7 hr => ?_)
    replace h := zl_sub ez7 h
    clear ez7
    obtain ⟨v8, ev8⟩ : ∃ y : Int32, y = (x3 + 1) := ⟨_, rfl⟩
    replace h := zl_sub ev8 h
    refine lv_iinc (v := v8) (lv' := [(3, .int v8), (0, .ref (B 12 x0)), (2, va_rf (Option.map (B 17) x2))]) F.1 F.2.1 dX19_endPieces_41 hl (k := 2) rfl (by rw [ev8]; rfl) (by decide) (by simp only [List.filter, zrf_cat]; rfl) (fun ls hl => ?_)
    refine lv_goto (tgt := 19) F.1 F.2.1 dX19_endPieces_44 (by decide) ?_
    exact hK19 x0 x2 v8 hx0 hx2 hr (lv_sub hl [1, 2, 0] rfl) h
theorem lX19_endPieces_19 (hst : zSt B ids) (F : zFx p m c cX19_endPieces 4 s args RX19 D cy B ids A) (hA : ∀ q : Nat, s.heap.size ≤ q → A q) {r : Int32} {z' : St} (E : zEnd p l e rmX19_endPieces s m args below meth c cX19_endPieces D cy B ids A Q none z' .return_ True) {N : Nat}  : ∀ (n : Nat) (x0 : Nat) (x2 : Option Nat) (x3 : Int32) (hx0 : (12, x0) ∈ ids) (hx2 : ∀ t, x2 = some t → (17, t) ∈ ids) {z : St} {H : Heap} {locs : List Loc} {ls : Array Slot} (hr : zRep D cy B ids A s.heap z H locs) (hl : lv_has ls 4 [(0, .ref (B 12 x0)), (2, va_rf (Option.map (B 17) x2)), (3, .int x3)]), fX19_endPieces_19 N  n x0 x2 x3 z = some (r, z') → W p l e rmX19_endPieces s m args below meth c H locs 0 0 Q (F0 m 19 ls []) := by
  intro n
  induction n with
  | zero => intro x0 x2 x3 hx0 hx2 z H locs ls hr hl h; cases h
  | succ n ih => intro x0 x2 x3 hx0 hx2 z H locs ls hr hl h; exact bX19_endPieces_19 hst F hA E ih x0 x2 x3 hx0 hx2 hr hl h
def fX19_endPieces (N : Nat)  (x0 : Nat) (x1 : Int32) (z : St) : Option (Int32 × St) := zk x1 4 <| zl (zgQ z 148 x0 (Int32.toNatClampNeg x1)) fun y2 => zl (zsI z 12 11 x0 ((zgI z 12 11 x0) - (1 : Int32))) fun z3 => fX19_endPieces_19 N N x0 y2 x1 z3
set_option maxHeartbeats 4000000 in
set_option maxRecDepth 100000 in
theorem bX19_endPieces_0 (hst : zSt B ids) (F : zFx p m c cX19_endPieces 4 s args RX19 D cy B ids A) (hA : ∀ q : Nat, s.heap.size ≤ q → A q) {r : Int32} {z' : St} (E : zEnd p l e rmX19_endPieces s m args below meth c cX19_endPieces D cy B ids A Q none z' .return_ True) {N : Nat}  (x0 : Nat) (x1 : Int32) (hx0 : (12, x0) ∈ ids) {z : St} {H : Heap} {locs : List Loc} {ls : Array Slot} (hr : zRep D cy B ids A s.heap z H locs) (hl : lv_has ls 4 [(0, .ref (B 12 x0)), (1, .int x1)]) (h : fX19_endPieces N x0 x1 z = some (r, z')) : W p l e rmX19_endPieces s m args below meth c H locs 0 0 Q (F0 m 0 ls []) := by
  unfold fX19_endPieces at h
  refine lv_aload_n F.1 F.2.1 dX19_endPieces_0 rfl (lv_at hl 0 rfl) ?_
  refine gf19_395 F hx0 hr dX19_endPieces_1 ?_
  refine lv_iload_n F.1 F.2.1 dX19_endPieces_4 rfl (lv_at hl 1 rfl) ?_
  replace h := zk_some h
  obtain ⟨c1, h⟩ := h
  refine zr_aaldv (k := 148) (by decide) rfl rfl (zlen_d (by decide)) F (zal_a F hx0 (j := 10) rfl) hr dX19_endPieces_5 c1 (fun y2 ey2 => ?_)
  replace h := zl_sub ey2 h
  have hy2 := zal_q hr (zal_a F hx0 (j := 10) rfl) rfl ey2
  clear ey2
  refine zr_astore_n (lv' := [(2, va_rf (Option.map (B 17) y2)), (0, .ref (B 12 x0)), (1, .int x1)]) F.1 F.2.1 dX19_endPieces_6 rfl hl (by decide) rfl (fun ls hl => ?_)
  refine lv_aload_n F.1 F.2.1 dX19_endPieces_7 rfl (lv_at hl 1 rfl) ?_
  refine lv_dup F.1 F.2.1 dX19_endPieces_8 rfl ?_
  refine gf19_392 F hx0 hr dX19_endPieces_9 ?_
  refine lv_iconst (v := (1 : Int32)) F.1 F.2.1 dX19_endPieces_12 (by decide) ?_
  refine lv_isub F.1 F.2.1 dX19_endPieces_13 ?_
  refine pf19_392 F hx0 hr dX19_endPieces_14 ((zgI z 12 11 x0) - (1 : Int32)) (fun H locs z3 ez3 hr => ?_)
  replace h := zl_sub ez3 h
  clear ez3
  refine lv_iload_n F.1 F.2.1 dX19_endPieces_17 rfl (lv_at hl 2 rfl) ?_
  refine lv_istore_n (lv' := [(3, .int x1), (2, va_rf (Option.map (B 17) y2)), (0, .ref (B 12 x0)), (1, .int x1)]) F.1 F.2.1 dX19_endPieces_18 rfl hl (by decide) (by simp only [List.filter, zrf_cat]; rfl) (fun ls hl => ?_)
  exact lX19_endPieces_19 hst F hA E  _ x0 y2 x1 hx0 hy2 hr (lv_sub hl [2, 1, 0] rfl) h
end SX19_endPieces
set_option maxRecDepth 100000 in
theorem okX19_endPieces (l : Launch) (D : va_G) (cy : Nat → ClassId) (B : Nat → Nat → Nat) (ids : List (Nat × Nat)) (hst : zSt B ids) (N : Nat) (x0 : Nat) (hx0 : (12, x0) ∈ ids) (x1 : Int32) {z : St} {r : Int32} {z' : St} (hW : zWf ids z) (h : fX19_endPieces N x0 x1 z = some (r, z')) : zM l yX19_endPieces (zws yX19_endPieces cX19_endPieces 4 none) rmX19_endPieces D cy B ids [.ref (B 12 x0), .int x1] none True z z' :=
  zM_of hst hW (by decide +kernel) (Nat.le_of_ble_eq_true rfl) (fun p e s m args below meth c A ls F hA hret hlocks hr hl => bX19_endPieces_0 hst F hA (zEnd_v F hret hlocks) x0 x1 hx0 hr hl h)
abbrev rmX19_neighbour : Room := { frames := 0, cells := 0, slots := 0, locals := 0 }
theorem hdX19_neighbour : yX19_neighbour.cls ≠ "java/lang/invoke/MethodHandle" ∧ yX19_neighbour.cls ≠ "java/lang/invoke/VarHandle" ∧ (parseMethodDescriptor yX19_neighbour.desc).map (fun d => d.parameters.length) = some 3 := by decide +kernel
section SX19_neighbour
variable {p : Program} {l : Launch} {e : Env} {s : State} {m : MethodId} {args : Array Value} {below : List Frame} {meth : Method} {c : Code} {Q : State → Prop} {D : va_G} {cy : Nat → ClassId} {B : Nat → Nat → Nat} {ids : List (Nat × Nat)} {A : Nat → Prop}
def fX19_neighbour_43 (N : Nat) (K2 : Nat → Int32 → Int32 → Int32 → St → Option (Option Nat × St)) (x0 : Nat) (x1 : Int32) (x2 : Int32) (x3 : Int32) (z : St) : Option (Option Nat × St) := zl (x3 + 1) fun v1 => K2 x0 x1 x2 v1 z
set_option maxHeartbeats 4000000 in
set_option maxRecDepth 100000 in
theorem bX19_neighbour_43 (hst : zSt B ids) (F : zFx p m c cX19_neighbour 4 s args RX19 D cy B ids A) (hA : ∀ q : Nat, s.heap.size ≤ q → A q) {r : Option Nat} {z' : St} (E : zEnd p l e rmX19_neighbour s m args below meth c cX19_neighbour D cy B ids A Q (some (va_rf (r.map (B 15)))) z' .areturn (∀ i, r = some i → (15, i) ∈ ids)) {N : Nat} {K2 : Nat → Int32 → Int32 → Int32 → St → Option (Option Nat × St)} (hK2 : ∀ (x0 : Nat) (x1 : Int32) (x2 : Int32) (x3 : Int32) (hx0 : (12, x0) ∈ ids) {z : St} {H : Heap} {locs : List Loc} {ls : Array Slot} (hr : zRep D cy B ids A s.heap z H locs) (hl : lv_has ls 4 [(0, .ref (B 12 x0)), (1, .int x1), (2, .int x2), (3, .int x3)]), K2 x0 x1 x2 x3 z = some (r, z') → W p l e rmX19_neighbour s m args below meth c H locs 0 0 Q (F0 m 2 ls [])) (x0 : Nat) (x1 : Int32) (x2 : Int32) (x3 : Int32) (hx0 : (12, x0) ∈ ids) {z : St} {H : Heap} {locs : List Loc} {ls : Array Slot} (hr : zRep D cy B ids A s.heap z H locs) (hl : lv_has ls 4 [(0, .ref (B 12 x0)), (1, .int x1), (2, .int x2), (3, .int x3)]) (h : fX19_neighbour_43 N K2 x0 x1 x2 x3 z = some (r, z')) : W p l e rmX19_neighbour s m args below meth c H locs 0 0 Q (F0 m 43 ls []) := by
  unfold fX19_neighbour_43 at h
  obtain ⟨v1, ev1⟩ : ∃ y : Int32, y = (x3 + 1) := ⟨_, rfl⟩
  replace h := zl_sub ev1 h
  refine lv_iinc (v := v1) (lv' := [(3, .int v1), (0, .ref (B 12 x0)), (1, .int x1), (2, .int x2)]) F.1 F.2.1 dX19_neighbour_43 hl (k := 3) rfl (by rw [ev1]; rfl) (by decide) rfl (fun ls hl => ?_)
  refine lv_goto (tgt := 2) F.1 F.2.1 dX19_neighbour_46 (by decide) ?_
  exact hK2 x0 x1 x2 v1 hx0 hr (lv_sub hl [1, 2, 3, 0] rfl) h
def fX19_neighbour_2b (N : Nat) (K2 : Nat → Int32 → Int32 → Int32 → St → Option (Option Nat × St)) (x0 : Nat) (x1 : Int32) (x2 : Int32) (x3 : Int32) (z : St) : Option (Option Nat × St) := if (zgI z 12 13 x0) ≤ x3 then (some (none, z)) else (zk x3 16 <| zl (zgQ z 149 x0 (Int32.toNatClampNeg x3)) fun y3 => zd y3 fun a4 => if ¬ (zgI z 15 0 a4) = x1 then (fX19_neighbour_43 N K2 x0 x1 x2 x3 z) else (zk x3 16 <| zl (zgQ z 149 x0 (Int32.toNatClampNeg x3)) fun y7 => zd y7 fun a8 => if ¬ (zgI z 15 1 a8) = x2 then (fX19_neighbour_43 N K2 x0 x1 x2 x3 z) else (zk x3 16 <| zl (zgQ z 149 x0 (Int32.toNatClampNeg x3)) fun y11 => some (y11, z))))
def fX19_neighbour_2 (N : Nat)  : Nat → Nat → Int32 → Int32 → Int32 → St → Option (Option Nat × St)
  | 0 => fun _ _ _ _ _ => none
  | n + 1 => fX19_neighbour_2b N (fX19_neighbour_2 N  n)
set_option maxHeartbeats 4000000 in
set_option maxRecDepth 100000 in
theorem bX19_neighbour_2 (hst : zSt B ids) (F : zFx p m c cX19_neighbour 4 s args RX19 D cy B ids A) (hA : ∀ q : Nat, s.heap.size ≤ q → A q) {r : Option Nat} {z' : St} (E : zEnd p l e rmX19_neighbour s m args below meth c cX19_neighbour D cy B ids A Q (some (va_rf (r.map (B 15)))) z' .areturn (∀ i, r = some i → (15, i) ∈ ids)) {N : Nat} {K2 : Nat → Int32 → Int32 → Int32 → St → Option (Option Nat × St)} (hK2 : ∀ (x0 : Nat) (x1 : Int32) (x2 : Int32) (x3 : Int32) (hx0 : (12, x0) ∈ ids) {z : St} {H : Heap} {locs : List Loc} {ls : Array Slot} (hr : zRep D cy B ids A s.heap z H locs) (hl : lv_has ls 4 [(0, .ref (B 12 x0)), (1, .int x1), (2, .int x2), (3, .int x3)]), K2 x0 x1 x2 x3 z = some (r, z') → W p l e rmX19_neighbour s m args below meth c H locs 0 0 Q (F0 m 2 ls [])) (x0 : Nat) (x1 : Int32) (x2 : Int32) (x3 : Int32) (hx0 : (12, x0) ∈ ids) {z : St} {H : Heap} {locs : List Loc} {ls : Array Slot} (hr : zRep D cy B ids A s.heap z H locs) (hl : lv_has ls 4 [(0, .ref (B 12 x0)), (1, .int x1), (2, .int x2), (3, .int x3)]) (h : fX19_neighbour_2b N K2 x0 x1 x2 x3 z = some (r, z')) : W p l e rmX19_neighbour s m args below meth c H locs 0 0 Q (F0 m 2 ls []) := by
  unfold fX19_neighbour_2b at h
  refine lv_iload_n F.1 F.2.1 dX19_neighbour_2 rfl (lv_at hl 3 rfl) ?_
  refine lv_aload_n F.1 F.2.1 dX19_neighbour_3 rfl (lv_at hl 0 rfl) ?_
  refine gf19_457 F hx0 hr dX19_neighbour_4 ?_
  refine lv_icmp_ge (tgt := 49) F.1 F.2.1 dX19_neighbour_7 (by decide) (fun c1 => ?_) (fun c1 => ?_)
  · replace h := zi_t c1 h
    refine lv_null F.1 F.2.1 dX19_neighbour_49 ?_
    obtain ⟨rfl, rfl⟩ := zret h
    exact E _ _ _ _ dX19_neighbour_50 zal_0 hr
  · replace h := zi_f c1 h
    refine lv_aload_n F.1 F.2.1 dX19_neighbour_10 rfl (lv_at hl 0 rfl) ?_
    refine gf19_460 F hx0 hr dX19_neighbour_11 ?_
    refine lv_iload_n F.1 F.2.1 dX19_neighbour_14 rfl (lv_at hl 3 rfl) ?_
    replace h := zk_some h
    obtain ⟨c2, h⟩ := h
    refine zr_aaldv (k := 149) (by decide) rfl rfl (zlen_d (by decide)) F (zal_a F hx0 (j := 12) rfl) hr dX19_neighbour_15 c2 (fun y3 ey3 => ?_)
    replace h := zl_sub ey3 h
    have hy3 := zal_q hr (zal_a F hx0 (j := 12) rfl) rfl ey3
    clear ey3
    replace h := zd_some h
    obtain ⟨a4, rfl, h⟩ := h
    refine gf19_464 F (hy3 _ rfl) hr dX19_neighbour_16 ?_
    refine lv_iload_n F.1 F.2.1 dX19_neighbour_19 rfl (lv_at hl 1 rfl) ?_
    refine lv_icmp_ne (tgt := 43) F.1 F.2.1 dX19_neighbour_20 (by decide) (fun c5 => ?_) (fun c5 => ?_)
    · replace h := zi_t c5 h
      exact bX19_neighbour_43 hst F hA E hK2 x0 x1 x2 x3 hx0 hr (lv_sub hl [0, 1, 2, 3] rfl) h
    · replace h := zi_f (fun q => q c5) h
      refine lv_aload_n F.1 F.2.1 dX19_neighbour_23 rfl (lv_at hl 0 rfl) ?_
      refine gf19_460 F hx0 hr dX19_neighbour_24 ?_
      refine lv_iload_n F.1 F.2.1 dX19_neighbour_27 rfl (lv_at hl 3 rfl) ?_
      replace h := zk_some h
      obtain ⟨c6, h⟩ := h
      refine zr_aaldv (k := 149) (by decide) rfl rfl (zlen_d (by decide)) F (zal_a F hx0 (j := 12) rfl) hr dX19_neighbour_28 c6 (fun y7 ey7 => ?_)
      replace h := zl_sub ey7 h
      have hy7 := zal_q hr (zal_a F hx0 (j := 12) rfl) rfl ey7
      clear ey7
      replace h := zd_some h
      obtain ⟨a8, rfl, h⟩ := h
      refine gf19_467 F (hy7 _ rfl) hr dX19_neighbour_29 ?_
      refine lv_iload_n F.1 F.2.1 dX19_neighbour_32 rfl (lv_at hl 2 rfl) ?_
      refine lv_icmp_ne (tgt := 43) F.1 F.2.1 dX19_neighbour_33 (by decide) (fun c9 => ?_) (fun c9 => ?_)
      · replace h := zi_t c9 h
        exact bX19_neighbour_43 hst F hA E hK2 x0 x1 x2 x3 hx0 hr (lv_sub hl [0, 1, 2, 3] rfl) h
      · replace h := zi_f (fun q => q c9) h
        refine lv_aload_n F.1 F.2.1 dX19_neighbour_36 rfl (lv_at hl 0 rfl) ?_
        refine gf19_460 F hx0 hr dX19_neighbour_37 ?_
        refine lv_iload_n F.1 F.2.1 dX19_neighbour_40 rfl (lv_at hl 3 rfl) ?_
        replace h := zk_some h
        obtain ⟨c10, h⟩ := h
        refine zr_aaldv (k := 149) (by decide) rfl rfl (zlen_d (by decide)) F (zal_a F hx0 (j := 12) rfl) hr dX19_neighbour_41 c10 (fun y11 ey11 => ?_)
        replace h := zl_sub ey11 h
        have hy11 := zal_q hr (zal_a F hx0 (j := 12) rfl) rfl ey11
        clear ey11
        obtain ⟨rfl, rfl⟩ := zret h
        exact E _ _ _ _ dX19_neighbour_42 hy11 hr
theorem lX19_neighbour_2 (hst : zSt B ids) (F : zFx p m c cX19_neighbour 4 s args RX19 D cy B ids A) (hA : ∀ q : Nat, s.heap.size ≤ q → A q) {r : Option Nat} {z' : St} (E : zEnd p l e rmX19_neighbour s m args below meth c cX19_neighbour D cy B ids A Q (some (va_rf (r.map (B 15)))) z' .areturn (∀ i, r = some i → (15, i) ∈ ids)) {N : Nat}  : ∀ (n : Nat) (x0 : Nat) (x1 : Int32) (x2 : Int32) (x3 : Int32) (hx0 : (12, x0) ∈ ids) {z : St} {H : Heap} {locs : List Loc} {ls : Array Slot} (hr : zRep D cy B ids A s.heap z H locs) (hl : lv_has ls 4 [(0, .ref (B 12 x0)), (1, .int x1), (2, .int x2), (3, .int x3)]), fX19_neighbour_2 N  n x0 x1 x2 x3 z = some (r, z') → W p l e rmX19_neighbour s m args below meth c H locs 0 0 Q (F0 m 2 ls []) := by
  intro n
  induction n with
  | zero => intro x0 x1 x2 x3 hx0 z H locs ls hr hl h; cases h
  | succ n ih => intro x0 x1 x2 x3 hx0 z H locs ls hr hl h; exact bX19_neighbour_2 hst F hA E ih x0 x1 x2 x3 hx0 hr hl h
def fX19_neighbour (N : Nat)  (x0 : Nat) (x1 : Int32) (x2 : Int32) (z : St) : Option (Option Nat × St) := fX19_neighbour_2 N N x0 x1 x2 (0 : Int32) z
set_option maxHeartbeats 4000000 in
set_option maxRecDepth 100000 in
theorem bX19_neighbour_0 (hst : zSt B ids) (F : zFx p m c cX19_neighbour 4 s args RX19 D cy B ids A) (hA : ∀ q : Nat, s.heap.size ≤ q → A q) {r : Option Nat} {z' : St} (E : zEnd p l e rmX19_neighbour s m args below meth c cX19_neighbour D cy B ids A Q (some (va_rf (r.map (B 15)))) z' .areturn (∀ i, r = some i → (15, i) ∈ ids)) {N : Nat}  (x0 : Nat) (x1 : Int32) (x2 : Int32) (hx0 : (12, x0) ∈ ids) {z : St} {H : Heap} {locs : List Loc} {ls : Array Slot} (hr : zRep D cy B ids A s.heap z H locs) (hl : lv_has ls 4 [(0, .ref (B 12 x0)), (1, .int x1), (2, .int x2)]) (h : fX19_neighbour N x0 x1 x2 z = some (r, z')) : W p l e rmX19_neighbour s m args below meth c H locs 0 0 Q (F0 m 0 ls []) := by
  unfold fX19_neighbour at h
  refine lv_iconst (v := (0 : Int32)) F.1 F.2.1 dX19_neighbour_0 (by decide) ?_
  refine lv_istore_n (lv' := [(3, .int (0 : Int32)), (0, .ref (B 12 x0)), (1, .int x1), (2, .int x2)]) F.1 F.2.1 dX19_neighbour_1 rfl hl (by decide) rfl (fun ls hl => ?_)
  exact lX19_neighbour_2 hst F hA E  _ x0 x1 x2 (0 : Int32) hx0 hr (lv_sub hl [1, 2, 3, 0] rfl) h
end SX19_neighbour
set_option maxRecDepth 100000 in
theorem okX19_neighbour (l : Launch) (D : va_G) (cy : Nat → ClassId) (B : Nat → Nat → Nat) (ids : List (Nat × Nat)) (hst : zSt B ids) (N : Nat) (x0 : Nat) (hx0 : (12, x0) ∈ ids) (x1 : Int32) (x2 : Int32) {z : St} {r : Option Nat} {z' : St} (hW : zWf ids z) (h : fX19_neighbour N x0 x1 x2 z = some (r, z')) : zM l yX19_neighbour (zws yX19_neighbour cX19_neighbour 4 (some (.object "WholeInternetModel$Neighbour"))) rmX19_neighbour D cy B ids [.ref (B 12 x0), .int x1, .int x2] (some (va_rf (r.map (B 15)))) (∀ i, r = some i → (15, i) ∈ ids) z z' :=
  zM_of hst hW (by decide +kernel) (Nat.le_of_ble_eq_true rfl) (fun p e s m args below meth c A ls F hA hret hlocks hr hl => bX19_neighbour_0 hst F hA (zEnd_r F hret hlocks) x0 x1 x2 hx0 hr hl h)
abbrev rmX19_friend : Room := { frames := 1, cells := 0, slots := 0, locals := 23 }
theorem hdX19_friend : yX19_friend.cls ≠ "java/lang/invoke/MethodHandle" ∧ yX19_friend.cls ≠ "java/lang/invoke/VarHandle" ∧ (parseMethodDescriptor yX19_friend.desc).map (fun d => d.parameters.length) = some 3 := by decide +kernel
theorem hroX19_friend_X19_neighbour : rmX19_neighbour.frames + 1 ≤ rmX19_friend.frames ∧ 8 + (4 + 11) + rmX19_neighbour.locals ≤ rmX19_friend.locals := by decide
section SX19_friend
variable {p : Program} {l : Launch} {e : Env} {s : State} {m : MethodId} {args : Array Value} {below : List Frame} {meth : Method} {c : Code} {Q : State → Prop} {D : va_G} {cy : Nat → ClassId} {B : Nat → Nat → Nat} {ids : List (Nat × Nat)} {A : Nat → Prop}
def fX19_friend (N : Nat)  (x0 : Nat) (x1 : Int32) (x2 : Int32) (z : St) : Option (Option Nat × St) := zc (fX19_neighbour N x0 x1 x2 z) fun r1 z2 => zo r1 (some (none, z2)) fun a6 => if (zgI z2 15 3 a6) = 0 then (some (none, z2)) else (some ((some a6), z2))
set_option maxHeartbeats 4000000 in
set_option maxRecDepth 100000 in
theorem bX19_friend_0 (hst : zSt B ids) (F : zFx p m c cX19_friend 4 s args RX19 D cy B ids A) (hA : ∀ q : Nat, s.heap.size ≤ q → A q) {r : Option Nat} {z' : St} (E : zEnd p l e rmX19_friend s m args below meth c cX19_friend D cy B ids A Q (some (va_rf (r.map (B 15)))) z' .areturn (∀ i, r = some i → (15, i) ∈ ids)) {N : Nat}  (x0 : Nat) (x1 : Int32) (x2 : Int32) (hx0 : (12, x0) ∈ ids) {z : St} {H : Heap} {locs : List Loc} {ls : Array Slot} (hr : zRep D cy B ids A s.heap z H locs) (hl : lv_has ls 4 [(0, .ref (B 12 x0)), (1, .int x1), (2, .int x2)]) (h : fX19_friend N x0 x1 x2 z = some (r, z')) : W p l e rmX19_friend s m args below meth c H locs 0 0 Q (F0 m 0 ls []) := by
  unfold fX19_friend at h
  refine lv_aload_n F.1 F.2.1 dX19_friend_0 rfl (lv_at hl 0 rfl) ?_
  refine lv_iload_n F.1 F.2.1 dX19_friend_1 rfl (lv_at hl 1 rfl) ?_
  refine lv_iload_n F.1 F.2.1 dX19_friend_2 rfl (lv_at hl 2 rfl) ?_
  replace h := zc_some h
  obtain ⟨r1, z2, hc3, h⟩ := h
  refine zr_callr (zrun_S (As := [.ref (B 12 x0), .int x1, .int x2]) (rest := []) zq_2814 zq_2815 zq_2816 zq_4 hdX19_neighbour (okX19_neighbour l D cy B ids hst N x0 hx0 x1  x2  hr.2.2 hc3) F hr hl.1 rfl (by decide) dX19_friend_3 rfl rfl hroX19_friend_X19_neighbour ⟨Nat.zero_le _, Nat.zero_le _⟩) F hA hr (fun H locs hw4 hr => ?_)
  clear hc3
  refine zr_astore_n (lv' := [(3, va_rf (Option.map (B 15) r1)), (0, .ref (B 12 x0)), (1, .int x1), (2, .int x2)]) F.1 F.2.1 dX19_friend_6 rfl hl (by decide) rfl (fun ls hl => ?_)
  refine zr_aload_n F.1 F.2.1 dX19_friend_7 rfl (lv_at hl 0 rfl) ?_
  refine zr_ifnull (tgt := 22) F.1 F.2.1 dX19_friend_8 (by decide) (fun e5 => ?_) (fun a6 e5 => ?_)
  · replace h := zo_n e5 h
    subst e5
    refine lv_null F.1 F.2.1 dX19_friend_22 ?_
    obtain ⟨rfl, rfl⟩ := zret h
    exact E _ _ _ _ dX19_friend_23 zal_0 hr
  · replace h := zo_s e5 h
    subst e5
    refine lv_aload_n F.1 F.2.1 dX19_friend_11 rfl (lv_at hl 0 rfl) ?_
    refine gf19_473 F (hw4 _ rfl) hr dX19_friend_12 ?_
    refine lv_if_eq (tgt := 22) F.1 F.2.1 dX19_friend_15 (by decide) (fun c7 => ?_) (fun c7 => ?_)
    · replace h := zi_t c7 h
      refine lv_null F.1 F.2.1 dX19_friend_22 ?_
      obtain ⟨rfl, rfl⟩ := zret h
      exact E _ _ _ _ dX19_friend_23 zal_0 hr
    · replace h := zi_f c7 h
      refine lv_aload_n F.1 F.2.1 dX19_friend_18 rfl (lv_at hl 0 rfl) ?_
      refine lv_goto (tgt := 23) F.1 F.2.1 dX19_friend_19 (by decide) ?_
      obtain ⟨rfl, rfl⟩ := zret h
      exact E _ _ _ _ dX19_friend_23 (zal_s (hw4 _ rfl)) hr
end SX19_friend
set_option maxRecDepth 100000 in
theorem okX19_friend (l : Launch) (D : va_G) (cy : Nat → ClassId) (B : Nat → Nat → Nat) (ids : List (Nat × Nat)) (hst : zSt B ids) (N : Nat) (x0 : Nat) (hx0 : (12, x0) ∈ ids) (x1 : Int32) (x2 : Int32) {z : St} {r : Option Nat} {z' : St} (hW : zWf ids z) (h : fX19_friend N x0 x1 x2 z = some (r, z')) : zM l yX19_friend (zws yX19_friend cX19_friend 4 (some (.object "WholeInternetModel$Neighbour"))) rmX19_friend D cy B ids [.ref (B 12 x0), .int x1, .int x2] (some (va_rf (r.map (B 15)))) (∀ i, r = some i → (15, i) ∈ ids) z z' :=
  zM_of hst hW (by decide +kernel) (Nat.le_of_ble_eq_true rfl) (fun p e s m args below meth c A ls F hA hret hlocks hr hl => bX19_friend_0 hst F hA (zEnd_r F hret hlocks) x0 x1 x2 hx0 hr hl h)
abbrev rmX19_isDue : Room := { frames := 0, cells := 0, slots := 0, locals := 0 }
theorem hdX19_isDue : yX19_isDue.cls ≠ "java/lang/invoke/MethodHandle" ∧ yX19_isDue.cls ≠ "java/lang/invoke/VarHandle" ∧ (parseMethodDescriptor yX19_isDue.desc).map (fun d => d.parameters.length) = some 2 := by decide +kernel
section SX19_isDue
variable {p : Program} {l : Launch} {e : Env} {s : State} {m : MethodId} {args : Array Value} {below : List Frame} {meth : Method} {c : Code} {Q : State → Prop} {D : va_G} {cy : Nat → ClassId} {B : Nat → Nat → Nat} {ids : List (Nat × Nat)} {A : Nat → Prop}
def fX19_isDue (N : Nat)  (x0 : Nat) (x1 : Nat) (x2 : Int32) (z : St) : Option (Int32 × St) := zk x2 16 <| zl (zsA z 162 x1 (Int32.toNatClampNeg x2) (vp_nar .boolean (1 : Int32))) fun z2 => zk x2 16 <| zl (zsA z2 163 x1 (Int32.toNatClampNeg x2) (zgI z2 19 24 x0)) fun z4 => some (0, z4)
set_option maxHeartbeats 4000000 in
set_option maxRecDepth 100000 in
theorem bX19_isDue_0 (hst : zSt B ids) (F : zFx p m c cX19_isDue 3 s args RX19 D cy B ids A) (hA : ∀ q : Nat, s.heap.size ≤ q → A q) {r : Int32} {z' : St} (E : zEnd p l e rmX19_isDue s m args below meth c cX19_isDue D cy B ids A Q none z' .return_ True) {N : Nat}  (x0 : Nat) (x1 : Nat) (x2 : Int32) (hx0 : (19, x0) ∈ ids) (hx1 : (15, x1) ∈ ids) {z : St} {H : Heap} {locs : List Loc} {ls : Array Slot} (hr : zRep D cy B ids A s.heap z H locs) (hl : lv_has ls 3 [(0, .ref (B 19 x0)), (1, .ref (B 15 x1)), (2, .int x2)]) (h : fX19_isDue N x0 x1 x2 z = some (r, z')) : W p l e rmX19_isDue s m args below meth c H locs 0 0 Q (F0 m 0 ls []) := by
  unfold fX19_isDue at h
  refine lv_aload_n F.1 F.2.1 dX19_isDue_0 rfl (lv_at hl 1 rfl) ?_
  refine gf19_452 F hx1 hr dX19_isDue_1 ?_
  refine lv_iload_n F.1 F.2.1 dX19_isDue_4 rfl (lv_at hl 2 rfl) ?_
  refine lv_iconst (v := (1 : Int32)) F.1 F.2.1 dX19_isDue_5 (by decide) ?_
  replace h := zk_some h
  obtain ⟨c1, h⟩ := h
  refine zr_zast (k := 162) (by decide) rfl (by decide) F (zal_a F hx1 (j := 4) rfl) hr dX19_isDue_6 c1 (fun H locs z2 ez2 hr => ?_)
  replace h := zl_sub ez2 h
  clear ez2
  refine lv_aload_n F.1 F.2.1 dX19_isDue_7 rfl (lv_at hl 1 rfl) ?_
  refine gf19_476 F hx1 hr dX19_isDue_8 ?_
  refine lv_iload_n F.1 F.2.1 dX19_isDue_11 rfl (lv_at hl 2 rfl) ?_
  refine lv_aload_n F.1 F.2.1 dX19_isDue_12 rfl (lv_at hl 0 rfl) ?_
  refine gf19_143 F hx0 hr dX19_isDue_13 ?_
  replace h := zk_some h
  obtain ⟨c3, h⟩ := h
  refine zr_iast (k := 163) (by decide) rfl (by decide) F (zal_a F hx1 (j := 5) rfl) hr dX19_isDue_16 c3 (fun H locs z4 ez4 hr => ?_)
  replace h := zl_sub ez4 h
  clear ez4
  obtain ⟨rfl, rfl⟩ := zret h
  exact E _ _ _ _ dX19_isDue_17 trivial hr
end SX19_isDue
set_option maxRecDepth 100000 in
theorem okX19_isDue (l : Launch) (D : va_G) (cy : Nat → ClassId) (B : Nat → Nat → Nat) (ids : List (Nat × Nat)) (hst : zSt B ids) (N : Nat) (x0 : Nat) (hx0 : (19, x0) ∈ ids) (x1 : Nat) (hx1 : (15, x1) ∈ ids) (x2 : Int32) {z : St} {r : Int32} {z' : St} (hW : zWf ids z) (h : fX19_isDue N x0 x1 x2 z = some (r, z')) : zM l yX19_isDue (zws yX19_isDue cX19_isDue 3 none) rmX19_isDue D cy B ids [.ref (B 19 x0), .ref (B 15 x1), .int x2] none True z z' :=
  zM_of hst hW (by decide +kernel) (Nat.le_of_ble_eq_true rfl) (fun p e s m args below meth c A ls F hA hret hlocks hr hl => bX19_isDue_0 hst F hA (zEnd_v F hret hlocks) x0 x1 x2 hx0 hx1 hr hl h)
abbrev rmX19_take : Room := { frames := 1, cells := 0, slots := 0, locals := 22 }
theorem hdX19_take : yX19_take.cls ≠ "java/lang/invoke/MethodHandle" ∧ yX19_take.cls ≠ "java/lang/invoke/VarHandle" ∧ (parseMethodDescriptor yX19_take.desc).map (fun d => d.parameters.length) = some 3 := by decide +kernel
theorem hroX19_take_X19_ad : rmX19_ad.frames + 1 ≤ rmX19_take.frames ∧ 8 + (3 + 11) + rmX19_ad.locals ≤ rmX19_take.locals := by decide
theorem hroX19_take_X19_dropAdvert : rmX19_dropAdvert.frames + 1 ≤ rmX19_take.frames ∧ 8 + (2 + 11) + rmX19_dropAdvert.locals ≤ rmX19_take.locals := by decide
theorem hroX19_take_X19_isDue : rmX19_isDue.frames + 1 ≤ rmX19_take.frames ∧ 8 + (3 + 11) + rmX19_isDue.locals ≤ rmX19_take.locals := by decide
section SX19_take
variable {p : Program} {l : Launch} {e : Env} {s : State} {m : MethodId} {args : Array Value} {below : List Frame} {meth : Method} {c : Code} {Q : State → Prop} {D : va_G} {cy : Nat → ClassId} {B : Nat → Nat → Nat} {ids : List (Nat × Nat)} {A : Nat → Prop}
def fX19_take_97 (N : Nat) (K57 : Nat → Nat → Option Nat → Int32 → Int32 → St → Option (Int32 × St)) (x0 : Nat) (x1 : Nat) (x3 : Option Nat) (x4 : Int32) (x5 : Int32) (z : St) : Option (Int32 × St) := zl (x5 + 1) fun v1 => K57 x0 x1 x3 x4 v1 z
set_option maxHeartbeats 4000000 in
set_option maxRecDepth 100000 in
theorem bX19_take_97 (hst : zSt B ids) (F : zFx p m c cX19_take 7 s args RX19 D cy B ids A) (hA : ∀ q : Nat, s.heap.size ≤ q → A q) {r : Int32} {z' : St} (E : zEnd p l e rmX19_take s m args below meth c cX19_take D cy B ids A Q none z' .return_ True) {N : Nat} {K57 : Nat → Nat → Option Nat → Int32 → Int32 → St → Option (Int32 × St)} (hK57 : ∀ (x0 : Nat) (x1 : Nat) (x3 : Option Nat) (x4 : Int32) (x5 : Int32) (hx0 : (19, x0) ∈ ids) (hx1 : (12, x1) ∈ ids) (hx3 : ∀ t, x3 = some t → (15, t) ∈ ids) {z : St} {H : Heap} {locs : List Loc} {ls : Array Slot} (hr : zRep D cy B ids A s.heap z H locs) (hl : lv_has ls 7 [(0, .ref (B 19 x0)), (1, .ref (B 12 x1)), (3, va_rf (Option.map (B 15) x3)), (4, .int x4), (5, .int x5)]), K57 x0 x1 x3 x4 x5 z = some (r, z') → W p l e rmX19_take s m args below meth c H locs 0 0 Q (F0 m 57 ls [])) (x0 : Nat) (x1 : Nat) (x3 : Option Nat) (x4 : Int32) (x5 : Int32) (hx0 : (19, x0) ∈ ids) (hx1 : (12, x1) ∈ ids) (hx3 : ∀ t, x3 = some t → (15, t) ∈ ids) {z : St} {H : Heap} {locs : List Loc} {ls : Array Slot} (hr : zRep D cy B ids A s.heap z H locs) (hl : lv_has ls 7 [(0, .ref (B 19 x0)), (1, .ref (B 12 x1)), (3, va_rf (Option.map (B 15) x3)), (4, .int x4), (5, .int x5)]) (h : fX19_take_97 N K57 x0 x1 x3 x4 x5 z = some (r, z')) : W p l e rmX19_take s m args below meth c H locs 0 0 Q (F0 m 97 ls []) := by
  unfold fX19_take_97 at h
  obtain ⟨v1, ev1⟩ : ∃ y : Int32, y = (x5 + 1) := ⟨_, rfl⟩
  replace h := zl_sub ev1 h
  refine lv_iinc (v := v1) (lv' := [(5, .int v1), (0, .ref (B 19 x0)), (1, .ref (B 12 x1)), (3, va_rf (Option.map (B 15) x3)), (4, .int x4)]) F.1 F.2.1 dX19_take_97 hl (k := 4) rfl (by rw [ev1]; rfl) (by decide) rfl (fun ls hl => ?_)
  refine lv_goto (tgt := 57) F.1 F.2.1 dX19_take_100 (by decide) ?_
  exact hK57 x0 x1 x3 x4 v1 hx0 hx1 hx3 hr (lv_sub hl [1, 2, 3, 4, 0] rfl) h
def fX19_take_57b (N : Nat) (K57 : Nat → Nat → Option Nat → Int32 → Int32 → St → Option (Int32 × St)) (x0 : Nat) (x1 : Nat) (x3 : Option Nat) (x4 : Int32) (x5 : Int32) (z : St) : Option (Int32 × St) := if (zgI z 12 13 x1) ≤ x5 then (some (0, z)) else (zk x5 16 <| zl (zgQ z 149 x1 (Int32.toNatClampNeg x5)) fun y3 => if y3 = x3 then (fX19_take_97 N K57 x0 x1 x3 x4 x5 z) else (zd y3 fun a5 => if (zgI z 15 3 a5) = 0 then (fX19_take_97 N K57 x0 x1 x3 x4 x5 z) else (zc (fX19_isDue N x0 a5 x4 z) fun _ z8 => fX19_take_97 N K57 x0 x1 x3 x4 x5 z8)))
def fX19_take_57 (N : Nat)  : Nat → Nat → Nat → Option Nat → Int32 → Int32 → St → Option (Int32 × St)
  | 0 => fun _ _ _ _ _ _ => none
  | n + 1 => fX19_take_57b N (fX19_take_57 N  n)
set_option maxHeartbeats 4000000 in
set_option maxRecDepth 100000 in
theorem bX19_take_57 (hst : zSt B ids) (F : zFx p m c cX19_take 7 s args RX19 D cy B ids A) (hA : ∀ q : Nat, s.heap.size ≤ q → A q) {r : Int32} {z' : St} (E : zEnd p l e rmX19_take s m args below meth c cX19_take D cy B ids A Q none z' .return_ True) {N : Nat} {K57 : Nat → Nat → Option Nat → Int32 → Int32 → St → Option (Int32 × St)} (hK57 : ∀ (x0 : Nat) (x1 : Nat) (x3 : Option Nat) (x4 : Int32) (x5 : Int32) (hx0 : (19, x0) ∈ ids) (hx1 : (12, x1) ∈ ids) (hx3 : ∀ t, x3 = some t → (15, t) ∈ ids) {z : St} {H : Heap} {locs : List Loc} {ls : Array Slot} (hr : zRep D cy B ids A s.heap z H locs) (hl : lv_has ls 7 [(0, .ref (B 19 x0)), (1, .ref (B 12 x1)), (3, va_rf (Option.map (B 15) x3)), (4, .int x4), (5, .int x5)]), K57 x0 x1 x3 x4 x5 z = some (r, z') → W p l e rmX19_take s m args below meth c H locs 0 0 Q (F0 m 57 ls [])) (x0 : Nat) (x1 : Nat) (x3 : Option Nat) (x4 : Int32) (x5 : Int32) (hx0 : (19, x0) ∈ ids) (hx1 : (12, x1) ∈ ids) (hx3 : ∀ t, x3 = some t → (15, t) ∈ ids) {z : St} {H : Heap} {locs : List Loc} {ls : Array Slot} (hr : zRep D cy B ids A s.heap z H locs) (hl : lv_has ls 7 [(0, .ref (B 19 x0)), (1, .ref (B 12 x1)), (3, va_rf (Option.map (B 15) x3)), (4, .int x4), (5, .int x5)]) (h : fX19_take_57b N K57 x0 x1 x3 x4 x5 z = some (r, z')) : W p l e rmX19_take s m args below meth c H locs 0 0 Q (F0 m 57 ls []) := by
  unfold fX19_take_57b at h
  refine lv_iload F.1 F.2.1 dX19_take_57 (lv_at hl 4 rfl) ?_
  refine lv_aload_n F.1 F.2.1 dX19_take_59 rfl (lv_at hl 1 rfl) ?_
  refine gf19_457 F hx1 hr dX19_take_60 ?_
  refine lv_icmp_ge (tgt := 103) F.1 F.2.1 dX19_take_63 (by decide) (fun c1 => ?_) (fun c1 => ?_)
  · replace h := zi_t c1 h
    obtain ⟨rfl, rfl⟩ := zret h
    exact E _ _ _ _ dX19_take_103 trivial hr
  · replace h := zi_f c1 h
    refine lv_aload_n F.1 F.2.1 dX19_take_66 rfl (lv_at hl 1 rfl) ?_
    refine gf19_460 F hx1 hr dX19_take_67 ?_
    refine lv_iload F.1 F.2.1 dX19_take_70 (lv_at hl 4 rfl) ?_
    replace h := zk_some h
    obtain ⟨c2, h⟩ := h
    refine zr_aaldv (k := 149) (by decide) rfl rfl (zlen_d (by decide)) F (zal_a F hx1 (j := 12) rfl) hr dX19_take_72 c2 (fun y3 ey3 => ?_)
    replace h := zl_sub ey3 h
    have hy3 := zal_q hr (zal_a F hx1 (j := 12) rfl) rfl ey3
    clear ey3
    refine zr_astore (lv' := [(6, va_rf (Option.map (B 15) y3)), (0, .ref (B 19 x0)), (1, .ref (B 12 x1)), (3, va_rf (Option.map (B 15) x3)), (4, .int x4), (5, .int x5)]) F.1 F.2.1 dX19_take_73 hl (by decide) rfl (fun ls hl => ?_)
    refine zr_aload F.1 F.2.1 dX19_take_75 (lv_at hl 0 rfl) ?_
    refine zr_aload_n F.1 F.2.1 dX19_take_77 rfl (lv_at hl 3 rfl) ?_
    refine zr_acmp_eq hst (k := 15) (x := y3) (y := x3) (tgt := 97) F.1 F.2.1 dX19_take_78 (by decide) hy3 hx3 (fun c4 => ?_) (fun c4 => ?_)
    · replace h := zi_t c4 h
      exact bX19_take_97 hst F hA E hK57 x0 x1 x3 x4 x5 hx0 hx1 hx3 hr (lv_sub hl [1, 2, 3, 4, 5] rfl) h
    · replace h := zi_f c4 h
      refine zr_aload F.1 F.2.1 dX19_take_81 (lv_at hl 0 rfl) ?_
      replace h := zd_some h
      obtain ⟨a5, rfl, h⟩ := h
      refine gf19_473 F (hy3 _ rfl) hr dX19_take_83 ?_
      refine lv_if_eq (tgt := 97) F.1 F.2.1 dX19_take_86 (by decide) (fun c6 => ?_) (fun c6 => ?_)
      · replace h := zi_t c6 h
        exact bX19_take_97 hst F hA E hK57 x0 x1 x3 x4 x5 hx0 hx1 hx3 hr (lv_sub hl [1, 2, 3, 4, 5] rfl) h
      · replace h := zi_f c6 h
        refine lv_aload_n F.1 F.2.1 dX19_take_89 rfl (lv_at hl 1 rfl) ?_
        refine lv_aload F.1 F.2.1 dX19_take_90 (lv_at hl 0 rfl) ?_
        refine lv_iload F.1 F.2.1 dX19_take_92 (lv_at hl 4 rfl) ?_
        replace h := zc_some h
        obtain ⟨r7, z8, hc9, h⟩ := h
        refine zr_callv (zrun_V (As := [.ref (B 15 a5), .int x4]) (rest := []) zq_2832 zq_2834 zs_X19_isDue zq_2835 zq_4 hdX19_isDue (by decide) (T := TX19) (N := 32) rfl (okX19_isDue l D cy B ids hst N x0 hx0 a5 (hy3 _ rfl) x4  hr.2.2 hc9) F hr hx0 hl.1 rfl (by decide) dX19_take_94 rfl rfl hroX19_take_X19_isDue ⟨Nat.zero_le _, Nat.zero_le _⟩) F hA hr (fun H locs hw10 hr => ?_)
        clear hc9
        exact bX19_take_97 hst F hA E hK57 x0 x1 x3 x4 x5 hx0 hx1 hx3 hr (lv_sub hl [1, 2, 3, 4, 5] rfl) h
theorem lX19_take_57 (hst : zSt B ids) (F : zFx p m c cX19_take 7 s args RX19 D cy B ids A) (hA : ∀ q : Nat, s.heap.size ≤ q → A q) {r : Int32} {z' : St} (E : zEnd p l e rmX19_take s m args below meth c cX19_take D cy B ids A Q none z' .return_ True) {N : Nat}  : ∀ (n : Nat) (x0 : Nat) (x1 : Nat) (x3 : Option Nat) (x4 : Int32) (x5 : Int32) (hx0 : (19, x0) ∈ ids) (hx1 : (12, x1) ∈ ids) (hx3 : ∀ t, x3 = some t → (15, t) ∈ ids) {z : St} {H : Heap} {locs : List Loc} {ls : Array Slot} (hr : zRep D cy B ids A s.heap z H locs) (hl : lv_has ls 7 [(0, .ref (B 19 x0)), (1, .ref (B 12 x1)), (3, va_rf (Option.map (B 15) x3)), (4, .int x4), (5, .int x5)]), fX19_take_57 N  n x0 x1 x3 x4 x5 z = some (r, z') → W p l e rmX19_take s m args below meth c H locs 0 0 Q (F0 m 57 ls []) := by
  intro n
  induction n with
  | zero => intro x0 x1 x3 x4 x5 hx0 hx1 hx3 z H locs ls hr hl h; cases h
  | succ n ih => intro x0 x1 x3 x4 x5 hx0 hx1 hx3 z H locs ls hr hl h; exact bX19_take_57 hst F hA E ih x0 x1 x3 x4 x5 hx0 hx1 hx3 hr hl h
def fX19_take_30 (N : Nat)  (x0 : Nat) (x1 : Nat) (x2 : Int32) (x3 : Option Nat) (x4 : Int32) (z : St) : Option (Int32 × St) := zk x4 16 <| zl (zsA z 150 x1 (Int32.toNatClampNeg x4) x2) fun z2 => zk x4 16 <| zl (zsA z2 151 x1 (Int32.toNatClampNeg x4) (zgI z2 19 24 x0)) fun z4 => zl (zsI z4 12 23 x1 (1 : Int32)) fun z5 => fX19_take_57 N N x0 x1 x3 x4 (0 : Int32) z5
set_option maxHeartbeats 4000000 in
set_option maxRecDepth 100000 in
theorem bX19_take_30 (hst : zSt B ids) (F : zFx p m c cX19_take 7 s args RX19 D cy B ids A) (hA : ∀ q : Nat, s.heap.size ≤ q → A q) {r : Int32} {z' : St} (E : zEnd p l e rmX19_take s m args below meth c cX19_take D cy B ids A Q none z' .return_ True) {N : Nat}  (x0 : Nat) (x1 : Nat) (x2 : Int32) (x3 : Option Nat) (x4 : Int32) (hx0 : (19, x0) ∈ ids) (hx1 : (12, x1) ∈ ids) (hx3 : ∀ t, x3 = some t → (15, t) ∈ ids) {z : St} {H : Heap} {locs : List Loc} {ls : Array Slot} (hr : zRep D cy B ids A s.heap z H locs) (hl : lv_has ls 7 [(0, .ref (B 19 x0)), (1, .ref (B 12 x1)), (2, .int x2), (3, va_rf (Option.map (B 15) x3)), (4, .int x4)]) (h : fX19_take_30 N x0 x1 x2 x3 x4 z = some (r, z')) : W p l e rmX19_take s m args below meth c H locs 0 0 Q (F0 m 30 ls []) := by
  unfold fX19_take_30 at h
  refine lv_aload_n F.1 F.2.1 dX19_take_30 rfl (lv_at hl 1 rfl) ?_
  refine gf19_448 F hx1 hr dX19_take_31 ?_
  refine lv_iload F.1 F.2.1 dX19_take_34 (lv_at hl 4 rfl) ?_
  refine lv_iload_n F.1 F.2.1 dX19_take_36 rfl (lv_at hl 2 rfl) ?_
  replace h := zk_some h
  obtain ⟨c1, h⟩ := h
  refine zr_iast (k := 150) (by decide) rfl (by decide) F (zal_a F hx1 (j := 14) rfl) hr dX19_take_37 c1 (fun H locs z2 ez2 hr => ?_)
  replace h := zl_sub ez2 h
  clear ez2
  refine lv_aload_n F.1 F.2.1 dX19_take_38 rfl (lv_at hl 1 rfl) ?_
  refine gf19_515 F hx1 hr dX19_take_39 ?_
  refine lv_iload F.1 F.2.1 dX19_take_42 (lv_at hl 4 rfl) ?_
  refine lv_aload_n F.1 F.2.1 dX19_take_44 rfl (lv_at hl 0 rfl) ?_
  refine gf19_143 F hx0 hr dX19_take_45 ?_
  replace h := zk_some h
  obtain ⟨c3, h⟩ := h
  refine zr_iast (k := 151) (by decide) rfl (by decide) F (zal_a F hx1 (j := 15) rfl) hr dX19_take_48 c3 (fun H locs z4 ez4 hr => ?_)
  replace h := zl_sub ez4 h
  clear ez4
  refine lv_aload_n F.1 F.2.1 dX19_take_49 rfl (lv_at hl 1 rfl) ?_
  refine lv_iconst (v := (1 : Int32)) F.1 F.2.1 dX19_take_50 (by decide) ?_
  refine pf19_489 F hx1 hr dX19_take_51 (1 : Int32) (by decide) (fun H locs z5 ez5 hr => ?_)
  replace h := zl_sub ez5 h
  clear ez5
  refine lv_iconst (v := (0 : Int32)) F.1 F.2.1 dX19_take_54 (by decide) ?_
  refine lv_istore (lv' := [(5, .int (0 : Int32)), (0, .ref (B 19 x0)), (1, .ref (B 12 x1)), (2, .int x2), (3, va_rf (Option.map (B 15) x3)), (4, .int x4)]) F.1 F.2.1 dX19_take_55 hl (by decide) rfl (fun ls hl => ?_)
  exact lX19_take_57 hst F hA E  _ x0 x1 x3 x4 (0 : Int32) hx0 hx1 hx3 hr (lv_sub hl [1, 2, 4, 5, 0] rfl) h
def fX19_take (N : Nat)  (x0 : Nat) (x1 : Nat) (x2 : Int32) (x3 : Option Nat) (z : St) : Option (Int32 × St) := zc (fX19_ad N x0 x2 (0 : Int32) z) fun r1 z2 => zk r1 16 <| if (zgA z2 150 x1 (Int32.toNatClampNeg r1)) = (-1 : Int32) then (fX19_take_30 N x0 x1 x2 x3 r1 z2) else (zk r1 16 <| zc (fX19_dropAdvert N x0 (zgA z2 150 x1 (Int32.toNatClampNeg r1)) z2) fun _ z9 => fX19_take_30 N x0 x1 x2 x3 r1 z9)
set_option maxHeartbeats 4000000 in
set_option maxRecDepth 100000 in
theorem bX19_take_0 (hst : zSt B ids) (F : zFx p m c cX19_take 7 s args RX19 D cy B ids A) (hA : ∀ q : Nat, s.heap.size ≤ q → A q) {r : Int32} {z' : St} (E : zEnd p l e rmX19_take s m args below meth c cX19_take D cy B ids A Q none z' .return_ True) {N : Nat}  (x0 : Nat) (x1 : Nat) (x2 : Int32) (x3 : Option Nat) (hx0 : (19, x0) ∈ ids) (hx1 : (12, x1) ∈ ids) (hx3 : ∀ t, x3 = some t → (15, t) ∈ ids) {z : St} {H : Heap} {locs : List Loc} {ls : Array Slot} (hr : zRep D cy B ids A s.heap z H locs) (hl : lv_has ls 7 [(0, .ref (B 19 x0)), (1, .ref (B 12 x1)), (2, .int x2), (3, va_rf (Option.map (B 15) x3))]) (h : fX19_take N x0 x1 x2 x3 z = some (r, z')) : W p l e rmX19_take s m args below meth c H locs 0 0 Q (F0 m 0 ls []) := by
  unfold fX19_take at h
  refine lv_aload_n F.1 F.2.1 dX19_take_0 rfl (lv_at hl 0 rfl) ?_
  refine lv_iload_n F.1 F.2.1 dX19_take_1 rfl (lv_at hl 2 rfl) ?_
  refine lv_iconst (v := (0 : Int32)) F.1 F.2.1 dX19_take_2 (by decide) ?_
  replace h := zc_some h
  obtain ⟨r1, z2, hc3, h⟩ := h
  refine zr_calli (zrun_V (As := [.int x2, .int (0 : Int32)]) (rest := []) zq_2828 zq_2830 zs_X19_ad zq_2831 zq_4 hdX19_ad (by decide) (T := TX19) (N := 32) rfl (okX19_ad l D cy B ids hst N x0 hx0 x2  (0 : Int32)  hr.2.2 hc3) F hr hx0 hl.1 rfl (by decide) dX19_take_3 rfl rfl hroX19_take_X19_ad ⟨Nat.zero_le _, Nat.zero_le _⟩) F hA hr (fun H locs hw4 hr => ?_)
  clear hc3
  refine lv_istore (lv' := [(4, .int r1), (0, .ref (B 19 x0)), (1, .ref (B 12 x1)), (2, .int x2), (3, va_rf (Option.map (B 15) x3))]) F.1 F.2.1 dX19_take_6 hl (by decide) (by simp only [List.filter, zrf_cat]; rfl) (fun ls hl => ?_)
  refine lv_aload_n F.1 F.2.1 dX19_take_8 rfl (lv_at hl 2 rfl) ?_
  refine gf19_448 F hx1 hr dX19_take_9 ?_
  refine lv_iload F.1 F.2.1 dX19_take_12 (lv_at hl 0 rfl) ?_
  replace h := zk_some h
  obtain ⟨c5, h⟩ := h
  refine zr_iald (k := 150) (by decide) rfl (by decide) F (zal_a F hx1 (j := 14) rfl) hr dX19_take_14 c5 ?_
  refine lv_iconst (v := (-1 : Int32)) F.1 F.2.1 dX19_take_15 (by decide) ?_
  refine lv_icmp_eq (tgt := 30) F.1 F.2.1 dX19_take_16 (by decide) (fun c6 => ?_) (fun c6 => ?_)
  · replace h := zi_t c6 h
    exact bX19_take_30 hst F hA E  x0 x1 x2 x3 r1 hx0 hx1 hx3 hr (lv_sub hl [1, 2, 3, 4, 0] rfl) h
  · replace h := zi_f c6 h
    refine lv_aload_n F.1 F.2.1 dX19_take_19 rfl (lv_at hl 1 rfl) ?_
    refine lv_aload_n F.1 F.2.1 dX19_take_20 rfl (lv_at hl 2 rfl) ?_
    refine gf19_448 F hx1 hr dX19_take_21 ?_
    refine lv_iload F.1 F.2.1 dX19_take_24 (lv_at hl 0 rfl) ?_
    replace h := zk_some h
    obtain ⟨c7, h⟩ := h
    refine zr_iald (k := 150) (by decide) rfl (by decide) F (zal_a F hx1 (j := 14) rfl) hr dX19_take_26 c7 ?_
    replace h := zc_some h
    obtain ⟨r8, z9, hc10, h⟩ := h
    refine zr_callv (zrun_V (As := [.int (zgA z2 150 x1 (Int32.toNatClampNeg r1))]) (rest := []) zq_2565 zq_2567 zs_X19_dropAdvert zq_2568 zq_4 hdX19_dropAdvert (by decide) (T := TX19) (N := 32) rfl (okX19_dropAdvert l D cy B ids hst N x0 hx0 (zgA z2 150 x1 (Int32.toNatClampNeg r1))  hr.2.2 hc10) F hr hx0 hl.1 rfl (by decide) dX19_take_27 rfl rfl hroX19_take_X19_dropAdvert ⟨Nat.zero_le _, Nat.zero_le _⟩) F hA hr (fun H locs hw11 hr => ?_)
    clear hc10
    exact bX19_take_30 hst F hA E  x0 x1 x2 x3 r1 hx0 hx1 hx3 hr (lv_sub hl [1, 2, 3, 4, 0] rfl) h
end SX19_take
set_option maxRecDepth 100000 in
theorem okX19_take (l : Launch) (D : va_G) (cy : Nat → ClassId) (B : Nat → Nat → Nat) (ids : List (Nat × Nat)) (hst : zSt B ids) (N : Nat) (x0 : Nat) (hx0 : (19, x0) ∈ ids) (x1 : Nat) (hx1 : (12, x1) ∈ ids) (x2 : Int32) (x3 : Option Nat) (hx3 : ∀ t, x3 = some t → (15, t) ∈ ids) {z : St} {r : Int32} {z' : St} (hW : zWf ids z) (h : fX19_take N x0 x1 x2 x3 z = some (r, z')) : zM l yX19_take (zws yX19_take cX19_take 7 none) rmX19_take D cy B ids [.ref (B 19 x0), .ref (B 12 x1), .int x2, va_rf (Option.map (B 15) x3)] none True z z' :=
  zM_of hst hW (by decide +kernel) (by simp only [lg_sl, List.flatMap_cons, List.flatMap_nil, zrf_cat]; exact Nat.le_of_ble_eq_true rfl) (fun p e s m args below meth c A ls F hA hret hlocks hr hl => bX19_take_0 hst F hA (zEnd_v F hret hlocks) x0 x1 x2 x3 hx0 hx1 hx3 hr hl h)
abbrev rmX19_advertCame : Room := { frames := 2, cells := 0, slots := 0, locals := 48 }
theorem hdX19_advertCame : yX19_advertCame.cls ≠ "java/lang/invoke/MethodHandle" ∧ yX19_advertCame.cls ≠ "java/lang/invoke/VarHandle" ∧ (parseMethodDescriptor yX19_advertCame.desc).map (fun d => d.parameters.length) = some 2 := by decide +kernel
theorem hroX19_advertCame_X19_ad : rmX19_ad.frames + 1 ≤ rmX19_advertCame.frames ∧ 8 + (3 + 11) + rmX19_ad.locals ≤ rmX19_advertCame.locals := by decide
theorem hroX19_advertCame_X19_friend : rmX19_friend.frames + 1 ≤ rmX19_advertCame.frames ∧ 8 + (4 + 11) + rmX19_friend.locals ≤ rmX19_advertCame.locals := by decide
theorem hroX19_advertCame_X19_isDue : rmX19_isDue.frames + 1 ≤ rmX19_advertCame.frames ∧ 8 + (3 + 11) + rmX19_isDue.locals ≤ rmX19_advertCame.locals := by decide
theorem hroX19_advertCame_X19_of : rmX19_of.frames + 1 ≤ rmX19_advertCame.frames ∧ 8 + (3 + 11) + rmX19_of.locals ≤ rmX19_advertCame.locals := by decide
theorem hroX19_advertCame_X19_stir : rmX19_stir.frames + 1 ≤ rmX19_advertCame.frames ∧ 8 + (1 + 11) + rmX19_stir.locals ≤ rmX19_advertCame.locals := by decide
theorem hroX19_advertCame_X19_take : rmX19_take.frames + 1 ≤ rmX19_advertCame.frames ∧ 8 + (7 + 11) + rmX19_take.locals ≤ rmX19_advertCame.locals := by decide
section SX19_advertCame
variable {p : Program} {l : Launch} {e : Env} {s : State} {m : MethodId} {args : Array Value} {below : List Frame} {meth : Method} {c : Code} {Q : State → Prop} {D : va_G} {cy : Nat → ClassId} {B : Nat → Nat → Nat} {ids : List (Nat × Nat)} {A : Nat → Prop}
def fX19_advertCame_217 (N : Nat)  (x1 : Nat) (x5 : Int32) (x6 : Int32) (z : St) : Option (Int32 × St) := if ¬ x5 = (zgI z 12 0 x1) then (some (0, z)) else (if x6 ≤ (zgI z 12 17 x1) then (some (0, z)) else (zl (zsI z 12 17 x1 x6) fun z3 => some (0, z3)))
set_option maxHeartbeats 4000000 in
set_option maxRecDepth 100000 in
theorem bX19_advertCame_217 (hst : zSt B ids) (F : zFx p m c cX19_advertCame 8 s args RX19 D cy B ids A) (hA : ∀ q : Nat, s.heap.size ≤ q → A q) {r : Int32} {z' : St} (E : zEnd p l e rmX19_advertCame s m args below meth c cX19_advertCame D cy B ids A Q none z' .return_ True) {N : Nat}  (x1 : Nat) (x5 : Int32) (x6 : Int32) (hx1 : (12, x1) ∈ ids) {z : St} {H : Heap} {locs : List Loc} {ls : Array Slot} (hr : zRep D cy B ids A s.heap z H locs) (hl : lv_has ls 8 [(1, .ref (B 12 x1)), (5, .int x5), (6, .int x6)]) (h : fX19_advertCame_217 N x1 x5 x6 z = some (r, z')) : W p l e rmX19_advertCame s m args below meth c H locs 0 0 Q (F0 m 217 ls []) := by
  unfold fX19_advertCame_217 at h
  refine lv_iload F.1 F.2.1 dX19_advertCame_217 (lv_at hl 1 rfl) ?_
  refine lv_aload_n F.1 F.2.1 dX19_advertCame_219 rfl (lv_at hl 0 rfl) ?_
  refine gf19_310 F hx1 hr dX19_advertCame_220 ?_
  refine lv_icmp_ne (tgt := 241) F.1 F.2.1 dX19_advertCame_223 (by decide) (fun c1 => ?_) (fun c1 => ?_)
  · replace h := zi_t c1 h
    obtain ⟨rfl, rfl⟩ := zret h
    exact E _ _ _ _ dX19_advertCame_241 trivial hr
  · replace h := zi_f (fun q => q c1) h
    refine lv_iload F.1 F.2.1 dX19_advertCame_226 (lv_at hl 2 rfl) ?_
    refine lv_aload_n F.1 F.2.1 dX19_advertCame_228 rfl (lv_at hl 0 rfl) ?_
    refine gf19_512 F hx1 hr dX19_advertCame_229 ?_
    refine lv_icmp_le (tgt := 241) F.1 F.2.1 dX19_advertCame_232 (by decide) (fun c2 => ?_) (fun c2 => ?_)
    · replace h := zi_t c2 h
      obtain ⟨rfl, rfl⟩ := zret h
      exact E _ _ _ _ dX19_advertCame_241 trivial hr
    · replace h := zi_f c2 h
      refine lv_aload_n F.1 F.2.1 dX19_advertCame_235 rfl (lv_at hl 0 rfl) ?_
      refine lv_iload F.1 F.2.1 dX19_advertCame_236 (lv_at hl 2 rfl) ?_
      refine pf19_512 F hx1 hr dX19_advertCame_238 x6 (fun H locs z3 ez3 hr => ?_)
      replace h := zl_sub ez3 h
      clear ez3
      obtain ⟨rfl, rfl⟩ := zret h
      exact E _ _ _ _ dX19_advertCame_241 trivial hr
def fX19_advertCame_179 (N : Nat)  (x0 : Nat) (x1 : Nat) (x3 : Nat) (x4 : Int32) (x5 : Int32) (x6 : Int32) (x7 : Int32) (z : St) : Option (Int32 × St) := if x6 ≤ x7 then (fX19_advertCame_217 N x1 x5 x6 z) else (if x5 = (zgI z 12 0 x1) then (fX19_advertCame_217 N x1 x5 x6 z) else (zk x4 2400 <| zk x4 2400 <| zl (zsA z 179 x0 (Int32.toNatClampNeg x4) ((zgA z 179 x0 (Int32.toNatClampNeg x4)) + (1 : Int32))) fun z5 => zc (fX19_take N x0 x1 x4 (some x3) z5) fun _ z7 => some (0, z7)))
set_option maxHeartbeats 4000000 in
set_option maxRecDepth 100000 in
theorem bX19_advertCame_179 (hst : zSt B ids) (F : zFx p m c cX19_advertCame 8 s args RX19 D cy B ids A) (hA : ∀ q : Nat, s.heap.size ≤ q → A q) {r : Int32} {z' : St} (E : zEnd p l e rmX19_advertCame s m args below meth c cX19_advertCame D cy B ids A Q none z' .return_ True) {N : Nat}  (x0 : Nat) (x1 : Nat) (x3 : Nat) (x4 : Int32) (x5 : Int32) (x6 : Int32) (x7 : Int32) (hx0 : (19, x0) ∈ ids) (hx1 : (12, x1) ∈ ids) (hx3 : (15, x3) ∈ ids) {z : St} {H : Heap} {locs : List Loc} {ls : Array Slot} (hr : zRep D cy B ids A s.heap z H locs) (hl : lv_has ls 8 [(0, .ref (B 19 x0)), (1, .ref (B 12 x1)), (3, .ref (B 15 x3)), (4, .int x4), (5, .int x5), (6, .int x6), (7, .int x7)]) (h : fX19_advertCame_179 N x0 x1 x3 x4 x5 x6 x7 z = some (r, z')) : W p l e rmX19_advertCame s m args below meth c H locs 0 0 Q (F0 m 179 ls []) := by
  unfold fX19_advertCame_179 at h
  refine lv_iload F.1 F.2.1 dX19_advertCame_179 (lv_at hl 5 rfl) ?_
  refine lv_iload F.1 F.2.1 dX19_advertCame_181 (lv_at hl 6 rfl) ?_
  refine lv_icmp_le (tgt := 217) F.1 F.2.1 dX19_advertCame_183 (by decide) (fun c1 => ?_) (fun c1 => ?_)
  · replace h := zi_t c1 h
    exact bX19_advertCame_217 hst F hA E  x1 x5 x6 hx1 hr (lv_sub hl [1, 4, 5] rfl) h
  · replace h := zi_f c1 h
    refine lv_iload F.1 F.2.1 dX19_advertCame_186 (lv_at hl 4 rfl) ?_
    refine lv_aload_n F.1 F.2.1 dX19_advertCame_188 rfl (lv_at hl 1 rfl) ?_
    refine gf19_310 F hx1 hr dX19_advertCame_189 ?_
    refine lv_icmp_eq (tgt := 217) F.1 F.2.1 dX19_advertCame_192 (by decide) (fun c2 => ?_) (fun c2 => ?_)
    · replace h := zi_t c2 h
      exact bX19_advertCame_217 hst F hA E  x1 x5 x6 hx1 hr (lv_sub hl [1, 4, 5] rfl) h
    · replace h := zi_f c2 h
      refine lv_aload_n F.1 F.2.1 dX19_advertCame_195 rfl (lv_at hl 0 rfl) ?_
      refine gf19_25 F hx0 hr dX19_advertCame_196 ?_
      refine lv_iload F.1 F.2.1 dX19_advertCame_199 (lv_at hl 3 rfl) ?_
      refine lv_dup2_11 F.1 F.2.1 dX19_advertCame_201 rfl rfl ?_
      replace h := zk_some h
      obtain ⟨c3, h⟩ := h
      refine zr_iald (k := 179) (by decide) rfl (by decide) F (zal_a F hx0 (j := 9) rfl) hr dX19_advertCame_202 c3 ?_
      refine lv_iconst (v := (1 : Int32)) F.1 F.2.1 dX19_advertCame_203 (by decide) ?_
      refine lv_iadd F.1 F.2.1 dX19_advertCame_204 ?_
      replace h := zk_some h
      obtain ⟨c4, h⟩ := h
      refine zr_iast (k := 179) (by decide) rfl (by decide) F (zal_a F hx0 (j := 9) rfl) hr dX19_advertCame_205 c4 (fun H locs z5 ez5 hr => ?_)
      replace h := zl_sub ez5 h
      clear ez5
      refine lv_aload_n F.1 F.2.1 dX19_advertCame_206 rfl (lv_at hl 0 rfl) ?_
      refine lv_aload_n F.1 F.2.1 dX19_advertCame_207 rfl (lv_at hl 1 rfl) ?_
      refine lv_iload F.1 F.2.1 dX19_advertCame_208 (lv_at hl 3 rfl) ?_
      refine lv_aload_n F.1 F.2.1 dX19_advertCame_210 rfl (lv_at hl 2 rfl) ?_
      replace h := zc_some h
      obtain ⟨r6, z7, hc8, h⟩ := h
      refine zr_callv (zrun_V (As := [.ref (B 12 x1), .int x4, va_rf (Option.map (B 15) (some x3))]) (rest := []) zq_2836 zq_2838 zs_X19_take zq_2839 zq_4 hdX19_take (by decide) (T := TX19) (N := 32) rfl (okX19_take l D cy B ids hst N x0 hx0 x1 hx1 x4  (some x3) (zal_s hx3) hr.2.2 hc8) F hr hx0 hl.1 rfl (by decide) dX19_advertCame_211 rfl rfl hroX19_advertCame_X19_take ⟨Nat.zero_le _, Nat.zero_le _⟩) F hA hr (fun H locs hw9 hr => ?_)
      clear hc8
      refine lv_goto (tgt := 241) F.1 F.2.1 dX19_advertCame_214 (by decide) ?_
      obtain ⟨rfl, rfl⟩ := zret h
      exact E _ _ _ _ dX19_advertCame_241 trivial hr
def fX19_advertCame_152 (N : Nat)  (x0 : Nat) (x1 : Nat) (x3 : Nat) (x4 : Int32) (x5 : Int32) (x6 : Int32) (s0 : Int32) (z : St) : Option (Int32 × St) := if x6 < s0 then (zc (fX19_isDue N x0 x3 x5 z) fun _ z3 => fX19_advertCame_179 N x0 x1 x3 x4 x5 x6 s0 z3) else (zk x5 16 <| zl (zsA z 162 x3 (Int32.toNatClampNeg x5) (vp_nar .boolean (0 : Int32))) fun z7 => fX19_advertCame_179 N x0 x1 x3 x4 x5 x6 s0 z7)
set_option maxHeartbeats 4000000 in
set_option maxRecDepth 100000 in
theorem bX19_advertCame_152 (hst : zSt B ids) (F : zFx p m c cX19_advertCame 8 s args RX19 D cy B ids A) (hA : ∀ q : Nat, s.heap.size ≤ q → A q) {r : Int32} {z' : St} (E : zEnd p l e rmX19_advertCame s m args below meth c cX19_advertCame D cy B ids A Q none z' .return_ True) {N : Nat}  (x0 : Nat) (x1 : Nat) (x3 : Nat) (x4 : Int32) (x5 : Int32) (x6 : Int32) (s0 : Int32) (hx0 : (19, x0) ∈ ids) (hx1 : (12, x1) ∈ ids) (hx3 : (15, x3) ∈ ids) {z : St} {H : Heap} {locs : List Loc} {ls : Array Slot} (hr : zRep D cy B ids A s.heap z H locs) (hl : lv_has ls 8 [(0, .ref (B 19 x0)), (1, .ref (B 12 x1)), (3, .ref (B 15 x3)), (4, .int x4), (5, .int x5), (6, .int x6)]) (h : fX19_advertCame_152 N x0 x1 x3 x4 x5 x6 s0 z = some (r, z')) : W p l e rmX19_advertCame s m args below meth c H locs 0 0 Q (F0 m 152 ls [.int s0]) := by
  unfold fX19_advertCame_152 at h
  refine lv_istore (lv' := [(7, .int s0), (0, .ref (B 19 x0)), (1, .ref (B 12 x1)), (3, .ref (B 15 x3)), (4, .int x4), (5, .int x5), (6, .int x6)]) F.1 F.2.1 dX19_advertCame_152 hl (by decide) rfl (fun ls hl => ?_)
  refine lv_iload F.1 F.2.1 dX19_advertCame_154 (lv_at hl 6 rfl) ?_
  refine lv_iload F.1 F.2.1 dX19_advertCame_156 (lv_at hl 0 rfl) ?_
  refine lv_icmp_lt (tgt := 172) F.1 F.2.1 dX19_advertCame_158 (by decide) (fun c1 => ?_) (fun c1 => ?_)
  · replace h := zi_t c1 h
    refine lv_aload_n F.1 F.2.1 dX19_advertCame_172 rfl (lv_at hl 1 rfl) ?_
    refine lv_aload_n F.1 F.2.1 dX19_advertCame_173 rfl (lv_at hl 3 rfl) ?_
    refine lv_iload F.1 F.2.1 dX19_advertCame_174 (lv_at hl 5 rfl) ?_
    replace h := zc_some h
    obtain ⟨r2, z3, hc4, h⟩ := h
    refine zr_callv (zrun_V (As := [.ref (B 15 x3), .int x5]) (rest := []) zq_2832 zq_2834 zs_X19_isDue zq_2835 zq_4 hdX19_isDue (by decide) (T := TX19) (N := 32) rfl (okX19_isDue l D cy B ids hst N x0 hx0 x3 hx3 x5  hr.2.2 hc4) F hr hx0 hl.1 rfl (by decide) dX19_advertCame_176 rfl rfl hroX19_advertCame_X19_isDue ⟨Nat.zero_le _, Nat.zero_le _⟩) F hA hr (fun H locs hw5 hr => ?_)
    clear hc4
    exact bX19_advertCame_179 hst F hA E  x0 x1 x3 x4 x5 x6 s0 hx0 hx1 hx3 hr (lv_sub hl [1, 2, 3, 4, 5, 6, 0] rfl) h
  · replace h := zi_f c1 h
    refine lv_aload_n F.1 F.2.1 dX19_advertCame_161 rfl (lv_at hl 3 rfl) ?_
    refine gf19_452 F hx3 hr dX19_advertCame_162 ?_
    refine lv_iload F.1 F.2.1 dX19_advertCame_165 (lv_at hl 5 rfl) ?_
    refine lv_iconst (v := (0 : Int32)) F.1 F.2.1 dX19_advertCame_167 (by decide) ?_
    replace h := zk_some h
    obtain ⟨c6, h⟩ := h
    refine zr_zast (k := 162) (by decide) rfl (by decide) F (zal_a F hx3 (j := 4) rfl) hr dX19_advertCame_168 c6 (fun H locs z7 ez7 hr => ?_)
    replace h := zl_sub ez7 h
    clear ez7
    refine lv_goto (tgt := 179) F.1 F.2.1 dX19_advertCame_169 (by decide) ?_
    exact bX19_advertCame_179 hst F hA E  x0 x1 x3 x4 x5 x6 s0 hx0 hx1 hx3 hr (lv_sub hl [1, 2, 3, 4, 5, 6, 0] rfl) h
def fX19_advertCame_125 (N : Nat)  (x0 : Nat) (x1 : Nat) (x3 : Nat) (x4 : Int32) (x5 : Int32) (x6 : Int32) (z : St) : Option (Int32 × St) := zk x5 16 <| if ¬ (zgA z 150 x1 (Int32.toNatClampNeg x5)) = (-1 : Int32) then (zk x5 16 <| zc (fX19_ad N x0 (zgA z 150 x1 (Int32.toNatClampNeg x5)) (1 : Int32) z) fun r4 z5 => fX19_advertCame_152 N x0 x1 x3 x4 x5 x6 r4 z5) else (fX19_advertCame_152 N x0 x1 x3 x4 x5 x6 (0 : Int32) z)
set_option maxHeartbeats 4000000 in
set_option maxRecDepth 100000 in
theorem bX19_advertCame_125 (hst : zSt B ids) (F : zFx p m c cX19_advertCame 8 s args RX19 D cy B ids A) (hA : ∀ q : Nat, s.heap.size ≤ q → A q) {r : Int32} {z' : St} (E : zEnd p l e rmX19_advertCame s m args below meth c cX19_advertCame D cy B ids A Q none z' .return_ True) {N : Nat}  (x0 : Nat) (x1 : Nat) (x3 : Nat) (x4 : Int32) (x5 : Int32) (x6 : Int32) (hx0 : (19, x0) ∈ ids) (hx1 : (12, x1) ∈ ids) (hx3 : (15, x3) ∈ ids) {z : St} {H : Heap} {locs : List Loc} {ls : Array Slot} (hr : zRep D cy B ids A s.heap z H locs) (hl : lv_has ls 8 [(0, .ref (B 19 x0)), (1, .ref (B 12 x1)), (3, .ref (B 15 x3)), (4, .int x4), (5, .int x5), (6, .int x6)]) (h : fX19_advertCame_125 N x0 x1 x3 x4 x5 x6 z = some (r, z')) : W p l e rmX19_advertCame s m args below meth c H locs 0 0 Q (F0 m 125 ls []) := by
  unfold fX19_advertCame_125 at h
  refine lv_aload_n F.1 F.2.1 dX19_advertCame_125 rfl (lv_at hl 1 rfl) ?_
  refine gf19_448 F hx1 hr dX19_advertCame_126 ?_
  refine lv_iload F.1 F.2.1 dX19_advertCame_129 (lv_at hl 4 rfl) ?_
  replace h := zk_some h
  obtain ⟨c1, h⟩ := h
  refine zr_iald (k := 150) (by decide) rfl (by decide) F (zal_a F hx1 (j := 14) rfl) hr dX19_advertCame_131 c1 ?_
  refine lv_iconst (v := (-1 : Int32)) F.1 F.2.1 dX19_advertCame_132 (by decide) ?_
  refine lv_icmp_ne (tgt := 140) F.1 F.2.1 dX19_advertCame_133 (by decide) (fun c2 => ?_) (fun c2 => ?_)
  · replace h := zi_t c2 h
    refine lv_aload_n F.1 F.2.1 dX19_advertCame_140 rfl (lv_at hl 0 rfl) ?_
    refine lv_aload_n F.1 F.2.1 dX19_advertCame_141 rfl (lv_at hl 1 rfl) ?_
    refine gf19_448 F hx1 hr dX19_advertCame_142 ?_
    refine lv_iload F.1 F.2.1 dX19_advertCame_145 (lv_at hl 4 rfl) ?_
    replace h := zk_some h
    obtain ⟨c3, h⟩ := h
    refine zr_iald (k := 150) (by decide) rfl (by decide) F (zal_a F hx1 (j := 14) rfl) hr dX19_advertCame_147 c3 ?_
    refine lv_iconst (v := (1 : Int32)) F.1 F.2.1 dX19_advertCame_148 (by decide) ?_
    replace h := zc_some h
    obtain ⟨r4, z5, hc6, h⟩ := h
    refine zr_calli (zrun_V (As := [.int (zgA z 150 x1 (Int32.toNatClampNeg x5)), .int (1 : Int32)]) (rest := []) zq_2828 zq_2830 zs_X19_ad zq_2831 zq_4 hdX19_ad (by decide) (T := TX19) (N := 32) rfl (okX19_ad l D cy B ids hst N x0 hx0 (zgA z 150 x1 (Int32.toNatClampNeg x5))  (1 : Int32)  hr.2.2 hc6) F hr hx0 hl.1 rfl (by decide) dX19_advertCame_149 rfl rfl hroX19_advertCame_X19_ad ⟨Nat.zero_le _, Nat.zero_le _⟩) F hA hr (fun H locs hw7 hr => ?_)
    clear hc6
    exact bX19_advertCame_152 hst F hA E  x0 x1 x3 x4 x5 x6 r4 hx0 hx1 hx3 hr (lv_sub hl [0, 1, 2, 3, 4, 5] rfl) h
  · replace h := zi_f (fun q => q c2) h
    refine lv_iconst (v := (0 : Int32)) F.1 F.2.1 dX19_advertCame_136 (by decide) ?_
    refine lv_goto (tgt := 152) F.1 F.2.1 dX19_advertCame_137 (by decide) ?_
    exact bX19_advertCame_152 hst F hA E  x0 x1 x3 x4 x5 x6 (0 : Int32) hx0 hx1 hx3 hr (lv_sub hl [0, 1, 2, 3, 4, 5] rfl) h
def fX19_advertCame (N : Nat)  (x0 : Nat) (x1 : Nat) (x2 : Int32) (z : St) : Option (Int32 × St) := zc (fX19_of N x0 x2 (9 : Int32) z) fun r1 z2 => zc (fX19_of N x0 x2 (12 : Int32) z2) fun r5 z6 => zc (fX19_friend N x1 r1 r5 z6) fun r9 z10 => zo r9 (some (0, z10)) fun a14 => zc (fX19_of N x0 x2 (11 : Int32) z10) fun r15 z16 => zc (fX19_ad N x0 r15 (0 : Int32) z16) fun r19 z20 => zc (fX19_ad N x0 r15 (1 : Int32) z20) fun r23 z24 => if (64 : Int32) ≤ (zgI z24 12 22 x1) then (zc (fX19_stir N x0 z24) fun _ z29 => fX19_advertCame_125 N x0 x1 a14 r15 r19 r23 z29) else (zc (fX19_of N x0 x2 (9 : Int32) z24) fun r32 z33 => zk (zgI z24 12 22 x1) 64 <| zl (zsA z33 152 x1 (Int32.toNatClampNeg (zgI z24 12 22 x1)) r32) fun z37 => zc (fX19_of N x0 x2 (0 : Int32) z37) fun r38 z39 => zk (zgI z37 12 22 x1) 64 <| zl (zsA z39 153 x1 (Int32.toNatClampNeg (zgI z37 12 22 x1)) r38) fun z43 => zk (zgI z43 12 22 x1) 64 <| zl (zsA z43 154 x1 (Int32.toNatClampNeg (zgI z43 12 22 x1)) ((r19 <<< ((24 : Int32) &&& 31)) ||| r23)) fun z45 => zl (zsI z45 12 22 x1 ((zgI z45 12 22 x1) + (1 : Int32))) fun z46 => fX19_advertCame_125 N x0 x1 a14 r15 r19 r23 z46)
set_option maxHeartbeats 4000000 in
set_option maxRecDepth 100000 in
theorem bX19_advertCame_0 (hst : zSt B ids) (F : zFx p m c cX19_advertCame 8 s args RX19 D cy B ids A) (hA : ∀ q : Nat, s.heap.size ≤ q → A q) {r : Int32} {z' : St} (E : zEnd p l e rmX19_advertCame s m args below meth c cX19_advertCame D cy B ids A Q none z' .return_ True) {N : Nat}  (x0 : Nat) (x1 : Nat) (x2 : Int32) (hx0 : (19, x0) ∈ ids) (hx1 : (12, x1) ∈ ids) {z : St} {H : Heap} {locs : List Loc} {ls : Array Slot} (hr : zRep D cy B ids A s.heap z H locs) (hl : lv_has ls 8 [(0, .ref (B 19 x0)), (1, .ref (B 12 x1)), (2, .int x2)]) (h : fX19_advertCame N x0 x1 x2 z = some (r, z')) : W p l e rmX19_advertCame s m args below meth c H locs 0 0 Q (F0 m 0 ls []) := by
  unfold fX19_advertCame at h
  refine lv_aload_n F.1 F.2.1 dX19_advertCame_0 rfl (lv_at hl 1 rfl) ?_
  refine lv_aload_n F.1 F.2.1 dX19_advertCame_1 rfl (lv_at hl 0 rfl) ?_
  refine lv_iload_n F.1 F.2.1 dX19_advertCame_2 rfl (lv_at hl 2 rfl) ?_
  refine lv_bipush (v := (9 : Int32)) F.1 F.2.1 dX19_advertCame_3 (by decide) ?_
  replace h := zc_some h
  obtain ⟨r1, z2, hc3, h⟩ := h
  refine zr_calli (zrun_V (As := [.int x2, .int (9 : Int32)]) (rest := [.ref (B 12 x1)]) zq_2549 zq_2551 zs_X19_of zq_2552 zq_4 hdX19_of (by decide) (T := TX19) (N := 32) rfl (okX19_of l D cy B ids hst N x0 hx0 x2  (9 : Int32)  hr.2.2 hc3) F hr hx0 hl.1 rfl (Nat.le_of_ble_eq_true rfl) dX19_advertCame_5 rfl rfl hroX19_advertCame_X19_of ⟨Nat.zero_le _, Nat.zero_le _⟩) F hA hr (fun H locs hw4 hr => ?_)
  clear hc3
  refine lv_aload_n F.1 F.2.1 dX19_advertCame_8 rfl (lv_at hl 0 rfl) ?_
  refine lv_iload_n F.1 F.2.1 dX19_advertCame_9 rfl (lv_at hl 2 rfl) ?_
  refine lv_bipush (v := (12 : Int32)) F.1 F.2.1 dX19_advertCame_10 (by decide) ?_
  replace h := zc_some h
  obtain ⟨r5, z6, hc7, h⟩ := h
  refine zr_calli (zrun_V (As := [.int x2, .int (12 : Int32)]) (rest := [.int r1, .ref (B 12 x1)]) zq_2549 zq_2551 zs_X19_of zq_2552 zq_4 hdX19_of (by decide) (T := TX19) (N := 32) rfl (okX19_of l D cy B ids hst N x0 hx0 x2  (12 : Int32)  hr.2.2 hc7) F hr hx0 hl.1 rfl (Nat.le_of_ble_eq_true rfl) dX19_advertCame_12 rfl rfl hroX19_advertCame_X19_of ⟨Nat.zero_le _, Nat.zero_le _⟩) F hA hr (fun H locs hw8 hr => ?_)
  clear hc7
  replace h := zc_some h
  obtain ⟨r9, z10, hc11, h⟩ := h
  refine zr_callr (zrun_S (As := [.ref (B 12 x1), .int r1, .int r5]) (rest := []) zq_2825 zq_2826 zq_2827 zq_4 hdX19_friend (okX19_friend l D cy B ids hst N x1 hx1 r1  r5  hr.2.2 hc11) F hr hl.1 rfl (by decide) dX19_advertCame_15 rfl rfl hroX19_advertCame_X19_friend ⟨Nat.zero_le _, Nat.zero_le _⟩) F hA hr (fun H locs hw12 hr => ?_)
  clear hc11
  refine zr_astore_n (lv' := [(3, va_rf (Option.map (B 15) r9)), (0, .ref (B 19 x0)), (1, .ref (B 12 x1)), (2, .int x2)]) F.1 F.2.1 dX19_advertCame_18 rfl hl (by decide) rfl (fun ls hl => ?_)
  refine zr_aload_n F.1 F.2.1 dX19_advertCame_19 rfl (lv_at hl 0 rfl) ?_
  refine zr_ifnonnull (tgt := 24) F.1 F.2.1 dX19_advertCame_20 (by decide) (fun e13 => ?_) (fun a14 e13 => ?_)
  · replace h := zo_n e13 h
    subst e13
    obtain ⟨rfl, rfl⟩ := zret h
    exact E _ _ _ _ dX19_advertCame_23 trivial hr
  · replace h := zo_s e13 h
    subst e13
    refine lv_aload_n F.1 F.2.1 dX19_advertCame_24 rfl (lv_at hl 1 rfl) ?_
    refine lv_iload_n F.1 F.2.1 dX19_advertCame_25 rfl (lv_at hl 3 rfl) ?_
    refine lv_bipush (v := (11 : Int32)) F.1 F.2.1 dX19_advertCame_26 (by decide) ?_
    replace h := zc_some h
    obtain ⟨r15, z16, hc17, h⟩ := h
    refine zr_calli (zrun_V (As := [.int x2, .int (11 : Int32)]) (rest := []) zq_2549 zq_2551 zs_X19_of zq_2552 zq_4 hdX19_of (by decide) (T := TX19) (N := 32) rfl (okX19_of l D cy B ids hst N x0 hx0 x2  (11 : Int32)  hr.2.2 hc17) F hr hx0 hl.1 rfl (by decide) dX19_advertCame_28 rfl rfl hroX19_advertCame_X19_of ⟨Nat.zero_le _, Nat.zero_le _⟩) F hA hr (fun H locs hw18 hr => ?_)
    clear hc17
    refine lv_istore (lv' := [(4, .int r15), (3, .ref (B 15 a14)), (0, .ref (B 19 x0)), (1, .ref (B 12 x1)), (2, .int x2)]) F.1 F.2.1 dX19_advertCame_31 hl (by decide) rfl (fun ls hl => ?_)
    refine lv_aload_n F.1 F.2.1 dX19_advertCame_33 rfl (lv_at hl 2 rfl) ?_
    refine lv_iload F.1 F.2.1 dX19_advertCame_34 (lv_at hl 0 rfl) ?_
    refine lv_iconst (v := (0 : Int32)) F.1 F.2.1 dX19_advertCame_36 (by decide) ?_
    replace h := zc_some h
    obtain ⟨r19, z20, hc21, h⟩ := h
    refine zr_calli (zrun_V (As := [.int r15, .int (0 : Int32)]) (rest := []) zq_2828 zq_2830 zs_X19_ad zq_2831 zq_4 hdX19_ad (by decide) (T := TX19) (N := 32) rfl (okX19_ad l D cy B ids hst N x0 hx0 r15  (0 : Int32)  hr.2.2 hc21) F hr hx0 hl.1 rfl (by decide) dX19_advertCame_37 rfl rfl hroX19_advertCame_X19_ad ⟨Nat.zero_le _, Nat.zero_le _⟩) F hA hr (fun H locs hw22 hr => ?_)
    clear hc21
    refine lv_istore (lv' := [(5, .int r19), (4, .int r15), (3, .ref (B 15 a14)), (0, .ref (B 19 x0)), (1, .ref (B 12 x1)), (2, .int x2)]) F.1 F.2.1 dX19_advertCame_40 hl (by decide) rfl (fun ls hl => ?_)
    refine lv_aload_n F.1 F.2.1 dX19_advertCame_42 rfl (lv_at hl 3 rfl) ?_
    refine lv_iload F.1 F.2.1 dX19_advertCame_43 (lv_at hl 1 rfl) ?_
    refine lv_iconst (v := (1 : Int32)) F.1 F.2.1 dX19_advertCame_45 (by decide) ?_
    replace h := zc_some h
    obtain ⟨r23, z24, hc25, h⟩ := h
    refine zr_calli (zrun_V (As := [.int r15, .int (1 : Int32)]) (rest := []) zq_2828 zq_2830 zs_X19_ad zq_2831 zq_4 hdX19_ad (by decide) (T := TX19) (N := 32) rfl (okX19_ad l D cy B ids hst N x0 hx0 r15  (1 : Int32)  hr.2.2 hc25) F hr hx0 hl.1 rfl (by decide) dX19_advertCame_46 rfl rfl hroX19_advertCame_X19_ad ⟨Nat.zero_le _, Nat.zero_le _⟩) F hA hr (fun H locs hw26 hr => ?_)
    clear hc25
    refine lv_istore (lv' := [(6, .int r23), (5, .int r19), (4, .int r15), (3, .ref (B 15 a14)), (0, .ref (B 19 x0)), (1, .ref (B 12 x1)), (2, .int x2)]) F.1 F.2.1 dX19_advertCame_49 hl (by decide) rfl (fun ls hl => ?_)
    refine lv_aload_n F.1 F.2.1 dX19_advertCame_51 rfl (lv_at hl 5 rfl) ?_
    refine gf19_492 F hx1 hr dX19_advertCame_52 ?_
    refine lv_bipush (v := (64 : Int32)) F.1 F.2.1 dX19_advertCame_55 (by decide) ?_
    refine lv_icmp_ge (tgt := 121) F.1 F.2.1 dX19_advertCame_57 (by decide) (fun c27 => ?_) (fun c27 => ?_)
    · replace h := zi_t c27 h
      refine lv_aload_n F.1 F.2.1 dX19_advertCame_121 rfl (lv_at hl 4 rfl) ?_
      replace h := zc_some h
      obtain ⟨r28, z29, hc30, h⟩ := h
      refine zr_callv (zrun_V (As := []) (rest := []) zq_2394 zq_2396 zs_X19_stir zq_2397 zq_4 hdX19_stir (by decide) (T := TX19) (N := 32) rfl (okX19_stir l D cy B ids hst N x0 hx0 hr.2.2 hc30) F hr hx0 hl.1 rfl (by decide) dX19_advertCame_122 rfl rfl hroX19_advertCame_X19_stir ⟨Nat.zero_le _, Nat.zero_le _⟩) F hA hr (fun H locs hw31 hr => ?_)
      clear hc30
      exact bX19_advertCame_125 hst F hA E  x0 x1 a14 r15 r19 r23 hx0 hx1 (hw12 _ rfl) hr (lv_sub hl [4, 5, 3, 2, 1, 0] rfl) h
    · replace h := zi_f c27 h
      refine lv_aload_n F.1 F.2.1 dX19_advertCame_60 rfl (lv_at hl 5 rfl) ?_
      refine gf19_495 F hx1 hr dX19_advertCame_61 ?_
      refine lv_aload_n F.1 F.2.1 dX19_advertCame_64 rfl (lv_at hl 5 rfl) ?_
      refine gf19_492 F hx1 hr dX19_advertCame_65 ?_
      refine lv_aload_n F.1 F.2.1 dX19_advertCame_68 rfl (lv_at hl 4 rfl) ?_
      refine lv_iload_n F.1 F.2.1 dX19_advertCame_69 rfl (lv_at hl 6 rfl) ?_
      refine lv_bipush (v := (9 : Int32)) F.1 F.2.1 dX19_advertCame_70 (by decide) ?_
      replace h := zc_some h
      obtain ⟨r32, z33, hc34, h⟩ := h
      refine zr_calli (zrun_V (As := [.int x2, .int (9 : Int32)]) (rest := [.int (zgI z24 12 22 x1), .ref (B 152 x1)]) zq_2549 zq_2551 zs_X19_of zq_2552 zq_4 hdX19_of (by decide) (T := TX19) (N := 32) rfl (okX19_of l D cy B ids hst N x0 hx0 x2  (9 : Int32)  hr.2.2 hc34) F hr hx0 hl.1 rfl (Nat.le_of_ble_eq_true rfl) dX19_advertCame_72 rfl rfl hroX19_advertCame_X19_of ⟨Nat.zero_le _, Nat.zero_le _⟩) F hA hr (fun H locs hw35 hr => ?_)
      clear hc34
      replace h := zk_some h
      obtain ⟨c36, h⟩ := h
      refine zr_iast (k := 152) (by decide) rfl (by decide) F (zal_a F hx1 (j := 19) rfl) hr dX19_advertCame_75 c36 (fun H locs z37 ez37 hr => ?_)
      replace h := zl_sub ez37 h
      clear ez37
      refine lv_aload_n F.1 F.2.1 dX19_advertCame_76 rfl (lv_at hl 5 rfl) ?_
      refine gf19_498 F hx1 hr dX19_advertCame_77 ?_
      refine lv_aload_n F.1 F.2.1 dX19_advertCame_80 rfl (lv_at hl 5 rfl) ?_
      refine gf19_492 F hx1 hr dX19_advertCame_81 ?_
      refine lv_aload_n F.1 F.2.1 dX19_advertCame_84 rfl (lv_at hl 4 rfl) ?_
      refine lv_iload_n F.1 F.2.1 dX19_advertCame_85 rfl (lv_at hl 6 rfl) ?_
      refine lv_iconst (v := (0 : Int32)) F.1 F.2.1 dX19_advertCame_86 (by decide) ?_
      replace h := zc_some h
      obtain ⟨r38, z39, hc40, h⟩ := h
      refine zr_calli (zrun_V (As := [.int x2, .int (0 : Int32)]) (rest := [.int (zgI z37 12 22 x1), .ref (B 153 x1)]) zq_2549 zq_2551 zs_X19_of zq_2552 zq_4 hdX19_of (by decide) (T := TX19) (N := 32) rfl (okX19_of l D cy B ids hst N x0 hx0 x2  (0 : Int32)  hr.2.2 hc40) F hr hx0 hl.1 rfl (Nat.le_of_ble_eq_true rfl) dX19_advertCame_87 rfl rfl hroX19_advertCame_X19_of ⟨Nat.zero_le _, Nat.zero_le _⟩) F hA hr (fun H locs hw41 hr => ?_)
      clear hc40
      replace h := zk_some h
      obtain ⟨c42, h⟩ := h
      refine zr_iast (k := 153) (by decide) rfl (by decide) F (zal_a F hx1 (j := 20) rfl) hr dX19_advertCame_90 c42 (fun H locs z43 ez43 hr => ?_)
      replace h := zl_sub ez43 h
      clear ez43
      refine lv_aload_n F.1 F.2.1 dX19_advertCame_91 rfl (lv_at hl 5 rfl) ?_
      refine gf19_501 F hx1 hr dX19_advertCame_92 ?_
      refine lv_aload_n F.1 F.2.1 dX19_advertCame_95 rfl (lv_at hl 5 rfl) ?_
      refine gf19_492 F hx1 hr dX19_advertCame_96 ?_
      refine lv_iload F.1 F.2.1 dX19_advertCame_99 (lv_at hl 1 rfl) ?_
      refine lv_bipush (v := (24 : Int32)) F.1 F.2.1 dX19_advertCame_101 (by decide) ?_
      refine lv_ishl F.1 F.2.1 dX19_advertCame_103 ?_
      refine lv_iload F.1 F.2.1 dX19_advertCame_104 (lv_at hl 0 rfl) ?_
      refine lv_ior F.1 F.2.1 dX19_advertCame_106 ?_
      replace h := zk_some h
      obtain ⟨c44, h⟩ := h
      refine zr_iast (k := 154) (by decide) rfl (by decide) F (zal_a F hx1 (j := 21) rfl) hr dX19_advertCame_107 c44 (fun H locs z45 ez45 hr => ?_)
      replace h := zl_sub ez45 h
      clear ez45
      refine lv_aload_n F.1 F.2.1 dX19_advertCame_108 rfl (lv_at hl 5 rfl) ?_
      refine lv_dup F.1 F.2.1 dX19_advertCame_109 rfl ?_
      refine gf19_492 F hx1 hr dX19_advertCame_110 ?_
      refine lv_iconst (v := (1 : Int32)) F.1 F.2.1 dX19_advertCame_113 (by decide) ?_
      refine lv_iadd F.1 F.2.1 dX19_advertCame_114 ?_
      refine pf19_492 F hx1 hr dX19_advertCame_115 ((zgI z45 12 22 x1) + (1 : Int32)) (fun H locs z46 ez46 hr => ?_)
      replace h := zl_sub ez46 h
      clear ez46
      refine lv_goto (tgt := 125) F.1 F.2.1 dX19_advertCame_118 (by decide) ?_
      exact bX19_advertCame_125 hst F hA E  x0 x1 a14 r15 r19 r23 hx0 hx1 (hw12 _ rfl) hr (lv_sub hl [4, 5, 3, 2, 1, 0] rfl) h
end SX19_advertCame
set_option maxRecDepth 100000 in
theorem okX19_advertCame (l : Launch) (D : va_G) (cy : Nat → ClassId) (B : Nat → Nat → Nat) (ids : List (Nat × Nat)) (hst : zSt B ids) (N : Nat) (x0 : Nat) (hx0 : (19, x0) ∈ ids) (x1 : Nat) (hx1 : (12, x1) ∈ ids) (x2 : Int32) {z : St} {r : Int32} {z' : St} (hW : zWf ids z) (h : fX19_advertCame N x0 x1 x2 z = some (r, z')) : zM l yX19_advertCame (zws yX19_advertCame cX19_advertCame 8 none) rmX19_advertCame D cy B ids [.ref (B 19 x0), .ref (B 12 x1), .int x2] none True z z' :=
  zM_of hst hW (by decide +kernel) (Nat.le_of_ble_eq_true rfl) (fun p e s m args below meth c A ls F hA hret hlocks hr hl => bX19_advertCame_0 hst F hA (zEnd_v F hret hlocks) x0 x1 x2 hx0 hx1 hr hl h)
