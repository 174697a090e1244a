abbrev rmX19_costAbove : Room := { frames := 2, cells := 0, slots := 0, locals := 42 }
theorem hdX19_costAbove : yX19_costAbove.cls ≠ "java/lang/invoke/MethodHandle" ∧ yX19_costAbove.cls ≠ "java/lang/invoke/VarHandle" ∧ (parseMethodDescriptor yX19_costAbove.desc).map (fun d => d.parameters.length) = some 2 := by decide +kernel
theorem hroX19_costAbove_X19_isRouter : rmX19_isRouter.frames + 1 ≤ rmX19_costAbove.frames ∧ 8 + (2 + 11) + rmX19_isRouter.locals ≤ rmX19_costAbove.locals := by decide
theorem hroX19_costAbove_X19_portOn : rmX19_portOn.frames + 1 ≤ rmX19_costAbove.frames ∧ 8 + (5 + 11) + rmX19_portOn.locals ≤ rmX19_costAbove.locals := by decide
section SX19_costAbove
variable {p : Program} {l : Launch} {e : Env} {s : State} {m : MethodId} {args : Array Value} {below : List Frame} {meth : Method} {c : Code} {Q : State → Prop} {D : va_G} {cy : Nat → ClassId} {B : Nat → Nat → Nat} {ids : List (Nat × Nat)} {A : Nat → Prop}
def fX19_costAbove_120 (N : Nat) (K38 : Nat → Int32 → Int32 → Int32 → St → Option (Int32 × St)) (x0 : Nat) (x2 : Int32) (x4 : Int32) (x5 : Int32) (z : St) : Option (Int32 × St) := zl (x5 + 1) fun v1 => K38 x0 x2 x4 v1 z
set_option maxHeartbeats 4000000 in
set_option maxRecDepth 100000 in
theorem bX19_costAbove_120 (hst : zSt B ids) (F : zFx p m c cX19_costAbove 7 s args RX19 D cy B ids A) (hA : ∀ q : Nat, s.heap.size ≤ q → A q) {r : Int32} {z' : St} (E : zEnd p l e rmX19_costAbove s m args below meth c cX19_costAbove D cy B ids A Q (some (.int r)) z' .ireturn True) {N : Nat} {K38 : Nat → Int32 → Int32 → Int32 → St → Option (Int32 × St)} (hK38 : ∀ (x0 : Nat) (x2 : Int32) (x4 : Int32) (x5 : Int32) (hx0 : (19, x0) ∈ ids) {z : St} {H : Heap} {locs : List Loc} {ls : Array Slot} (hr : zRep D cy B ids A s.heap z H locs) (hl : lv_has ls 7 [(0, .ref (B 19 x0)), (2, .int x2), (4, .int x4), (5, .int x5)]), K38 x0 x2 x4 x5 z = some (r, z') → W p l e rmX19_costAbove s m args below meth c H locs 0 0 Q (F0 m 38 ls [])) (x0 : Nat) (x2 : Int32) (x4 : Int32) (x5 : Int32) (hx0 : (19, x0) ∈ ids) {z : St} {H : Heap} {locs : List Loc} {ls : Array Slot} (hr : zRep D cy B ids A s.heap z H locs) (hl : lv_has ls 7 [(0, .ref (B 19 x0)), (2, .int x2), (4, .int x4), (5, .int x5)]) (h : fX19_costAbove_120 N K38 x0 x2 x4 x5 z = some (r, z')) : W p l e rmX19_costAbove s m args below meth c H locs 0 0 Q (F0 m 120 ls []) := by
  unfold fX19_costAbove_120 at h
  obtain ⟨v1, ev1⟩ : ∃ y : Int32, y = (x5 + 1) := ⟨_, rfl⟩
  replace h := zl_sub ev1 h
  refine lv_iinc (v := v1) (lv' := [(5, .int v1), (0, .ref (B 19 x0)), (2, .int x2), (4, .int x4)]) F.1 F.2.1 dX19_costAbove_120 hl (k := 3) rfl (by rw [ev1]; rfl) (by decide) rfl (fun ls hl => ?_)
  refine lv_goto (tgt := 38) F.1 F.2.1 dX19_costAbove_123 (by decide) ?_
  exact hK38 x0 x2 x4 v1 hx0 hr (lv_sub hl [1, 2, 3, 0] rfl) h
def fX19_costAbove_67 (N : Nat) (K38 : Nat → Int32 → Int32 → Int32 → St → Option (Int32 × St)) (x0 : Nat) (x2 : Int32) (x4 : Int32) (x5 : Int32) (s0 : Option Nat) (z : St) : Option (Int32 × St) := zo s0 (fX19_costAbove_120 N K38 x0 x2 x4 x5 z) fun a2 => zk x5 16 <| if (1000000000 : Int32) ≤ (zgA z 191 x0 (Int32.toNatClampNeg x5)) then (fX19_costAbove_120 N K38 x0 x2 x4 x5 z) else (zk x5 16 <| if x4 ≤ ((zgA z 191 x0 (Int32.toNatClampNeg x5)) + (zgI z 18 4 a2)) then (fX19_costAbove_120 N K38 x0 x2 x4 x5 z) else (zk x5 16 <| zl ((zgA z 191 x0 (Int32.toNatClampNeg x5)) + (zgI z 18 4 a2)) fun v8 => fX19_costAbove_120 N K38 x0 x2 v8 x5 z))
set_option maxHeartbeats 4000000 in
set_option maxRecDepth 100000 in
theorem bX19_costAbove_67 (hst : zSt B ids) (F : zFx p m c cX19_costAbove 7 s args RX19 D cy B ids A) (hA : ∀ q : Nat, s.heap.size ≤ q → A q) {r : Int32} {z' : St} (E : zEnd p l e rmX19_costAbove s m args below meth c cX19_costAbove D cy B ids A Q (some (.int r)) z' .ireturn True) {N : Nat} {K38 : Nat → Int32 → Int32 → Int32 → St → Option (Int32 × St)} (hK38 : ∀ (x0 : Nat) (x2 : Int32) (x4 : Int32) (x5 : Int32) (hx0 : (19, x0) ∈ ids) {z : St} {H : Heap} {locs : List Loc} {ls : Array Slot} (hr : zRep D cy B ids A s.heap z H locs) (hl : lv_has ls 7 [(0, .ref (B 19 x0)), (2, .int x2), (4, .int x4), (5, .int x5)]), K38 x0 x2 x4 x5 z = some (r, z') → W p l e rmX19_costAbove s m args below meth c H locs 0 0 Q (F0 m 38 ls [])) (x0 : Nat) (x2 : Int32) (x4 : Int32) (x5 : Int32) (s0 : Option Nat) (hx0 : (19, x0) ∈ ids) (hs0 : ∀ t, s0 = some t → (18, t) ∈ ids) {z : St} {H : Heap} {locs : List Loc} {ls : Array Slot} (hr : zRep D cy B ids A s.heap z H locs) (hl : lv_has ls 7 [(0, .ref (B 19 x0)), (2, .int x2), (4, .int x4), (5, .int x5)]) (h : fX19_costAbove_67 N K38 x0 x2 x4 x5 s0 z = some (r, z')) : W p l e rmX19_costAbove s m args below meth c H locs 0 0 Q (F0 m 67 ls [va_rf (Option.map (B 18) s0)]) := by
  unfold fX19_costAbove_67 at h
  refine zr_astore (lv' := [(6, va_rf (Option.map (B 18) s0)), (0, .ref (B 19 x0)), (2, .int x2), (4, .int x4), (5, .int x5)]) F.1 F.2.1 dX19_costAbove_67 hl (by decide) rfl (fun ls hl => ?_)
  refine zr_aload F.1 F.2.1 dX19_costAbove_69 (lv_at hl 0 rfl) ?_
  refine zr_ifnull (tgt := 120) F.1 F.2.1 dX19_costAbove_71 (by decide) (fun e1 => ?_) (fun a2 e1 => ?_)
  · replace h := zo_n e1 h
    subst e1
    exact bX19_costAbove_120 hst F hA E hK38 x0 x2 x4 x5 hx0 hr (lv_sub hl [1, 2, 3, 4] rfl) h
  · replace h := zo_s e1 h
    subst e1
    refine lv_aload_n F.1 F.2.1 dX19_costAbove_74 rfl (lv_at hl 1 rfl) ?_
    refine gf19_133 F hx0 hr dX19_costAbove_75 ?_
    refine lv_iload F.1 F.2.1 dX19_costAbove_78 (lv_at hl 4 rfl) ?_
    replace h := zk_some h
    obtain ⟨c3, h⟩ := h
    refine zr_iald (k := 191) (by decide) rfl (by decide) F (zal_a F hx0 (j := 30) rfl) hr dX19_costAbove_80 c3 ?_
    refine lv_ldcw (v := (1000000000)) F.1 F.2.1 F.2.2.2.1 (F.2.2.2.2.1 _ zq_2903) dX19_costAbove_81 ?_
    refine lv_icmp_ge (tgt := 120) F.1 F.2.1 dX19_costAbove_84 (by decide) (fun c4 => ?_) (fun c4 => ?_)
    · replace h := zi_t c4 h
      exact bX19_costAbove_120 hst F hA E hK38 x0 x2 x4 x5 hx0 hr (lv_sub hl [1, 2, 3, 4] rfl) h
    · replace h := zi_f c4 h
      refine lv_aload_n F.1 F.2.1 dX19_costAbove_87 rfl (lv_at hl 1 rfl) ?_
      refine gf19_133 F hx0 hr dX19_costAbove_88 ?_
      refine lv_iload F.1 F.2.1 dX19_costAbove_91 (lv_at hl 4 rfl) ?_
      replace h := zk_some h
      obtain ⟨c5, h⟩ := h
      refine zr_iald (k := 191) (by decide) rfl (by decide) F (zal_a F hx0 (j := 30) rfl) hr dX19_costAbove_93 c5 ?_
      refine lv_aload F.1 F.2.1 dX19_costAbove_94 (lv_at hl 0 rfl) ?_
      refine gf19_520 F (hs0 _ rfl) hr dX19_costAbove_96 ?_
      refine lv_iadd F.1 F.2.1 dX19_costAbove_99 ?_
      refine lv_iload F.1 F.2.1 dX19_costAbove_100 (lv_at hl 3 rfl) ?_
      refine lv_icmp_ge (tgt := 120) F.1 F.2.1 dX19_costAbove_102 (by decide) (fun c6 => ?_) (fun c6 => ?_)
      · replace h := zi_t c6 h
        exact bX19_costAbove_120 hst F hA E hK38 x0 x2 x4 x5 hx0 hr (lv_sub hl [1, 2, 3, 4] rfl) h
      · replace h := zi_f c6 h
        refine lv_aload_n F.1 F.2.1 dX19_costAbove_105 rfl (lv_at hl 1 rfl) ?_
        refine gf19_133 F hx0 hr dX19_costAbove_106 ?_
        refine lv_iload F.1 F.2.1 dX19_costAbove_109 (lv_at hl 4 rfl) ?_
        replace h := zk_some h
        obtain ⟨c7, h⟩ := h
        refine zr_iald (k := 191) (by decide) rfl (by decide) F (zal_a F hx0 (j := 30) rfl) hr dX19_costAbove_111 c7 ?_
        refine lv_aload F.1 F.2.1 dX19_costAbove_112 (lv_at hl 0 rfl) ?_
        refine gf19_520 F (hs0 _ rfl) hr dX19_costAbove_114 ?_
        refine lv_iadd F.1 F.2.1 dX19_costAbove_117 ?_
        refine lv_topi (fun v8 ev8 => ?_)
        replace h := zl_sub ev8 h
        refine lv_istore (lv' := [(4, .int v8), (6, .ref (B 18 a2)), (0, .ref (B 19 x0)), (2, .int x2), (5, .int x5)]) F.1 F.2.1 dX19_costAbove_118 hl (by decide) rfl (fun ls hl => ?_)
        exact bX19_costAbove_120 hst F hA E hK38 x0 x2 v8 x5 hx0 hr (lv_sub hl [2, 3, 0, 4] rfl) h
def fX19_costAbove_38b (N : Nat) (K38 : Nat → Int32 → Int32 → Int32 → St → Option (Int32 × St)) (x0 : Nat) (x2 : Int32) (x4 : Int32) (x5 : Int32) (z : St) : Option (Int32 × St) := if (zgI z 19 19 x0) ≤ x5 then (if ¬ x4 = (1000000000 : Int32) then (some (x4, z)) else (some ((-1 : Int32), z))) else (zc (fX19_isRouter N x0 x5 z) fun r3 z4 => if r3 = 0 then (fX19_costAbove_67 N K38 x0 x2 x4 x5 none z4) else (zc (fX19_portOn N x0 x5 x2 z4) fun r8 z9 => fX19_costAbove_67 N K38 x0 x2 x4 x5 r8 z9))
def fX19_costAbove_38 (N : Nat)  : Nat → Nat → Int32 → Int32 → Int32 → St → Option (Int32 × St)
  | 0 => fun _ _ _ _ _ => none
  | n + 1 => fX19_costAbove_38b N (fX19_costAbove_38 N  n)
set_option maxHeartbeats 4000000 in
set_option maxRecDepth 100000 in
theorem bX19_costAbove_38 (hst : zSt B ids) (F : zFx p m c cX19_costAbove 7 s args RX19 D cy B ids A) (hA : ∀ q : Nat, s.heap.size ≤ q → A q) {r : Int32} {z' : St} (E : zEnd p l e rmX19_costAbove s m args below meth c cX19_costAbove D cy B ids A Q (some (.int r)) z' .ireturn True) {N : Nat} {K38 : Nat → Int32 → Int32 → Int32 → St → Option (Int32 × St)} (hK38 : ∀ (x0 : Nat) (x2 : Int32) (x4 : Int32) (x5 : Int32) (hx0 : (19, x0) ∈ ids) {z : St} {H : Heap} {locs : List Loc} {ls : Array Slot} (hr : zRep D cy B ids A s.heap z H locs) (hl : lv_has ls 7 [(0, .ref (B 19 x0)), (2, .int x2), (4, .int x4), (5, .int x5)]), K38 x0 x2 x4 x5 z = some (r, z') → W p l e rmX19_costAbove s m args below meth c H locs 0 0 Q (F0 m 38 ls [])) (x0 : Nat) (x2 : Int32) (x4 : Int32) (x5 : Int32) (hx0 : (19, x0) ∈ ids) {z : St} {H : Heap} {locs : List Loc} {ls : Array Slot} (hr : zRep D cy B ids A s.heap z H locs) (hl : lv_has ls 7 [(0, .ref (B 19 x0)), (2, .int x2), (4, .int x4), (5, .int x5)]) (h : fX19_costAbove_38b N K38 x0 x2 x4 x5 z = some (r, z')) : W p l e rmX19_costAbove s m args below meth c H locs 0 0 Q (F0 m 38 ls []) := by
  unfold fX19_costAbove_38b at h
  refine lv_iload F.1 F.2.1 dX19_costAbove_38 (lv_at hl 3 rfl) ?_
  refine lv_aload_n F.1 F.2.1 dX19_costAbove_40 rfl (lv_at hl 0 rfl) ?_
  refine gf19_831 F hx0 hr dX19_costAbove_41 ?_
  refine lv_icmp_ge (tgt := 126) F.1 F.2.1 dX19_costAbove_44 (by decide) (fun c1 => ?_) (fun c1 => ?_)
  · replace h := zi_t c1 h
    refine lv_iload F.1 F.2.1 dX19_costAbove_126 (lv_at hl 2 rfl) ?_
    refine lv_ldcw (v := (1000000000)) F.1 F.2.1 F.2.2.2.1 (F.2.2.2.2.1 _ zq_2903) dX19_costAbove_128 ?_
    refine lv_icmp_ne (tgt := 138) F.1 F.2.1 dX19_costAbove_131 (by decide) (fun c2 => ?_) (fun c2 => ?_)
    · replace h := zi_t c2 h
      refine lv_iload F.1 F.2.1 dX19_costAbove_138 (lv_at hl 2 rfl) ?_
      obtain ⟨rfl, rfl⟩ := zret h
      exact E _ _ _ _ dX19_costAbove_140 trivial hr
    · replace h := zi_f (fun q => q c2) h
      refine lv_iconst (v := (-1 : Int32)) F.1 F.2.1 dX19_costAbove_134 (by decide) ?_
      refine lv_goto (tgt := 140) F.1 F.2.1 dX19_costAbove_135 (by decide) ?_
      obtain ⟨rfl, rfl⟩ := zret h
      exact E _ _ _ _ dX19_costAbove_140 trivial hr
  · replace h := zi_f c1 h
    refine lv_aload_n F.1 F.2.1 dX19_costAbove_47 rfl (lv_at hl 0 rfl) ?_
    refine lv_iload F.1 F.2.1 dX19_costAbove_48 (lv_at hl 3 rfl) ?_
    replace h := zc_some h
    obtain ⟨r3, z4, hc5, h⟩ := h
    refine zr_calli (zrun_V (As := [.int x5]) (rest := []) zq_2529 zq_2531 zs_X19_isRouter zq_2532 zq_4 hdX19_isRouter (by decide) (T := TX19) (N := 32) rfl (okX19_isRouter l D cy B ids hst N x0 hx0 x5  hr.2.2 hc5) F hr hx0 hl.1 rfl (by decide) dX19_costAbove_50 rfl rfl hroX19_costAbove_X19_isRouter ⟨Nat.zero_le _, Nat.zero_le _⟩) F hA hr (fun H locs hw6 hr => ?_)
    clear hc5
    refine lv_if_eq (tgt := 66) F.1 F.2.1 dX19_costAbove_53 (by decide) (fun c7 => ?_) (fun c7 => ?_)
    · replace h := zi_t c7 h
      refine lv_null F.1 F.2.1 dX19_costAbove_66 ?_
      exact bX19_costAbove_67 hst F hA E hK38 x0 x2 x4 x5 none hx0 zal_0 hr (lv_sub hl [0, 1, 2, 3] rfl) h
    · replace h := zi_f c7 h
      refine lv_aload_n F.1 F.2.1 dX19_costAbove_56 rfl (lv_at hl 0 rfl) ?_
      refine lv_iload F.1 F.2.1 dX19_costAbove_57 (lv_at hl 3 rfl) ?_
      refine lv_iload_n F.1 F.2.1 dX19_costAbove_59 rfl (lv_at hl 1 rfl) ?_
      replace h := zc_some h
      obtain ⟨r8, z9, hc10, h⟩ := h
      refine zr_callr (zrun_V (As := [.int x5, .int x2]) (rest := []) zq_2533 zq_2535 zs_X19_portOn zq_2536 zq_4 hdX19_portOn (by decide) (T := TX19) (N := 32) rfl (okX19_portOn l D cy B ids hst N x0 hx0 x5  x2  hr.2.2 hc10) F hr hx0 hl.1 rfl (by decide) dX19_costAbove_60 rfl rfl hroX19_costAbove_X19_portOn ⟨Nat.zero_le _, Nat.zero_le _⟩) F hA hr (fun H locs hw11 hr => ?_)
      clear hc10
      refine lv_goto (tgt := 67) F.1 F.2.1 dX19_costAbove_63 (by decide) ?_
      exact bX19_costAbove_67 hst F hA E hK38 x0 x2 x4 x5 r8 hx0 hw11 hr (lv_sub hl [0, 1, 2, 3] rfl) h
theorem lX19_costAbove_38 (hst : zSt B ids) (F : zFx p m c cX19_costAbove 7 s args RX19 D cy B ids A) (hA : ∀ q : Nat, s.heap.size ≤ q → A q) {r : Int32} {z' : St} (E : zEnd p l e rmX19_costAbove s m args below meth c cX19_costAbove D cy B ids A Q (some (.int r)) z' .ireturn True) {N : Nat}  : ∀ (n : Nat) (x0 : Nat) (x2 : Int32) (x4 : Int32) (x5 : Int32) (hx0 : (19, x0) ∈ ids) {z : St} {H : Heap} {locs : List Loc} {ls : Array Slot} (hr : zRep D cy B ids A s.heap z H locs) (hl : lv_has ls 7 [(0, .ref (B 19 x0)), (2, .int x2), (4, .int x4), (5, .int x5)]), fX19_costAbove_38 N  n x0 x2 x4 x5 z = some (r, z') → W p l e rmX19_costAbove s m args below meth c H locs 0 0 Q (F0 m 38 ls []) := by
  intro n
  induction n with
  | zero => intro x0 x2 x4 x5 hx0 z H locs ls hr hl h; cases h
  | succ n ih => intro x0 x2 x4 x5 hx0 z H locs ls hr hl h; exact bX19_costAbove_38 hst F hA E ih x0 x2 x4 x5 hx0 hr hl h
def fX19_costAbove (N : Nat)  (x0 : Nat) (x1 : Int32) (x2 : Int32) (z : St) : Option (Int32 × St) := zk x2 24 <| zl (zgQ z 187 x0 (Int32.toNatClampNeg x2)) fun y2 => zd y2 fun a3 => if ¬ (zgI z 16 3 a3) = 0 then (zc (fX19_portOn N x0 x1 x2 z) fun r5 z6 => zo r5 (fX19_costAbove_38 N N x0 x2 (1000000000 : Int32) (0 : Int32) z6) fun a10 => some ((zgI z6 18 4 a10), z6)) else (some ((-1 : Int32), z))
set_option maxHeartbeats 4000000 in
set_option maxRecDepth 100000 in
theorem bX19_costAbove_0 (hst : zSt B ids) (F : zFx p m c cX19_costAbove 7 s args RX19 D cy B ids A) (hA : ∀ q : Nat, s.heap.size ≤ q → A q) {r : Int32} {z' : St} (E : zEnd p l e rmX19_costAbove s m args below meth c cX19_costAbove D cy B ids A Q (some (.int r)) z' .ireturn True) {N : Nat}  (x0 : Nat) (x1 : Int32) (x2 : Int32) (hx0 : (19, x0) ∈ ids) {z : St} {H : Heap} {locs : List Loc} {ls : Array Slot} (hr : zRep D cy B ids A s.heap z H locs) (hl : lv_has ls 7 [(0, .ref (B 19 x0)), (1, .int x1), (2, .int x2)]) (h : fX19_costAbove N x0 x1 x2 z = some (r, z')) : W p l e rmX19_costAbove s m args below meth c H locs 0 0 Q (F0 m 0 ls []) := by
  unfold fX19_costAbove at h
  refine lv_aload_n F.1 F.2.1 dX19_costAbove_0 rfl (lv_at hl 0 rfl) ?_
  refine gf19_120 F hx0 hr dX19_costAbove_1 ?_
  refine lv_iload_n F.1 F.2.1 dX19_costAbove_4 rfl (lv_at hl 2 rfl) ?_
  replace h := zk_some h
  obtain ⟨c1, h⟩ := h
  refine zr_aaldv (k := 187) (by decide) rfl rfl (zlen_d (by decide)) F (zal_a F hx0 (j := 20) rfl) hr dX19_costAbove_5 c1 (fun y2 ey2 => ?_)
  replace h := zl_sub ey2 h
  have hy2 := zal_q hr (zal_a F hx0 (j := 20) rfl) rfl ey2
  clear ey2
  replace h := zd_some h
  obtain ⟨a3, rfl, h⟩ := h
  refine gf19_158 F (hy2 _ rfl) hr dX19_costAbove_6 ?_
  refine lv_if_ne (tgt := 14) F.1 F.2.1 dX19_costAbove_9 (by decide) (fun c4 => ?_) (fun c4 => ?_)
  · replace h := zi_t c4 h
    refine lv_aload_n F.1 F.2.1 dX19_costAbove_14 rfl (lv_at hl 0 rfl) ?_
    refine lv_iload_n F.1 F.2.1 dX19_costAbove_15 rfl (lv_at hl 1 rfl) ?_
    refine lv_iload_n F.1 F.2.1 dX19_costAbove_16 rfl (lv_at hl 2 rfl) ?_
    replace h := zc_some h
    obtain ⟨r5, z6, hc7, h⟩ := h
    refine zr_callr (zrun_V (As := [.int x1, .int x2]) (rest := []) zq_2533 zq_2535 zs_X19_portOn zq_2536 zq_4 hdX19_portOn (by decide) (T := TX19) (N := 32) rfl (okX19_portOn l D cy B ids hst N x0 hx0 x1  x2  hr.2.2 hc7) F hr hx0 hl.1 rfl (by decide) dX19_costAbove_17 rfl rfl hroX19_costAbove_X19_portOn ⟨Nat.zero_le _, Nat.zero_le _⟩) F hA hr (fun H locs hw8 hr => ?_)
    clear hc7
    refine zr_astore_n (lv' := [(3, va_rf (Option.map (B 18) r5)), (0, .ref (B 19 x0)), (1, .int x1), (2, .int x2)]) F.1 F.2.1 dX19_costAbove_20 rfl hl (by decide) rfl (fun ls hl => ?_)
    refine zr_aload_n F.1 F.2.1 dX19_costAbove_21 rfl (lv_at hl 0 rfl) ?_
    refine zr_ifnull (tgt := 30) F.1 F.2.1 dX19_costAbove_22 (by decide) (fun e9 => ?_) (fun a10 e9 => ?_)
    · replace h := zo_n e9 h
      subst e9
      refine lv_ldcw (v := (1000000000)) F.1 F.2.1 F.2.2.2.1 (F.2.2.2.2.1 _ zq_2903) dX19_costAbove_30 ?_
      refine lv_istore (lv' := [(4, .int (1000000000 : Int32)), (3, .null), (0, .ref (B 19 x0)), (1, .int x1), (2, .int x2)]) F.1 F.2.1 dX19_costAbove_33 hl (by decide) rfl (fun ls hl => ?_)
      refine lv_iconst (v := (0 : Int32)) F.1 F.2.1 dX19_costAbove_35 (by decide) ?_
      refine lv_istore (lv' := [(5, .int (0 : Int32)), (4, .int (1000000000 : Int32)), (3, .null), (0, .ref (B 19 x0)), (1, .int x1), (2, .int x2)]) F.1 F.2.1 dX19_costAbove_36 hl (by decide) rfl (fun ls hl => ?_)
      exact lX19_costAbove_38 hst F hA E  _ x0 x2 (1000000000 : Int32) (0 : Int32) hx0 hr (lv_sub hl [3, 5, 1, 0] rfl) h
    · replace h := zo_s e9 h
      subst e9
      refine lv_aload_n F.1 F.2.1 dX19_costAbove_25 rfl (lv_at hl 0 rfl) ?_
      refine gf19_520 F (hw8 _ rfl) hr dX19_costAbove_26 ?_
      obtain ⟨rfl, rfl⟩ := zret h
      exact E _ _ _ _ dX19_costAbove_29 trivial hr
  · replace h := zi_f (fun q => q c4) h
    refine lv_iconst (v := (-1 : Int32)) F.1 F.2.1 dX19_costAbove_12 (by decide) ?_
    obtain ⟨rfl, rfl⟩ := zret h
    exact E _ _ _ _ dX19_costAbove_13 trivial hr
end SX19_costAbove
set_option maxRecDepth 100000 in
theorem okX19_costAbove (l : Launch) (D : va_G) (cy : Nat → ClassId) (B : Nat → Nat → Nat) (ids : List (Nat × Nat)) (hst : zSt B ids) (N : Nat) (x0 : Nat) (hx0 : (19, x0) ∈ ids) (x1 : Int32) (x2 : Int32) {z : St} {r : Int32} {z' : St} (hW : zWf ids z) (h : fX19_costAbove N x0 x1 x2 z = some (r, z')) : zM l yX19_costAbove (zws yX19_costAbove cX19_costAbove 7 (some .int)) rmX19_costAbove D cy B ids [.ref (B 19 x0), .int x1, .int x2] (some (.int r)) True z z' :=
  zM_of hst hW (by decide +kernel) (Nat.le_of_ble_eq_true rfl) (fun p e s m args below meth c A ls F hA hret hlocks hr hl => bX19_costAbove_0 hst F hA (zEnd_i F hret hlocks) x0 x1 x2 hx0 hr hl h)
abbrev rmX19_shouldCost : Room := { frames := 3, cells := 0, slots := 0, locals := 68 }
theorem hdX19_shouldCost : yX19_shouldCost.cls ≠ "java/lang/invoke/MethodHandle" ∧ yX19_shouldCost.cls ≠ "java/lang/invoke/VarHandle" ∧ (parseMethodDescriptor yX19_shouldCost.desc).map (fun d => d.parameters.length) = some 2 := by decide +kernel
theorem hroX19_shouldCost_X19_costAbove : rmX19_costAbove.frames + 1 ≤ rmX19_shouldCost.frames ∧ 8 + (7 + 11) + rmX19_costAbove.locals ≤ rmX19_shouldCost.locals := by decide
theorem hroX19_shouldCost_X19_fails : rmX19_fails.frames + 1 ≤ rmX19_shouldCost.frames ∧ 8 + (3 + 11) + rmX19_fails.locals ≤ rmX19_shouldCost.locals := by decide
theorem hroX19_shouldCost_X19_fromAbove : rmX19_fromAbove.frames + 1 ≤ rmX19_shouldCost.frames ∧ 8 + (5 + 11) + rmX19_fromAbove.locals ≤ rmX19_shouldCost.locals := by decide
theorem hroX19_shouldCost_X19_isNet : rmX19_isNet.frames + 1 ≤ rmX19_shouldCost.frames ∧ 8 + (2 + 11) + rmX19_isNet.locals ≤ rmX19_shouldCost.locals := by decide
theorem hroX19_shouldCost_X19_isRouter : rmX19_isRouter.frames + 1 ≤ rmX19_shouldCost.frames ∧ 8 + (2 + 11) + rmX19_isRouter.locals ≤ rmX19_shouldCost.locals := by decide
section SX19_shouldCost
variable {p : Program} {l : Launch} {e : Env} {s : State} {m : MethodId} {args : Array Value} {below : List Frame} {meth : Method} {c : Code} {Q : State → Prop} {D : va_G} {cy : Nat → ClassId} {B : Nat → Nat → Nat} {ids : List (Nat × Nat)} {A : Nat → Prop}
def fX19_shouldCost_22 (N : Nat)  (x0 : Nat) (x1 : Int32) (x2 : Int32) (s0 : Nat) (s1 : Int32) (z : St) : Option (Int32 × St) := zc (fX19_fails N s0 s1 (0 : Int32) z) fun r1 z2 => if r1 = 0 then (zc (fX19_fromAbove N x0 x1 z2) fun _ z7 => zc (fX19_costAbove N x0 x1 x2 z7) fun r10 z11 => some (r10, z11)) else (some ((0 : Int32), z2))
set_option maxHeartbeats 4000000 in
set_option maxRecDepth 100000 in
theorem bX19_shouldCost_22 (hst : zSt B ids) (F : zFx p m c cX19_shouldCost 3 s args RX19 D cy B ids A) (hA : ∀ q : Nat, s.heap.size ≤ q → A q) {r : Int32} {z' : St} (E : zEnd p l e rmX19_shouldCost s m args below meth c cX19_shouldCost D cy B ids A Q (some (.int r)) z' .ireturn True) {N : Nat}  (x0 : Nat) (x1 : Int32) (x2 : Int32) (s0 : Nat) (s1 : Int32) (hx0 : (19, x0) ∈ ids) (hs0 : (19, s0) ∈ ids) {z : St} {H : Heap} {locs : List Loc} {ls : Array Slot} (hr : zRep D cy B ids A s.heap z H locs) (hl : lv_has ls 3 [(0, .ref (B 19 x0)), (1, .int x1), (2, .int x2)]) (h : fX19_shouldCost_22 N x0 x1 x2 s0 s1 z = some (r, z')) : W p l e rmX19_shouldCost s m args below meth c H locs 0 0 Q (F0 m 22 ls [.int s1, .ref (B 19 s0)]) := by
  unfold fX19_shouldCost_22 at h
  refine lv_iconst (v := (0 : Int32)) F.1 F.2.1 dX19_shouldCost_22 (by decide) ?_
  replace h := zc_some h
  obtain ⟨r1, z2, hc3, h⟩ := h
  refine zr_calli (zrun_V (As := [.int s1, .int (0 : Int32)]) (rest := []) zq_2402 zq_2404 zs_X19_fails zq_2405 zq_4 hdX19_fails (by decide) (T := TX19) (N := 32) rfl (okX19_fails l D cy B ids hst N s0 hs0 s1  (0 : Int32)  hr.2.2 hc3) F hr hs0 hl.1 rfl (by decide) dX19_shouldCost_23 rfl rfl hroX19_shouldCost_X19_fails ⟨Nat.zero_le _, Nat.zero_le _⟩) F hA hr (fun H locs hw4 hr => ?_)
  clear hc3
  refine lv_if_eq (tgt := 31) F.1 F.2.1 dX19_shouldCost_26 (by decide) (fun c5 => ?_) (fun c5 => ?_)
  · replace h := zi_t c5 h
    refine lv_aload_n F.1 F.2.1 dX19_shouldCost_31 rfl (lv_at hl 0 rfl) ?_
    refine lv_iload_n F.1 F.2.1 dX19_shouldCost_32 rfl (lv_at hl 1 rfl) ?_
    replace h := zc_some h
    obtain ⟨r6, z7, hc8, h⟩ := h
    refine zr_callv (zrun_V (As := [.int x1]) (rest := []) zq_3105 zq_3107 zs_X19_fromAbove zq_3108 zq_4 hdX19_fromAbove (by decide) (T := TX19) (N := 32) rfl (okX19_fromAbove l D cy B ids hst N x0 hx0 x1  hr.2.2 hc8) F hr hx0 hl.1 rfl (by decide) dX19_shouldCost_33 rfl rfl hroX19_shouldCost_X19_fromAbove ⟨Nat.zero_le _, Nat.zero_le _⟩) F hA hr (fun H locs hw9 hr => ?_)
    clear hc8
    refine lv_aload_n F.1 F.2.1 dX19_shouldCost_36 rfl (lv_at hl 0 rfl) ?_
    refine lv_iload_n F.1 F.2.1 dX19_shouldCost_37 rfl (lv_at hl 1 rfl) ?_
    refine lv_iload_n F.1 F.2.1 dX19_shouldCost_38 rfl (lv_at hl 2 rfl) ?_
    replace h := zc_some h
    obtain ⟨r10, z11, hc12, h⟩ := h
    refine zr_calli (zrun_V (As := [.int x1, .int x2]) (rest := []) zq_3113 zq_3115 zs_X19_costAbove zq_3116 zq_4 hdX19_costAbove (by decide) (T := TX19) (N := 32) rfl (okX19_costAbove l D cy B ids hst N x0 hx0 x1  x2  hr.2.2 hc12) F hr hx0 hl.1 rfl (by decide) dX19_shouldCost_39 rfl rfl hroX19_shouldCost_X19_costAbove ⟨Nat.zero_le _, Nat.zero_le _⟩) F hA hr (fun H locs hw13 hr => ?_)
    clear hc12
    obtain ⟨rfl, rfl⟩ := zret h
    exact E _ _ _ _ dX19_shouldCost_42 trivial hr
  · replace h := zi_f c5 h
    refine lv_iconst (v := (0 : Int32)) F.1 F.2.1 dX19_shouldCost_29 (by decide) ?_
    obtain ⟨rfl, rfl⟩ := zret h
    exact E _ _ _ _ dX19_shouldCost_30 trivial hr
def fX19_shouldCost_17 (N : Nat)  (x0 : Nat) (x1 : Int32) (x2 : Int32) (s0 : Nat) (z : St) : Option (Int32 × St) := fX19_shouldCost_22 N x0 x1 x2 s0 (1 : Int32) z
set_option maxHeartbeats 4000000 in
set_option maxRecDepth 100000 in
theorem bX19_shouldCost_17 (hst : zSt B ids) (F : zFx p m c cX19_shouldCost 3 s args RX19 D cy B ids A) (hA : ∀ q : Nat, s.heap.size ≤ q → A q) {r : Int32} {z' : St} (E : zEnd p l e rmX19_shouldCost s m args below meth c cX19_shouldCost D cy B ids A Q (some (.int r)) z' .ireturn True) {N : Nat}  (x0 : Nat) (x1 : Int32) (x2 : Int32) (s0 : Nat) (hx0 : (19, x0) ∈ ids) (hs0 : (19, s0) ∈ ids) {z : St} {H : Heap} {locs : List Loc} {ls : Array Slot} (hr : zRep D cy B ids A s.heap z H locs) (hl : lv_has ls 3 [(0, .ref (B 19 x0)), (1, .int x1), (2, .int x2)]) (h : fX19_shouldCost_17 N x0 x1 x2 s0 z = some (r, z')) : W p l e rmX19_shouldCost s m args below meth c H locs 0 0 Q (F0 m 17 ls [.ref (B 19 s0)]) := by
  unfold fX19_shouldCost_17 at h
  refine lv_iconst (v := (1 : Int32)) F.1 F.2.1 dX19_shouldCost_17 (by decide) ?_
  refine lv_goto (tgt := 22) F.1 F.2.1 dX19_shouldCost_18 (by decide) ?_
  exact bX19_shouldCost_22 hst F hA E  x0 x1 x2 s0 (1 : Int32) hx0 hs0 hr (lv_sub hl [0, 1, 2] rfl) h
def fX19_shouldCost (N : Nat)  (x0 : Nat) (x1 : Int32) (x2 : Int32) (z : St) : Option (Int32 × St) := zc (fX19_isRouter N x0 x1 z) fun r1 z2 => if r1 = 0 then (fX19_shouldCost_17 N x0 x1 x2 x0 z2) else (zc (fX19_isNet N x0 x2 z2) fun r6 z7 => if ¬ r6 = 0 then (fX19_shouldCost_22 N x0 x1 x2 x0 (0 : Int32) z7) else (fX19_shouldCost_17 N x0 x1 x2 x0 z7))
set_option maxHeartbeats 4000000 in
set_option maxRecDepth 100000 in
theorem bX19_shouldCost_0 (hst : zSt B ids) (F : zFx p m c cX19_shouldCost 3 s args RX19 D cy B ids A) (hA : ∀ q : Nat, s.heap.size ≤ q → A q) {r : Int32} {z' : St} (E : zEnd p l e rmX19_shouldCost s m args below meth c cX19_shouldCost D cy B ids A Q (some (.int r)) z' .ireturn True) {N : Nat}  (x0 : Nat) (x1 : Int32) (x2 : Int32) (hx0 : (19, x0) ∈ ids) {z : St} {H : Heap} {locs : List Loc} {ls : Array Slot} (hr : zRep D cy B ids A s.heap z H locs) (hl : lv_has ls 3 [(0, .ref (B 19 x0)), (1, .int x1), (2, .int x2)]) (h : fX19_shouldCost N x0 x1 x2 z = some (r, z')) : W p l e rmX19_shouldCost s m args below meth c H locs 0 0 Q (F0 m 0 ls []) := by
  unfold fX19_shouldCost at h
  refine lv_aload_n F.1 F.2.1 dX19_shouldCost_0 rfl (lv_at hl 0 rfl) ?_
  refine lv_aload_n F.1 F.2.1 dX19_shouldCost_1 rfl (lv_at hl 0 rfl) ?_
  refine lv_iload_n F.1 F.2.1 dX19_shouldCost_2 rfl (lv_at hl 1 rfl) ?_
  replace h := zc_some h
  obtain ⟨r1, z2, hc3, h⟩ := h
  refine zr_calli (zrun_V (As := [.int x1]) (rest := [.ref (B 19 x0)]) zq_2529 zq_2531 zs_X19_isRouter zq_2532 zq_4 hdX19_isRouter (by decide) (T := TX19) (N := 32) rfl (okX19_isRouter l D cy B ids hst N x0 hx0 x1  hr.2.2 hc3) F hr hx0 hl.1 rfl (Nat.le_of_ble_eq_true rfl) dX19_shouldCost_3 rfl rfl hroX19_shouldCost_X19_isRouter ⟨Nat.zero_le _, Nat.zero_le _⟩) F hA hr (fun H locs hw4 hr => ?_)
  clear hc3
  refine lv_if_eq (tgt := 17) F.1 F.2.1 dX19_shouldCost_6 (by decide) (fun c5 => ?_) (fun c5 => ?_)
  · replace h := zi_t c5 h
    exact bX19_shouldCost_17 hst F hA E  x0 x1 x2 x0 hx0 hx0 hr (lv_sub hl [0, 1, 2] rfl) h
  · replace h := zi_f c5 h
    refine lv_aload_n F.1 F.2.1 dX19_shouldCost_9 rfl (lv_at hl 0 rfl) ?_
    refine lv_iload_n F.1 F.2.1 dX19_shouldCost_10 rfl (lv_at hl 2 rfl) ?_
    replace h := zc_some h
    obtain ⟨r6, z7, hc8, h⟩ := h
    refine zr_calli (zrun_V (As := [.int x2]) (rest := [.ref (B 19 x0)]) zq_2455 zq_2457 zs_X19_isNet zq_2458 zq_4 hdX19_isNet (by decide) (T := TX19) (N := 32) rfl (okX19_isNet l D cy B ids hst N x0 hx0 x2  hr.2.2 hc8) F hr hx0 hl.1 rfl (Nat.le_of_ble_eq_true rfl) dX19_shouldCost_11 rfl rfl hroX19_shouldCost_X19_isNet ⟨Nat.zero_le _, Nat.zero_le _⟩) F hA hr (fun H locs hw9 hr => ?_)
    clear hc8
    refine lv_if_ne (tgt := 21) F.1 F.2.1 dX19_shouldCost_14 (by decide) (fun c10 => ?_) (fun c10 => ?_)
    · replace h := zi_t c10 h
      refine lv_iconst (v := (0 : Int32)) F.1 F.2.1 dX19_shouldCost_21 (by decide) ?_
      exact bX19_shouldCost_22 hst F hA E  x0 x1 x2 x0 (0 : Int32) hx0 hx0 hr (lv_sub hl [0, 1, 2] rfl) h
    · replace h := zi_f (fun q => q c10) h
      exact bX19_shouldCost_17 hst F hA E  x0 x1 x2 x0 hx0 hx0 hr (lv_sub hl [0, 1, 2] rfl) h
end SX19_shouldCost
set_option maxRecDepth 100000 in
theorem okX19_shouldCost (l : Launch) (D : va_G) (cy : Nat → ClassId) (B : Nat → Nat → Nat) (ids : List (Nat × Nat)) (hst : zSt B ids) (N : Nat) (x0 : Nat) (hx0 : (19, x0) ∈ ids) (x1 : Int32) (x2 : Int32) {z : St} {r : Int32} {z' : St} (hW : zWf ids z) (h : fX19_shouldCost N x0 x1 x2 z = some (r, z')) : zM l yX19_shouldCost (zws yX19_shouldCost cX19_shouldCost 3 (some .int)) rmX19_shouldCost D cy B ids [.ref (B 19 x0), .int x1, .int x2] (some (.int r)) True z z' :=
  zM_of hst hW (by decide +kernel) (Nat.le_of_ble_eq_true rfl) (fun p e s m args below meth c A ls F hA hret hlocks hr hl => bX19_shouldCost_0 hst F hA (zEnd_i F hret hlocks) x0 x1 x2 hx0 hr hl h)
abbrev rmX19_boundNow : Room := { frames := 0, cells := 0, slots := 0, locals := 0 }
theorem hdX19_boundNow : yX19_boundNow.cls ≠ "java/lang/invoke/MethodHandle" ∧ yX19_boundNow.cls ≠ "java/lang/invoke/VarHandle" ∧ (parseMethodDescriptor yX19_boundNow.desc).map (fun d => d.parameters.length) = some 0 := by decide +kernel
section SX19_boundNow
variable {p : Program} {l : Launch} {e : Env} {s : State} {m : MethodId} {args : Array Value} {below : List Frame} {meth : Method} {c : Code} {Q : State → Prop} {D : va_G} {cy : Nat → ClassId} {B : Nat → Nat → Nat} {ids : List (Nat × Nat)} {A : Nat → Prop}
def fX19_boundNow_38 (N : Nat) (K4 : Nat → Int32 → Int32 → St → Option (Int32 × St)) (x0 : Nat) (x2 : Int32) (s0 : Int32) (z : St) : Option (Int32 × St) := zl (x2 + 1) fun v1 => K4 x0 s0 v1 z
set_option maxHeartbeats 4000000 in
set_option maxRecDepth 100000 in
theorem bX19_boundNow_38 (hst : zSt B ids) (F : zFx p m c cX19_boundNow 3 s args RX19 D cy B ids A) (hA : ∀ q : Nat, s.heap.size ≤ q → A q) {r : Int32} {z' : St} (E : zEnd p l e rmX19_boundNow s m args below meth c cX19_boundNow D cy B ids A Q (some (.int r)) z' .ireturn True) {N : Nat} {K4 : Nat → Int32 → Int32 → St → Option (Int32 × St)} (hK4 : ∀ (x0 : Nat) (x1 : Int32) (x2 : Int32) (hx0 : (19, x0) ∈ ids) {z : St} {H : Heap} {locs : List Loc} {ls : Array Slot} (hr : zRep D cy B ids A s.heap z H locs) (hl : lv_has ls 3 [(0, .ref (B 19 x0)), (1, .int x1), (2, .int x2)]), K4 x0 x1 x2 z = some (r, z') → W p l e rmX19_boundNow s m args below meth c H locs 0 0 Q (F0 m 4 ls [])) (x0 : Nat) (x2 : Int32) (s0 : Int32) (hx0 : (19, x0) ∈ ids) {z : St} {H : Heap} {locs : List Loc} {ls : Array Slot} (hr : zRep D cy B ids A s.heap z H locs) (hl : lv_has ls 3 [(0, .ref (B 19 x0)), (2, .int x2)]) (h : fX19_boundNow_38 N K4 x0 x2 s0 z = some (r, z')) : W p l e rmX19_boundNow s m args below meth c H locs 0 0 Q (F0 m 38 ls [.int s0]) := by
  unfold fX19_boundNow_38 at h
  refine lv_istore_n (lv' := [(1, .int s0), (0, .ref (B 19 x0)), (2, .int x2)]) F.1 F.2.1 dX19_boundNow_38 rfl hl (by decide) rfl (fun ls hl => ?_)
  obtain ⟨v1, ev1⟩ : ∃ y : Int32, y = (x2 + 1) := ⟨_, rfl⟩
  replace h := zl_sub ev1 h
  refine lv_iinc (v := v1) (lv' := [(2, .int v1), (1, .int s0), (0, .ref (B 19 x0))]) F.1 F.2.1 dX19_boundNow_39 hl (k := 2) rfl (by rw [ev1]; rfl) (by decide) rfl (fun ls hl => ?_)
  refine lv_goto (tgt := 4) F.1 F.2.1 dX19_boundNow_42 (by decide) ?_
  exact hK4 x0 s0 v1 hx0 hr (lv_sub hl [2, 1, 0] rfl) h
def fX19_boundNow_4b (N : Nat) (K4 : Nat → Int32 → Int32 → St → Option (Int32 × St)) (x0 : Nat) (x1 : Int32) (x2 : Int32) (z : St) : Option (Int32 × St) := if (zgI z 19 21 x0) ≤ x2 then (some (((((100 : Int32) + ((4 : Int32) * x1)) + ((2 : Int32) * ((11 : Int32) + ((zgI z 19 19 x0) * ((17 : Int32) + ((3 : Int32) * x1)))))) + ((40 : Int32) * ((1200 : Int32) + (((6 : Int32) * ((zgI z 19 19 x0) + (2 : Int32))) * x1)))), z)) else (zk x2 24 <| zl (zgQ z 187 x0 (Int32.toNatClampNeg x2)) fun y3 => zd y3 fun a4 => if (zgI z 16 2 a4) ≤ x1 then (fX19_boundNow_38 N K4 x0 x2 x1 z) else (zk x2 24 <| zl (zgQ z 187 x0 (Int32.toNatClampNeg x2)) fun y7 => zd y7 fun a8 => fX19_boundNow_38 N K4 x0 x2 (zgI z 16 2 a8) z))
def fX19_boundNow_4 (N : Nat)  : Nat → Nat → Int32 → Int32 → St → Option (Int32 × St)
  | 0 => fun _ _ _ _ => none
  | n + 1 => fX19_boundNow_4b N (fX19_boundNow_4 N  n)
set_option maxHeartbeats 4000000 in
set_option maxRecDepth 100000 in
theorem bX19_boundNow_4 (hst : zSt B ids) (F : zFx p m c cX19_boundNow 3 s args RX19 D cy B ids A) (hA : ∀ q : Nat, s.heap.size ≤ q → A q) {r : Int32} {z' : St} (E : zEnd p l e rmX19_boundNow s m args below meth c cX19_boundNow D cy B ids A Q (some (.int r)) z' .ireturn True) {N : Nat} {K4 : Nat → Int32 → Int32 → St → Option (Int32 × St)} (hK4 : ∀ (x0 : Nat) (x1 : Int32) (x2 : Int32) (hx0 : (19, x0) ∈ ids) {z : St} {H : Heap} {locs : List Loc} {ls : Array Slot} (hr : zRep D cy B ids A s.heap z H locs) (hl : lv_has ls 3 [(0, .ref (B 19 x0)), (1, .int x1), (2, .int x2)]), K4 x0 x1 x2 z = some (r, z') → W p l e rmX19_boundNow s m args below meth c H locs 0 0 Q (F0 m 4 ls [])) (x0 : Nat) (x1 : Int32) (x2 : Int32) (hx0 : (19, x0) ∈ ids) {z : St} {H : Heap} {locs : List Loc} {ls : Array Slot} (hr : zRep D cy B ids A s.heap z H locs) (hl : lv_has ls 3 [(0, .ref (B 19 x0)), (1, .int x1), (2, .int x2)]) (h : fX19_boundNow_4b N K4 x0 x1 x2 z = some (r, z')) : W p l e rmX19_boundNow s m args below meth c H locs 0 0 Q (F0 m 4 ls []) := by
  unfold fX19_boundNow_4b at h
  refine lv_iload_n F.1 F.2.1 dX19_boundNow_4 rfl (lv_at hl 2 rfl) ?_
  refine lv_aload_n F.1 F.2.1 dX19_boundNow_5 rfl (lv_at hl 0 rfl) ?_
  refine gf19_270 F hx0 hr dX19_boundNow_6 ?_
  refine lv_icmp_ge (tgt := 45) F.1 F.2.1 dX19_boundNow_9 (by decide) (fun c1 => ?_) (fun c1 => ?_)
  · replace h := zi_t c1 h
    refine lv_bipush (v := (100 : Int32)) F.1 F.2.1 dX19_boundNow_45 (by decide) ?_
    refine lv_iconst (v := (4 : Int32)) F.1 F.2.1 dX19_boundNow_47 (by decide) ?_
    refine lv_iload_n F.1 F.2.1 dX19_boundNow_48 rfl (lv_at hl 1 rfl) ?_
    refine lv_imul F.1 F.2.1 dX19_boundNow_49 ?_
    refine lv_iadd F.1 F.2.1 dX19_boundNow_50 ?_
    refine lv_iconst (v := (2 : Int32)) F.1 F.2.1 dX19_boundNow_51 (by decide) ?_
    refine lv_bipush (v := (11 : Int32)) F.1 F.2.1 dX19_boundNow_52 (by decide) ?_
    refine lv_aload_n F.1 F.2.1 dX19_boundNow_54 rfl (lv_at hl 0 rfl) ?_
    refine gf19_831 F hx0 hr dX19_boundNow_55 ?_
    refine lv_bipush (v := (17 : Int32)) F.1 F.2.1 dX19_boundNow_58 (by decide) ?_
    refine lv_iconst (v := (3 : Int32)) F.1 F.2.1 dX19_boundNow_60 (by decide) ?_
    refine lv_iload_n F.1 F.2.1 dX19_boundNow_61 rfl (lv_at hl 1 rfl) ?_
    refine lv_imul F.1 F.2.1 dX19_boundNow_62 ?_
    refine lv_iadd F.1 F.2.1 dX19_boundNow_63 ?_
    refine lv_imul F.1 F.2.1 dX19_boundNow_64 ?_
    refine lv_iadd F.1 F.2.1 dX19_boundNow_65 ?_
    refine lv_imul F.1 F.2.1 dX19_boundNow_66 ?_
    refine lv_iadd F.1 F.2.1 dX19_boundNow_67 ?_
    refine lv_bipush (v := (40 : Int32)) F.1 F.2.1 dX19_boundNow_68 (by decide) ?_
    refine lv_sipush (v := (1200 : Int32)) F.1 F.2.1 dX19_boundNow_70 (by decide) ?_
    refine lv_bipush (v := (6 : Int32)) F.1 F.2.1 dX19_boundNow_73 (by decide) ?_
    refine lv_aload_n F.1 F.2.1 dX19_boundNow_75 rfl (lv_at hl 0 rfl) ?_
    refine gf19_831 F hx0 hr dX19_boundNow_76 ?_
    refine lv_iconst (v := (2 : Int32)) F.1 F.2.1 dX19_boundNow_79 (by decide) ?_
    refine lv_iadd F.1 F.2.1 dX19_boundNow_80 ?_
    refine lv_imul F.1 F.2.1 dX19_boundNow_81 ?_
    refine lv_iload_n F.1 F.2.1 dX19_boundNow_82 rfl (lv_at hl 1 rfl) ?_
    refine lv_imul F.1 F.2.1 dX19_boundNow_83 ?_
    refine lv_iadd F.1 F.2.1 dX19_boundNow_84 ?_
    refine lv_imul F.1 F.2.1 dX19_boundNow_85 ?_
    refine lv_iadd F.1 F.2.1 dX19_boundNow_86 ?_
    obtain ⟨rfl, rfl⟩ := zret h
    exact E _ _ _ _ dX19_boundNow_87 trivial hr
  · replace h := zi_f c1 h
    refine lv_aload_n F.1 F.2.1 dX19_boundNow_12 rfl (lv_at hl 0 rfl) ?_
    refine gf19_120 F hx0 hr dX19_boundNow_13 ?_
    refine lv_iload_n F.1 F.2.1 dX19_boundNow_16 rfl (lv_at hl 2 rfl) ?_
    replace h := zk_some h
    obtain ⟨c2, h⟩ := h
    refine zr_aaldv (k := 187) (by decide) rfl rfl (zlen_d (by decide)) F (zal_a F hx0 (j := 20) rfl) hr dX19_boundNow_17 c2 (fun y3 ey3 => ?_)
    replace h := zl_sub ey3 h
    have hy3 := zal_q hr (zal_a F hx0 (j := 20) rfl) rfl ey3
    clear ey3
    replace h := zd_some h
    obtain ⟨a4, rfl, h⟩ := h
    refine gf19_174 F (hy3 _ rfl) hr dX19_boundNow_18 ?_
    refine lv_iload_n F.1 F.2.1 dX19_boundNow_21 rfl (lv_at hl 1 rfl) ?_
    refine lv_icmp_le (tgt := 37) F.1 F.2.1 dX19_boundNow_22 (by decide) (fun c5 => ?_) (fun c5 => ?_)
    · replace h := zi_t c5 h
      refine lv_iload_n F.1 F.2.1 dX19_boundNow_37 rfl (lv_at hl 1 rfl) ?_
      exact bX19_boundNow_38 hst F hA E hK4 x0 x2 x1 hx0 hr (lv_sub hl [0, 2] rfl) h
    · replace h := zi_f c5 h
      refine lv_aload_n F.1 F.2.1 dX19_boundNow_25 rfl (lv_at hl 0 rfl) ?_
      refine gf19_120 F hx0 hr dX19_boundNow_26 ?_
      refine lv_iload_n F.1 F.2.1 dX19_boundNow_29 rfl (lv_at hl 2 rfl) ?_
      replace h := zk_some h
      obtain ⟨c6, h⟩ := h
      refine zr_aaldv (k := 187) (by decide) rfl rfl (zlen_d (by decide)) F (zal_a F hx0 (j := 20) rfl) hr dX19_boundNow_30 c6 (fun y7 ey7 => ?_)
      replace h := zl_sub ey7 h
      have hy7 := zal_q hr (zal_a F hx0 (j := 20) rfl) rfl ey7
      clear ey7
      replace h := zd_some h
      obtain ⟨a8, rfl, h⟩ := h
      refine gf19_174 F (hy7 _ rfl) hr dX19_boundNow_31 ?_
      refine lv_goto (tgt := 38) F.1 F.2.1 dX19_boundNow_34 (by decide) ?_
      exact bX19_boundNow_38 hst F hA E hK4 x0 x2 (zgI z 16 2 a8) hx0 hr (lv_sub hl [0, 2] rfl) h
theorem lX19_boundNow_4 (hst : zSt B ids) (F : zFx p m c cX19_boundNow 3 s args RX19 D cy B ids A) (hA : ∀ q : Nat, s.heap.size ≤ q → A q) {r : Int32} {z' : St} (E : zEnd p l e rmX19_boundNow s m args below meth c cX19_boundNow D cy B ids A Q (some (.int r)) z' .ireturn True) {N : Nat}  : ∀ (n : Nat) (x0 : Nat) (x1 : Int32) (x2 : Int32) (hx0 : (19, x0) ∈ ids) {z : St} {H : Heap} {locs : List Loc} {ls : Array Slot} (hr : zRep D cy B ids A s.heap z H locs) (hl : lv_has ls 3 [(0, .ref (B 19 x0)), (1, .int x1), (2, .int x2)]), fX19_boundNow_4 N  n x0 x1 x2 z = some (r, z') → W p l e rmX19_boundNow s m args below meth c H locs 0 0 Q (F0 m 4 ls []) := by
  intro n
  induction n with
  | zero => intro x0 x1 x2 hx0 z H locs ls hr hl h; cases h
  | succ n ih => intro x0 x1 x2 hx0 z H locs ls hr hl h; exact bX19_boundNow_4 hst F hA E ih x0 x1 x2 hx0 hr hl h
def fX19_boundNow (N : Nat)  (x0 : Nat) (z : St) : Option (Int32 × St) := fX19_boundNow_4 N N x0 (1 : Int32) (0 : Int32) z
set_option maxHeartbeats 4000000 in
set_option maxRecDepth 100000 in
theorem bX19_boundNow_0 (hst : zSt B ids) (F : zFx p m c cX19_boundNow 3 s args RX19 D cy B ids A) (hA : ∀ q : Nat, s.heap.size ≤ q → A q) {r : Int32} {z' : St} (E : zEnd p l e rmX19_boundNow s m args below meth c cX19_boundNow D cy B ids A Q (some (.int r)) z' .ireturn True) {N : Nat}  (x0 : Nat) (hx0 : (19, x0) ∈ ids) {z : St} {H : Heap} {locs : List Loc} {ls : Array Slot} (hr : zRep D cy B ids A s.heap z H locs) (hl : lv_has ls 3 [(0, .ref (B 19 x0))]) (h : fX19_boundNow N x0 z = some (r, z')) : W p l e rmX19_boundNow s m args below meth c H locs 0 0 Q (F0 m 0 ls []) := by
  unfold fX19_boundNow at h
  refine lv_iconst (v := (1 : Int32)) F.1 F.2.1 dX19_boundNow_0 (by decide) ?_
  refine lv_istore_n (lv' := [(1, .int (1 : Int32)), (0, .ref (B 19 x0))]) F.1 F.2.1 dX19_boundNow_1 rfl hl (by decide) rfl (fun ls hl => ?_)
  refine lv_iconst (v := (0 : Int32)) F.1 F.2.1 dX19_boundNow_2 (by decide) ?_
  refine lv_istore_n (lv' := [(2, .int (0 : Int32)), (1, .int (1 : Int32)), (0, .ref (B 19 x0))]) F.1 F.2.1 dX19_boundNow_3 rfl hl (by decide) rfl (fun ls hl => ?_)
  exact lX19_boundNow_4 hst F hA E  _ x0 (1 : Int32) (0 : Int32) hx0 hr (lv_sub hl [2, 1, 0] rfl) h
end SX19_boundNow
set_option maxRecDepth 100000 in
theorem okX19_boundNow (l : Launch) (D : va_G) (cy : Nat → ClassId) (B : Nat → Nat → Nat) (ids : List (Nat × Nat)) (hst : zSt B ids) (N : Nat) (x0 : Nat) (hx0 : (19, x0) ∈ ids) {z : St} {r : Int32} {z' : St} (hW : zWf ids z) (h : fX19_boundNow N x0 z = some (r, z')) : zM l yX19_boundNow (zws yX19_boundNow cX19_boundNow 3 (some .int)) rmX19_boundNow D cy B ids [.ref (B 19 x0)] (some (.int r)) True z z' :=
  zM_of hst hW (by decide +kernel) (Nat.le_of_ble_eq_true rfl) (fun p e s m args below meth c A ls F hA hret hlocks hr hl => bX19_boundNow_0 hst F hA (zEnd_i F hret hlocks) x0 hx0 hr hl h)
abbrev rmX19_bound : Room := { frames := 1, cells := 0, slots := 0, locals := 22 }
theorem hdX19_bound : yX19_bound.cls ≠ "java/lang/invoke/MethodHandle" ∧ yX19_bound.cls ≠ "java/lang/invoke/VarHandle" ∧ (parseMethodDescriptor yX19_bound.desc).map (fun d => d.parameters.length) = some 0 := by decide +kernel
theorem hroX19_bound_X19_boundNow : rmX19_boundNow.frames + 1 ≤ rmX19_bound.frames ∧ 8 + (3 + 11) + rmX19_boundNow.locals ≤ rmX19_bound.locals := by decide
section SX19_bound
variable {p : Program} {l : Launch} {e : Env} {s : State} {m : MethodId} {args : Array Value} {below : List Frame} {meth : Method} {c : Code} {Q : State → Prop} {D : va_G} {cy : Nat → ClassId} {B : Nat → Nat → Nat} {ids : List (Nat × Nat)} {A : Nat → Prop}
def fX19_bound (N : Nat)  (x0 : Nat) (z : St) : Option (Int32 × St) := zl (zsI z 19 25 x0 (0 : Int32)) fun z1 => zc (fX19_boundNow N x0 z1) fun r2 z3 => some (r2, z3)
set_option maxHeartbeats 4000000 in
set_option maxRecDepth 100000 in
theorem bX19_bound_0 (hst : zSt B ids) (F : zFx p m c cX19_bound 1 s args RX19 D cy B ids A) (hA : ∀ q : Nat, s.heap.size ≤ q → A q) {r : Int32} {z' : St} (E : zEnd p l e rmX19_bound s m args below meth c cX19_bound D cy B ids A Q (some (.int r)) z' .ireturn True) {N : Nat}  (x0 : Nat) (hx0 : (19, x0) ∈ ids) {z : St} {H : Heap} {locs : List Loc} {ls : Array Slot} (hr : zRep D cy B ids A s.heap z H locs) (hl : lv_has ls 1 [(0, .ref (B 19 x0))]) (h : fX19_bound N x0 z = some (r, z')) : W p l e rmX19_bound s m args below meth c H locs 0 0 Q (F0 m 0 ls []) := by
  unfold fX19_bound at h
  refine lv_aload_n F.1 F.2.1 dX19_bound_0 rfl (lv_at hl 0 rfl) ?_
  refine lv_iconst (v := (0 : Int32)) F.1 F.2.1 dX19_bound_1 (by decide) ?_
  refine pf19_140 F hx0 hr dX19_bound_2 (0 : Int32) (fun H locs z1 ez1 hr => ?_)
  replace h := zl_sub ez1 h
  clear ez1
  refine lv_aload_n F.1 F.2.1 dX19_bound_5 rfl (lv_at hl 0 rfl) ?_
  replace h := zc_some h
  obtain ⟨r2, z3, hc4, h⟩ := h
  refine zr_calli (zrun_V (As := []) (rest := []) zq_3121 zq_3123 zs_X19_boundNow zq_3124 zq_4 hdX19_boundNow (by decide) (T := TX19) (N := 32) rfl (okX19_boundNow l D cy B ids hst N x0 hx0 hr.2.2 hc4) F hr hx0 hl.1 rfl (by decide) dX19_bound_6 rfl rfl hroX19_bound_X19_boundNow ⟨Nat.zero_le _, Nat.zero_le _⟩) F hA hr (fun H locs hw5 hr => ?_)
  clear hc4
  obtain ⟨rfl, rfl⟩ := zret h
  exact E _ _ _ _ dX19_bound_9 trivial hr
end SX19_bound
set_option maxRecDepth 100000 in
theorem okX19_bound (l : Launch) (D : va_G) (cy : Nat → ClassId) (B : Nat → Nat → Nat) (ids : List (Nat × Nat)) (hst : zSt B ids) (N : Nat) (x0 : Nat) (hx0 : (19, x0) ∈ ids) {z : St} {r : Int32} {z' : St} (hW : zWf ids z) (h : fX19_bound N x0 z = some (r, z')) : zM l yX19_bound (zws yX19_bound cX19_bound 1 (some .int)) rmX19_bound D cy B ids [.ref (B 19 x0)] (some (.int r)) True z z' :=
  zM_of hst hW (by decide +kernel) (Nat.le_of_ble_eq_true rfl) (fun p e s m args below meth c A ls F hA hret hlocks hr hl => bX19_bound_0 hst F hA (zEnd_i F hret hlocks) x0 hx0 hr hl h)
abbrev rmX19_drain : Room := { frames := 4, cells := 0, slots := 0, locals := 86 }
theorem hdX19_drain : yX19_drain.cls ≠ "java/lang/invoke/MethodHandle" ∧ yX19_drain.cls ≠ "java/lang/invoke/VarHandle" ∧ (parseMethodDescriptor yX19_drain.desc).map (fun d => d.parameters.length) = some 3 := by decide +kernel
theorem hroX19_drain_X19_endAt : rmX19_endAt.frames + 1 ≤ rmX19_drain.frames ∧ 8 + (3 + 11) + rmX19_endAt.locals ≤ rmX19_drain.locals := by decide
theorem hroX19_drain_X19_fails : rmX19_fails.frames + 1 ≤ rmX19_drain.frames ∧ 8 + (3 + 11) + rmX19_fails.locals ≤ rmX19_drain.locals := by decide
theorem hroX19_drain_X19_isDoor : rmX19_isDoor.frames + 1 ≤ rmX19_drain.frames ∧ 8 + (3 + 11) + rmX19_isDoor.locals ≤ rmX19_drain.locals := by decide
section SX19_drain
variable {p : Program} {l : Launch} {e : Env} {s : State} {m : MethodId} {args : Array Value} {below : List Frame} {meth : Method} {c : Code} {Q : State → Prop} {D : va_G} {cy : Nat → ClassId} {B : Nat → Nat → Nat} {ids : List (Nat × Nat)} {A : Nat → Prop}
def fX19_drain_29 (N : Nat)  (x0 : Nat) (x1 : Int32) (x2 : Int32) (x3 : Int32) (s0 : Nat) (s1 : Int32) (s2 : Int32) (z : St) : Option (Int32 × St) := zc (fX19_fails N s0 s1 s2 z) fun r1 z2 => if ¬ r1 = 0 then (some (0, z2)) else (zk x1 16 <| zl (zgQ z2 186 x0 (Int32.toNatClampNeg x1)) fun y7 => zd y7 fun a8 => zk x2 6 <| zl (zgQ z2 158 a8 (Int32.toNatClampNeg x2)) fun y10 => zd y10 fun a11 => zq (x3 = 0 ∨ x3 = 1) <| zl (zsI z2 13 8 a11 x3) fun z12 => some (0, z12))
set_option maxHeartbeats 4000000 in
set_option maxRecDepth 100000 in
theorem bX19_drain_29 (hst : zSt B ids) (F : zFx p m c cX19_drain 4 s args RX19 D cy B ids A) (hA : ∀ q : Nat, s.heap.size ≤ q → A q) {r : Int32} {z' : St} (E : zEnd p l e rmX19_drain s m args below meth c cX19_drain D cy B ids A Q none z' .return_ True) {N : Nat}  (x0 : Nat) (x1 : Int32) (x2 : Int32) (x3 : Int32) (s0 : Nat) (s1 : Int32) (s2 : Int32) (hx0 : (19, x0) ∈ ids) (hs0 : (19, s0) ∈ ids) {z : St} {H : Heap} {locs : List Loc} {ls : Array Slot} (hr : zRep D cy B ids A s.heap z H locs) (hl : lv_has ls 4 [(0, .ref (B 19 x0)), (1, .int x1), (2, .int x2), (3, .int x3)]) (h : fX19_drain_29 N x0 x1 x2 x3 s0 s1 s2 z = some (r, z')) : W p l e rmX19_drain s m args below meth c H locs 0 0 Q (F0 m 29 ls [.int s2, .int s1, .ref (B 19 s0)]) := by
  unfold fX19_drain_29 at h
  replace h := zc_some h
  obtain ⟨r1, z2, hc3, h⟩ := h
  refine zr_calli (zrun_V (As := [.int s1, .int s2]) (rest := []) zq_2402 zq_2404 zs_X19_fails zq_2405 zq_4 hdX19_fails (by decide) (T := TX19) (N := 32) rfl (okX19_fails l D cy B ids hst N s0 hs0 s1  s2  hr.2.2 hc3) F hr hs0 hl.1 rfl (by decide) dX19_drain_29 rfl rfl hroX19_drain_X19_fails ⟨Nat.zero_le _, Nat.zero_le _⟩) F hA hr (fun H locs hw4 hr => ?_)
  clear hc3
  refine lv_if_ne (tgt := 50) F.1 F.2.1 dX19_drain_32 (by decide) (fun c5 => ?_) (fun c5 => ?_)
  · replace h := zi_t c5 h
    obtain ⟨rfl, rfl⟩ := zret h
    exact E _ _ _ _ dX19_drain_50 trivial hr
  · replace h := zi_f (fun q => q c5) h
    refine lv_aload_n F.1 F.2.1 dX19_drain_35 rfl (lv_at hl 0 rfl) ?_
    refine gf19_114 F hx0 hr dX19_drain_36 ?_
    refine lv_iload_n F.1 F.2.1 dX19_drain_39 rfl (lv_at hl 1 rfl) ?_
    replace h := zk_some h
    obtain ⟨c6, h⟩ := h
    refine zr_aaldv (k := 186) (by decide) rfl rfl (zlen_d (by decide)) F (zal_a F hx0 (j := 18) rfl) hr dX19_drain_40 c6 (fun y7 ey7 => ?_)
    replace h := zl_sub ey7 h
    have hy7 := zal_q hr (zal_a F hx0 (j := 18) rfl) rfl ey7
    clear ey7
    replace h := zd_some h
    obtain ⟨a8, rfl, h⟩ := h
    refine gf19_340 F (hy7 _ rfl) hr dX19_drain_41 ?_
    refine lv_iload_n F.1 F.2.1 dX19_drain_44 rfl (lv_at hl 2 rfl) ?_
    replace h := zk_some h
    obtain ⟨c9, h⟩ := h
    refine zr_aaldv (k := 158) (by decide) rfl rfl (zlen_d (by decide)) F (zal_a F (hy7 _ rfl) (j := 28) rfl) hr dX19_drain_45 c9 (fun y10 ey10 => ?_)
    replace h := zl_sub ey10 h
    have hy10 := zal_q hr (zal_a F (hy7 _ rfl) (j := 28) rfl) rfl ey10
    clear ey10
    refine lv_iload_n F.1 F.2.1 dX19_drain_46 rfl (lv_at hl 3 rfl) ?_
    replace h := zd_some h
    obtain ⟨a11, rfl, h⟩ := h
    replace h := zq_some h
    obtain ⟨c13, h⟩ := h
    refine pf19_770 F (hy10 _ rfl) hr dX19_drain_47 x3 c13 (fun H locs z12 ez12 hr => ?_)
    replace h := zl_sub ez12 h
    clear ez12
    obtain ⟨rfl, rfl⟩ := zret h
    exact E _ _ _ _ dX19_drain_50 trivial hr
def fX19_drain_15 (N : Nat)  (x0 : Nat) (x1 : Int32) (x2 : Int32) (x3 : Int32) (s0 : Nat) (s1 : Int32) (z : St) : Option (Int32 × St) := zc (fX19_endAt N x0 x1 x2 z) fun r1 z2 => zo r1 (fX19_drain_29 N x0 x1 x2 x3 s0 s1 (1 : Int32) z2) fun a6 => fX19_drain_29 N x0 x1 x2 x3 s0 s1 (0 : Int32) z2
set_option maxHeartbeats 4000000 in
set_option maxRecDepth 100000 in
theorem bX19_drain_15 (hst : zSt B ids) (F : zFx p m c cX19_drain 4 s args RX19 D cy B ids A) (hA : ∀ q : Nat, s.heap.size ≤ q → A q) {r : Int32} {z' : St} (E : zEnd p l e rmX19_drain s m args below meth c cX19_drain D cy B ids A Q none z' .return_ True) {N : Nat}  (x0 : Nat) (x1 : Int32) (x2 : Int32) (x3 : Int32) (s0 : Nat) (s1 : Int32) (hx0 : (19, x0) ∈ ids) (hs0 : (19, s0) ∈ ids) {z : St} {H : Heap} {locs : List Loc} {ls : Array Slot} (hr : zRep D cy B ids A s.heap z H locs) (hl : lv_has ls 4 [(0, .ref (B 19 x0)), (1, .int x1), (2, .int x2), (3, .int x3)]) (h : fX19_drain_15 N x0 x1 x2 x3 s0 s1 z = some (r, z')) : W p l e rmX19_drain s m args below meth c H locs 0 0 Q (F0 m 15 ls [.int s1, .ref (B 19 s0)]) := by
  unfold fX19_drain_15 at h
  refine lv_aload_n F.1 F.2.1 dX19_drain_15 rfl (lv_at hl 0 rfl) ?_
  refine lv_iload_n F.1 F.2.1 dX19_drain_16 rfl (lv_at hl 1 rfl) ?_
  refine lv_iload_n F.1 F.2.1 dX19_drain_17 rfl (lv_at hl 2 rfl) ?_
  replace h := zc_some h
  obtain ⟨r1, z2, hc3, h⟩ := h
  refine zr_callr (zrun_V (As := [.int x1, .int x2]) (rest := [.int s1, .ref (B 19 s0)]) zq_3020 zq_3022 zs_X19_endAt zq_3023 zq_4 hdX19_endAt (by decide) (T := TX19) (N := 32) rfl (okX19_endAt l D cy B ids hst N x0 hx0 x1  x2  hr.2.2 hc3) F hr hx0 hl.1 rfl (Nat.le_of_ble_eq_true rfl) dX19_drain_18 rfl rfl hroX19_drain_X19_endAt ⟨Nat.zero_le _, Nat.zero_le _⟩) F hA hr (fun H locs hw4 hr => ?_)
  clear hc3
  refine zr_ifnonnull (tgt := 28) F.1 F.2.1 dX19_drain_21 (by decide) (fun e5 => ?_) (fun a6 e5 => ?_)
  · replace h := zo_n e5 h
    subst e5
    refine lv_iconst (v := (1 : Int32)) F.1 F.2.1 dX19_drain_24 (by decide) ?_
    refine lv_goto (tgt := 29) F.1 F.2.1 dX19_drain_25 (by decide) ?_
    exact bX19_drain_29 hst F hA E  x0 x1 x2 x3 s0 s1 (1 : Int32) hx0 hs0 hr (lv_sub hl [0, 1, 2, 3] rfl) h
  · replace h := zo_s e5 h
    subst e5
    refine lv_iconst (v := (0 : Int32)) F.1 F.2.1 dX19_drain_28 (by decide) ?_
    exact bX19_drain_29 hst F hA E  x0 x1 x2 x3 s0 s1 (0 : Int32) hx0 hs0 hr (lv_sub hl [0, 1, 2, 3] rfl) h
def fX19_drain (N : Nat)  (x0 : Nat) (x1 : Int32) (x2 : Int32) (x3 : Int32) (z : St) : Option (Int32 × St) := zc (fX19_isDoor N x0 x1 x2 z) fun r1 z2 => if ¬ r1 = 0 then (fX19_drain_15 N x0 x1 x2 x3 x0 (0 : Int32) z2) else (fX19_drain_15 N x0 x1 x2 x3 x0 (1 : Int32) z2)
set_option maxHeartbeats 4000000 in
set_option maxRecDepth 100000 in
theorem bX19_drain_0 (hst : zSt B ids) (F : zFx p m c cX19_drain 4 s args RX19 D cy B ids A) (hA : ∀ q : Nat, s.heap.size ≤ q → A q) {r : Int32} {z' : St} (E : zEnd p l e rmX19_drain s m args below meth c cX19_drain D cy B ids A Q none z' .return_ True) {N : Nat}  (x0 : Nat) (x1 : Int32) (x2 : Int32) (x3 : Int32) (hx0 : (19, x0) ∈ ids) {z : St} {H : Heap} {locs : List Loc} {ls : Array Slot} (hr : zRep D cy B ids A s.heap z H locs) (hl : lv_has ls 4 [(0, .ref (B 19 x0)), (1, .int x1), (2, .int x2), (3, .int x3)]) (h : fX19_drain N x0 x1 x2 x3 z = some (r, z')) : W p l e rmX19_drain s m args below meth c H locs 0 0 Q (F0 m 0 ls []) := by
  unfold fX19_drain at h
  refine lv_aload_n F.1 F.2.1 dX19_drain_0 rfl (lv_at hl 0 rfl) ?_
  refine lv_aload_n F.1 F.2.1 dX19_drain_1 rfl (lv_at hl 0 rfl) ?_
  refine lv_iload_n F.1 F.2.1 dX19_drain_2 rfl (lv_at hl 1 rfl) ?_
  refine lv_iload_n F.1 F.2.1 dX19_drain_3 rfl (lv_at hl 2 rfl) ?_
  replace h := zc_some h
  obtain ⟨r1, z2, hc3, h⟩ := h
  refine zr_calli (zrun_V (As := [.int x1, .int x2]) (rest := [.ref (B 19 x0)]) zq_3012 zq_3014 zs_X19_isDoor zq_3015 zq_4 hdX19_isDoor (by decide) (T := TX19) (N := 32) rfl (okX19_isDoor l D cy B ids hst N x0 hx0 x1  x2  hr.2.2 hc3) F hr hx0 hl.1 rfl (Nat.le_of_ble_eq_true rfl) dX19_drain_4 rfl rfl hroX19_drain_X19_isDoor ⟨Nat.zero_le _, Nat.zero_le _⟩) F hA hr (fun H locs hw4 hr => ?_)
  clear hc3
  refine lv_if_ne (tgt := 14) F.1 F.2.1 dX19_drain_7 (by decide) (fun c5 => ?_) (fun c5 => ?_)
  · replace h := zi_t c5 h
    refine lv_iconst (v := (0 : Int32)) F.1 F.2.1 dX19_drain_14 (by decide) ?_
    exact bX19_drain_15 hst F hA E  x0 x1 x2 x3 x0 (0 : Int32) hx0 hx0 hr (lv_sub hl [0, 1, 2, 3] rfl) h
  · replace h := zi_f (fun q => q c5) h
    refine lv_iconst (v := (1 : Int32)) F.1 F.2.1 dX19_drain_10 (by decide) ?_
    refine lv_goto (tgt := 15) F.1 F.2.1 dX19_drain_11 (by decide) ?_
    exact bX19_drain_15 hst F hA E  x0 x1 x2 x3 x0 (1 : Int32) hx0 hx0 hr (lv_sub hl [0, 1, 2, 3] rfl) h
end SX19_drain
set_option maxRecDepth 100000 in
theorem okX19_drain (l : Launch) (D : va_G) (cy : Nat → ClassId) (B : Nat → Nat → Nat) (ids : List (Nat × Nat)) (hst : zSt B ids) (N : Nat) (x0 : Nat) (hx0 : (19, x0) ∈ ids) (x1 : Int32) (x2 : Int32) (x3 : Int32) {z : St} {r : Int32} {z' : St} (hW : zWf ids z) (h : fX19_drain N x0 x1 x2 x3 z = some (r, z')) : zM l yX19_drain (zws yX19_drain cX19_drain 4 none) rmX19_drain D cy B ids [.ref (B 19 x0), .int x1, .int x2, .int x3] none True z z' :=
  zM_of hst hW (by decide +kernel) (Nat.le_of_ble_eq_true rfl) (fun p e s m args below meth c A ls F hA hret hlocks hr hl => bX19_drain_0 hst F hA (zEnd_v F hret hlocks) x0 x1 x2 x3 hx0 hr hl h)
abbrev rmX19_drained : Room := { frames := 3, cells := 0, slots := 0, locals := 64 }
theorem hdX19_drained : yX19_drained.cls ≠ "java/lang/invoke/MethodHandle" ∧ yX19_drained.cls ≠ "java/lang/invoke/VarHandle" ∧ (parseMethodDescriptor yX19_drained.desc).map (fun d => d.parameters.length) = some 2 := by decide +kernel
theorem hroX19_drained_X19_fails : rmX19_fails.frames + 1 ≤ rmX19_drained.frames ∧ 8 + (3 + 11) + rmX19_fails.locals ≤ rmX19_drained.locals := by decide
theorem hroX19_drained_X19_isDoor : rmX19_isDoor.frames + 1 ≤ rmX19_drained.frames ∧ 8 + (3 + 11) + rmX19_isDoor.locals ≤ rmX19_drained.locals := by decide
section SX19_drained
variable {p : Program} {l : Launch} {e : Env} {s : State} {m : MethodId} {args : Array Value} {below : List Frame} {meth : Method} {c : Code} {Q : State → Prop} {D : va_G} {cy : Nat → ClassId} {B : Nat → Nat → Nat} {ids : List (Nat × Nat)} {A : Nat → Prop}
def fX19_drained_15 (N : Nat)  (x0 : Nat) (x1 : Int32) (x2 : Int32) (s0 : Nat) (s1 : Int32) (z : St) : Option (Int32 × St) := zc (fX19_fails N s0 s1 (0 : Int32) z) fun r1 z2 => if r1 = 0 then (zk x1 16 <| zl (zgQ z2 186 x0 (Int32.toNatClampNeg x1)) fun y7 => zd y7 fun a8 => zk x2 6 <| zl (zgQ z2 158 a8 (Int32.toNatClampNeg x2)) fun y10 => zd y10 fun a11 => some ((zgI z2 13 9 a11), z2)) else (some ((0 : Int32), z2))
set_option maxHeartbeats 4000000 in
set_option maxRecDepth 100000 in
theorem bX19_drained_15 (hst : zSt B ids) (F : zFx p m c cX19_drained 3 s args RX19 D cy B ids A) (hA : ∀ q : Nat, s.heap.size ≤ q → A q) {r : Int32} {z' : St} (E : zEnd p l e rmX19_drained s m args below meth c cX19_drained D cy B ids A Q (some (.int r)) z' .ireturn True) {N : Nat}  (x0 : Nat) (x1 : Int32) (x2 : Int32) (s0 : Nat) (s1 : Int32) (hx0 : (19, x0) ∈ ids) (hs0 : (19, s0) ∈ ids) {z : St} {H : Heap} {locs : List Loc} {ls : Array Slot} (hr : zRep D cy B ids A s.heap z H locs) (hl : lv_has ls 3 [(0, .ref (B 19 x0)), (1, .int x1), (2, .int x2)]) (h : fX19_drained_15 N x0 x1 x2 s0 s1 z = some (r, z')) : W p l e rmX19_drained s m args below meth c H locs 0 0 Q (F0 m 15 ls [.int s1, .ref (B 19 s0)]) := by
  unfold fX19_drained_15 at h
  refine lv_iconst (v := (0 : Int32)) F.1 F.2.1 dX19_drained_15 (by decide) ?_
  replace h := zc_some h
  obtain ⟨r1, z2, hc3, h⟩ := h
  refine zr_calli (zrun_V (As := [.int s1, .int (0 : Int32)]) (rest := []) zq_2402 zq_2404 zs_X19_fails zq_2405 zq_4 hdX19_fails (by decide) (T := TX19) (N := 32) rfl (okX19_fails l D cy B ids hst N s0 hs0 s1  (0 : Int32)  hr.2.2 hc3) F hr hs0 hl.1 rfl (by decide) dX19_drained_16 rfl rfl hroX19_drained_X19_fails ⟨Nat.zero_le _, Nat.zero_le _⟩) F hA hr (fun H locs hw4 hr => ?_)
  clear hc3
  refine lv_if_eq (tgt := 26) F.1 F.2.1 dX19_drained_19 (by decide) (fun c5 => ?_) (fun c5 => ?_)
  · replace h := zi_t c5 h
    refine lv_aload_n F.1 F.2.1 dX19_drained_26 rfl (lv_at hl 0 rfl) ?_
    refine gf19_114 F hx0 hr dX19_drained_27 ?_
    refine lv_iload_n F.1 F.2.1 dX19_drained_30 rfl (lv_at hl 1 rfl) ?_
    replace h := zk_some h
    obtain ⟨c6, h⟩ := h
    refine zr_aaldv (k := 186) (by decide) rfl rfl (zlen_d (by decide)) F (zal_a F hx0 (j := 18) rfl) hr dX19_drained_31 c6 (fun y7 ey7 => ?_)
    replace h := zl_sub ey7 h
    have hy7 := zal_q hr (zal_a F hx0 (j := 18) rfl) rfl ey7
    clear ey7
    replace h := zd_some h
    obtain ⟨a8, rfl, h⟩ := h
    refine gf19_340 F (hy7 _ rfl) hr dX19_drained_32 ?_
    refine lv_iload_n F.1 F.2.1 dX19_drained_35 rfl (lv_at hl 2 rfl) ?_
    replace h := zk_some h
    obtain ⟨c9, h⟩ := h
    refine zr_aaldv (k := 158) (by decide) rfl rfl (zlen_d (by decide)) F (zal_a F (hy7 _ rfl) (j := 28) rfl) hr dX19_drained_36 c9 (fun y10 ey10 => ?_)
    replace h := zl_sub ey10 h
    have hy10 := zal_q hr (zal_a F (hy7 _ rfl) (j := 28) rfl) rfl ey10
    clear ey10
    replace h := zd_some h
    obtain ⟨a11, rfl, h⟩ := h
    refine gf19_773 F (hy10 _ rfl) hr dX19_drained_37 ?_
    obtain ⟨rfl, rfl⟩ := zret h
    exact E _ _ _ _ dX19_drained_40 trivial hr
  · replace h := zi_f c5 h
    refine lv_iconst (v := (0 : Int32)) F.1 F.2.1 dX19_drained_22 (by decide) ?_
    refine lv_goto (tgt := 40) F.1 F.2.1 dX19_drained_23 (by decide) ?_
    obtain ⟨rfl, rfl⟩ := zret h
    exact E _ _ _ _ dX19_drained_40 trivial hr
def fX19_drained (N : Nat)  (x0 : Nat) (x1 : Int32) (x2 : Int32) (z : St) : Option (Int32 × St) := zc (fX19_isDoor N x0 x1 x2 z) fun r1 z2 => if ¬ r1 = 0 then (fX19_drained_15 N x0 x1 x2 x0 (0 : Int32) z2) else (fX19_drained_15 N x0 x1 x2 x0 (1 : Int32) z2)
set_option maxHeartbeats 4000000 in
set_option maxRecDepth 100000 in
theorem bX19_drained_0 (hst : zSt B ids) (F : zFx p m c cX19_drained 3 s args RX19 D cy B ids A) (hA : ∀ q : Nat, s.heap.size ≤ q → A q) {r : Int32} {z' : St} (E : zEnd p l e rmX19_drained s m args below meth c cX19_drained D cy B ids A Q (some (.int r)) z' .ireturn True) {N : Nat}  (x0 : Nat) (x1 : Int32) (x2 : Int32) (hx0 : (19, x0) ∈ ids) {z : St} {H : Heap} {locs : List Loc} {ls : Array Slot} (hr : zRep D cy B ids A s.heap z H locs) (hl : lv_has ls 3 [(0, .ref (B 19 x0)), (1, .int x1), (2, .int x2)]) (h : fX19_drained N x0 x1 x2 z = some (r, z')) : W p l e rmX19_drained s m args below meth c H locs 0 0 Q (F0 m 0 ls []) := by
  unfold fX19_drained at h
  refine lv_aload_n F.1 F.2.1 dX19_drained_0 rfl (lv_at hl 0 rfl) ?_
  refine lv_aload_n F.1 F.2.1 dX19_drained_1 rfl (lv_at hl 0 rfl) ?_
  refine lv_iload_n F.1 F.2.1 dX19_drained_2 rfl (lv_at hl 1 rfl) ?_
  refine lv_iload_n F.1 F.2.1 dX19_drained_3 rfl (lv_at hl 2 rfl) ?_
  replace h := zc_some h
  obtain ⟨r1, z2, hc3, h⟩ := h
  refine zr_calli (zrun_V (As := [.int x1, .int x2]) (rest := [.ref (B 19 x0)]) zq_3012 zq_3014 zs_X19_isDoor zq_3015 zq_4 hdX19_isDoor (by decide) (T := TX19) (N := 32) rfl (okX19_isDoor l D cy B ids hst N x0 hx0 x1  x2  hr.2.2 hc3) F hr hx0 hl.1 rfl (Nat.le_of_ble_eq_true rfl) dX19_drained_4 rfl rfl hroX19_drained_X19_isDoor ⟨Nat.zero_le _, Nat.zero_le _⟩) F hA hr (fun H locs hw4 hr => ?_)
  clear hc3
  refine lv_if_ne (tgt := 14) F.1 F.2.1 dX19_drained_7 (by decide) (fun c5 => ?_) (fun c5 => ?_)
  · replace h := zi_t c5 h
    refine lv_iconst (v := (0 : Int32)) F.1 F.2.1 dX19_drained_14 (by decide) ?_
    exact bX19_drained_15 hst F hA E  x0 x1 x2 x0 (0 : Int32) hx0 hx0 hr (lv_sub hl [0, 1, 2] rfl) h
  · replace h := zi_f (fun q => q c5) h
    refine lv_iconst (v := (1 : Int32)) F.1 F.2.1 dX19_drained_10 (by decide) ?_
    refine lv_goto (tgt := 15) F.1 F.2.1 dX19_drained_11 (by decide) ?_
    exact bX19_drained_15 hst F hA E  x0 x1 x2 x0 (1 : Int32) hx0 hx0 hr (lv_sub hl [0, 1, 2] rfl) h
end SX19_drained
set_option maxRecDepth 100000 in
theorem okX19_drained (l : Launch) (D : va_G) (cy : Nat → ClassId) (B : Nat → Nat → Nat) (ids : List (Nat × Nat)) (hst : zSt B ids) (N : Nat) (x0 : Nat) (hx0 : (19, x0) ∈ ids) (x1 : Int32) (x2 : Int32) {z : St} {r : Int32} {z' : St} (hW : zWf ids z) (h : fX19_drained N x0 x1 x2 z = some (r, z')) : zM l yX19_drained (zws yX19_drained cX19_drained 3 (some .int)) rmX19_drained D cy B ids [.ref (B 19 x0), .int x1, .int x2] (some (.int r)) True z z' :=
  zM_of hst hW (by decide +kernel) (Nat.le_of_ble_eq_true rfl) (fun p e s m args below meth c A ls F hA hret hlocks hr hl => bX19_drained_0 hst F hA (zEnd_i F hret hlocks) x0 x1 x2 hx0 hr hl h)
abbrev rmX19_strays : Room := { frames := 0, cells := 0, slots := 0, locals := 0 }
theorem hdX19_strays : yX19_strays.cls ≠ "java/lang/invoke/MethodHandle" ∧ yX19_strays.cls ≠ "java/lang/invoke/VarHandle" ∧ (parseMethodDescriptor yX19_strays.desc).map (fun d => d.parameters.length) = some 0 := by decide +kernel
section SX19_strays
variable {p : Program} {l : Launch} {e : Env} {s : State} {m : MethodId} {args : Array Value} {below : List Frame} {meth : Method} {c : Code} {Q : State → Prop} {D : va_G} {cy : Nat → ClassId} {B : Nat → Nat → Nat} {ids : List (Nat × Nat)} {A : Nat → Prop}
def fX19_strays (N : Nat)  (x0 : Nat) (z : St) : Option (Int32 × St) := zl (zsI z 19 25 x0 (0 : Int32)) fun z1 => some ((zgI z1 19 26 x0), z1)
set_option maxHeartbeats 4000000 in
set_option maxRecDepth 100000 in
theorem bX19_strays_0 (hst : zSt B ids) (F : zFx p m c cX19_strays 1 s args RX19 D cy B ids A) (hA : ∀ q : Nat, s.heap.size ≤ q → A q) {r : Int32} {z' : St} (E : zEnd p l e rmX19_strays s m args below meth c cX19_strays D cy B ids A Q (some (.int r)) z' .ireturn True) {N : Nat}  (x0 : Nat) (hx0 : (19, x0) ∈ ids) {z : St} {H : Heap} {locs : List Loc} {ls : Array Slot} (hr : zRep D cy B ids A s.heap z H locs) (hl : lv_has ls 1 [(0, .ref (B 19 x0))]) (h : fX19_strays N x0 z = some (r, z')) : W p l e rmX19_strays s m args below meth c H locs 0 0 Q (F0 m 0 ls []) := by
  unfold fX19_strays at h
  refine lv_aload_n F.1 F.2.1 dX19_strays_0 rfl (lv_at hl 0 rfl) ?_
  refine lv_iconst (v := (0 : Int32)) F.1 F.2.1 dX19_strays_1 (by decide) ?_
  refine pf19_140 F hx0 hr dX19_strays_2 (0 : Int32) (fun H locs z1 ez1 hr => ?_)
  replace h := zl_sub ez1 h
  clear ez1
  refine lv_aload_n F.1 F.2.1 dX19_strays_5 rfl (lv_at hl 0 rfl) ?_
  refine gf19_807 F hx0 hr dX19_strays_6 ?_
  obtain ⟨rfl, rfl⟩ := zret h
  exact E _ _ _ _ dX19_strays_9 trivial hr
end SX19_strays
set_option maxRecDepth 100000 in
theorem okX19_strays (l : Launch) (D : va_G) (cy : Nat → ClassId) (B : Nat → Nat → Nat) (ids : List (Nat × Nat)) (hst : zSt B ids) (N : Nat) (x0 : Nat) (hx0 : (19, x0) ∈ ids) {z : St} {r : Int32} {z' : St} (hW : zWf ids z) (h : fX19_strays N x0 z = some (r, z')) : zM l yX19_strays (zws yX19_strays cX19_strays 1 (some .int)) rmX19_strays D cy B ids [.ref (B 19 x0)] (some (.int r)) True z z' :=
  zM_of hst hW (by decide +kernel) (Nat.le_of_ble_eq_true rfl) (fun p e s m args below meth c A ls F hA hret hlocks hr hl => bX19_strays_0 hst F hA (zEnd_i F hret hlocks) x0 hx0 hr hl h)
abbrev rmX19_areJoined : Room := { frames := 2, cells := 0, slots := 0, locals := 42 }
theorem hdX19_areJoined : yX19_areJoined.cls ≠ "java/lang/invoke/MethodHandle" ∧ yX19_areJoined.cls ≠ "java/lang/invoke/VarHandle" ∧ (parseMethodDescriptor yX19_areJoined.desc).map (fun d => d.parameters.length) = some 2 := by decide +kernel
theorem hroX19_areJoined_X19_isRouter : rmX19_isRouter.frames + 1 ≤ rmX19_areJoined.frames ∧ 8 + (2 + 11) + rmX19_isRouter.locals ≤ rmX19_areJoined.locals := by decide
section SX19_areJoined
variable {p : Program} {l : Launch} {e : Env} {s : State} {m : MethodId} {args : Array Value} {below : List Frame} {meth : Method} {c : Code} {Q : State → Prop} {D : va_G} {cy : Nat → ClassId} {B : Nat → Nat → Nat} {ids : List (Nat × Nat)} {A : Nat → Prop}
def fX19_areJoined_49 (N : Nat) (K28 : Nat → Int32 → Int32 → Int32 → St → Option (Int32 × St)) (x0 : Nat) (x1 : Int32) (x2 : Int32) (x3 : Int32) (s0 : Nat) (s1 : Int32) (s2 : Int32) (z : St) : Option (Int32 × St) := zk s1 24 <| zl (zsA z 192 s0 (Int32.toNatClampNeg s1) (vp_nar .boolean s2)) fun z2 => zl (x3 + 1) fun v3 => K28 x0 x1 x2 v3 z2
set_option maxHeartbeats 4000000 in
set_option maxRecDepth 100000 in
theorem bX19_areJoined_49 (hst : zSt B ids) (F : zFx p m c cX19_areJoined 8 s args RX19 D cy B ids A) (hA : ∀ q : Nat, s.heap.size ≤ q → A q) {r : Int32} {z' : St} (E : zEnd p l e rmX19_areJoined s m args below meth c cX19_areJoined D cy B ids A Q (some (.int r)) z' .ireturn (r = 0 ∨ r = 1)) {N : Nat} {K28 : Nat → Int32 → Int32 → Int32 → St → Option (Int32 × St)} (hK28 : ∀ (x0 : Nat) (x1 : Int32) (x2 : Int32) (x3 : Int32) (hx0 : (19, x0) ∈ ids) {z : St} {H : Heap} {locs : List Loc} {ls : Array Slot} (hr : zRep D cy B ids A s.heap z H locs) (hl : lv_has ls 8 [(0, .ref (B 19 x0)), (1, .int x1), (2, .int x2), (3, .int x3)]), K28 x0 x1 x2 x3 z = some (r, z') → W p l e rmX19_areJoined s m args below meth c H locs 0 0 Q (F0 m 28 ls [])) (x0 : Nat) (x1 : Int32) (x2 : Int32) (x3 : Int32) (s0 : Nat) (s1 : Int32) (s2 : Int32) (hx0 : (19, x0) ∈ ids) (hs0 : (192, s0) ∈ ids) {z : St} {H : Heap} {locs : List Loc} {ls : Array Slot} (hr : zRep D cy B ids A s.heap z H locs) (hl : lv_has ls 8 [(0, .ref (B 19 x0)), (1, .int x1), (2, .int x2), (3, .int x3)]) (h : fX19_areJoined_49 N K28 x0 x1 x2 x3 s0 s1 s2 z = some (r, z')) : W p l e rmX19_areJoined s m args below meth c H locs 0 0 Q (F0 m 49 ls [.int s2, .int s1, .ref (B 192 s0)]) := by
  unfold fX19_areJoined_49 at h
  replace h := zk_some h
  obtain ⟨c1, h⟩ := h
  refine zr_zast (k := 192) (by decide) rfl (by decide) F hs0 hr dX19_areJoined_49 c1 (fun H locs z2 ez2 hr => ?_)
  replace h := zl_sub ez2 h
  clear ez2
  obtain ⟨v3, ev3⟩ : ∃ y : Int32, y = (x3 + 1) := ⟨_, rfl⟩
  replace h := zl_sub ev3 h
  refine lv_iinc (v := v3) (lv' := [(3, .int v3), (0, .ref (B 19 x0)), (1, .int x1), (2, .int x2)]) F.1 F.2.1 dX19_areJoined_50 hl (k := 3) rfl (by rw [ev3]; rfl) (by decide) rfl (fun ls hl => ?_)
  refine lv_goto (tgt := 28) F.1 F.2.1 dX19_areJoined_53 (by decide) ?_
  exact hK28 x0 x1 x2 v3 hx0 hr (lv_sub hl [1, 2, 3, 0] rfl) h
def fX19_areJoined_143 (N : Nat) (K58 : Nat → Int32 → Int32 → St → Option (Int32 × St)) (K67 : Nat → Int32 → Int32 → Int32 → St → Option (Int32 × St)) (K82 : Nat → Int32 → Int32 → Int32 → Int32 → Int32 → St → Option (Int32 × St)) (x0 : Nat) (x2 : Int32) (x3 : Int32) (x4 : Int32) (x6 : Int32) (s0 : Int32) (z : St) : Option (Int32 × St) := zl (x6 + 1) fun v1 => K82 x0 x2 x3 x4 s0 v1 z
set_option maxHeartbeats 4000000 in
set_option maxRecDepth 100000 in
theorem bX19_areJoined_143 (hst : zSt B ids) (F : zFx p m c cX19_areJoined 8 s args RX19 D cy B ids A) (hA : ∀ q : Nat, s.heap.size ≤ q → A q) {r : Int32} {z' : St} (E : zEnd p l e rmX19_areJoined s m args below meth c cX19_areJoined D cy B ids A Q (some (.int r)) z' .ireturn (r = 0 ∨ r = 1)) {N : Nat} {K58 : Nat → Int32 → Int32 → St → Option (Int32 × St)} {K67 : Nat → Int32 → Int32 → Int32 → St → Option (Int32 × St)} {K82 : Nat → Int32 → Int32 → Int32 → Int32 → Int32 → St → Option (Int32 × St)} (hK58 : ∀ (x0 : Nat) (x2 : Int32) (x3 : Int32) (hx0 : (19, x0) ∈ ids) {z : St} {H : Heap} {locs : List Loc} {ls : Array Slot} (hr : zRep D cy B ids A s.heap z H locs) (hl : lv_has ls 8 [(0, .ref (B 19 x0)), (2, .int x2), (3, .int x3)]), K58 x0 x2 x3 z = some (r, z') → W p l e rmX19_areJoined s m args below meth c H locs 0 0 Q (F0 m 58 ls [])) (hK67 : ∀ (x0 : Nat) (x2 : Int32) (x3 : Int32) (x4 : Int32) (hx0 : (19, x0) ∈ ids) {z : St} {H : Heap} {locs : List Loc} {ls : Array Slot} (hr : zRep D cy B ids A s.heap z H locs) (hl : lv_has ls 8 [(0, .ref (B 19 x0)), (2, .int x2), (3, .int x3), (4, .int x4)]), K67 x0 x2 x3 x4 z = some (r, z') → W p l e rmX19_areJoined s m args below meth c H locs 0 0 Q (F0 m 67 ls [])) (hK82 : ∀ (x0 : Nat) (x2 : Int32) (x3 : Int32) (x4 : Int32) (x5 : Int32) (x6 : Int32) (hx0 : (19, x0) ∈ ids) {z : St} {H : Heap} {locs : List Loc} {ls : Array Slot} (hr : zRep D cy B ids A s.heap z H locs) (hl : lv_has ls 8 [(0, .ref (B 19 x0)), (2, .int x2), (3, .int x3), (4, .int x4), (5, .int x5), (6, .int x6)]), K82 x0 x2 x3 x4 x5 x6 z = some (r, z') → W p l e rmX19_areJoined s m args below meth c H locs 0 0 Q (F0 m 82 ls [])) (x0 : Nat) (x2 : Int32) (x3 : Int32) (x4 : Int32) (x6 : Int32) (s0 : Int32) (hx0 : (19, x0) ∈ ids) {z : St} {H : Heap} {locs : List Loc} {ls : Array Slot} (hr : zRep D cy B ids A s.heap z H locs) (hl : lv_has ls 8 [(0, .ref (B 19 x0)), (2, .int x2), (3, .int x3), (4, .int x4), (6, .int x6)]) (h : fX19_areJoined_143 N K58 K67 K82 x0 x2 x3 x4 x6 s0 z = some (r, z')) : W p l e rmX19_areJoined s m args below meth c H locs 0 0 Q (F0 m 143 ls [.int s0]) := by
  unfold fX19_areJoined_143 at h
  refine lv_istore (lv' := [(5, .int s0), (0, .ref (B 19 x0)), (2, .int x2), (3, .int x3), (4, .int x4), (6, .int x6)]) F.1 F.2.1 dX19_areJoined_143 hl (by decide) rfl (fun ls hl => ?_)
  obtain ⟨v1, ev1⟩ : ∃ y : Int32, y = (x6 + 1) := ⟨_, rfl⟩
  replace h := zl_sub ev1 h
  refine lv_iinc (v := v1) (lv' := [(6, .int v1), (5, .int s0), (0, .ref (B 19 x0)), (2, .int x2), (3, .int x3), (4, .int x4)]) F.1 F.2.1 dX19_areJoined_145 hl (k := 5) rfl (by rw [ev1]; rfl) (by decide) rfl (fun ls hl => ?_)
  refine lv_goto (tgt := 82) F.1 F.2.1 dX19_areJoined_148 (by decide) ?_
  exact hK82 x0 x2 x3 x4 s0 v1 hx0 hr (lv_sub hl [2, 3, 4, 5, 1, 0] rfl) h
def fX19_areJoined_138 (N : Nat) (K58 : Nat → Int32 → Int32 → St → Option (Int32 × St)) (K67 : Nat → Int32 → Int32 → Int32 → St → Option (Int32 × St)) (K82 : Nat → Int32 → Int32 → Int32 → Int32 → Int32 → St → Option (Int32 × St)) (x0 : Nat) (x2 : Int32) (x3 : Int32) (x4 : Int32) (x6 : Int32) (z : St) : Option (Int32 × St) := fX19_areJoined_143 N K58 K67 K82 x0 x2 x3 x4 x6 (1 : Int32) z
set_option maxHeartbeats 4000000 in
set_option maxRecDepth 100000 in
theorem bX19_areJoined_138 (hst : zSt B ids) (F : zFx p m c cX19_areJoined 8 s args RX19 D cy B ids A) (hA : ∀ q : Nat, s.heap.size ≤ q → A q) {r : Int32} {z' : St} (E : zEnd p l e rmX19_areJoined s m args below meth c cX19_areJoined D cy B ids A Q (some (.int r)) z' .ireturn (r = 0 ∨ r = 1)) {N : Nat} {K58 : Nat → Int32 → Int32 → St → Option (Int32 × St)} {K67 : Nat → Int32 → Int32 → Int32 → St → Option (Int32 × St)} {K82 : Nat → Int32 → Int32 → Int32 → Int32 → Int32 → St → Option (Int32 × St)} (hK58 : ∀ (x0 : Nat) (x2 : Int32) (x3 : Int32) (hx0 : (19, x0) ∈ ids) {z : St} {H : Heap} {locs : List Loc} {ls : Array Slot} (hr : zRep D cy B ids A s.heap z H locs) (hl : lv_has ls 8 [(0, .ref (B 19 x0)), (2, .int x2), (3, .int x3)]), K58 x0 x2 x3 z = some (r, z') → W p l e rmX19_areJoined s m args below meth c H locs 0 0 Q (F0 m 58 ls [])) (hK67 : ∀ (x0 : Nat) (x2 : Int32) (x3 : Int32) (x4 : Int32) (hx0 : (19, x0) ∈ ids) {z : St} {H : Heap} {locs : List Loc} {ls : Array Slot} (hr : zRep D cy B ids A s.heap z H locs) (hl : lv_has ls 8 [(0, .ref (B 19 x0)), (2, .int x2), (3, .int x3), (4, .int x4)]), K67 x0 x2 x3 x4 z = some (r, z') → W p l e rmX19_areJoined s m args below meth c H locs 0 0 Q (F0 m 67 ls [])) (hK82 : ∀ (x0 : Nat) (x2 : Int32) (x3 : Int32) (x4 : Int32) (x5 : Int32) (x6 : Int32) (hx0 : (19, x0) ∈ ids) {z : St} {H : Heap} {locs : List Loc} {ls : Array Slot} (hr : zRep D cy B ids A s.heap z H locs) (hl : lv_has ls 8 [(0, .ref (B 19 x0)), (2, .int x2), (3, .int x3), (4, .int x4), (5, .int x5), (6, .int x6)]), K82 x0 x2 x3 x4 x5 x6 z = some (r, z') → W p l e rmX19_areJoined s m args below meth c H locs 0 0 Q (F0 m 82 ls [])) (x0 : Nat) (x2 : Int32) (x3 : Int32) (x4 : Int32) (x6 : Int32) (hx0 : (19, x0) ∈ ids) {z : St} {H : Heap} {locs : List Loc} {ls : Array Slot} (hr : zRep D cy B ids A s.heap z H locs) (hl : lv_has ls 8 [(0, .ref (B 19 x0)), (2, .int x2), (3, .int x3), (4, .int x4), (6, .int x6)]) (h : fX19_areJoined_138 N K58 K67 K82 x0 x2 x3 x4 x6 z = some (r, z')) : W p l e rmX19_areJoined s m args below meth c H locs 0 0 Q (F0 m 138 ls []) := by
  unfold fX19_areJoined_138 at h
  refine lv_iconst (v := (1 : Int32)) F.1 F.2.1 dX19_areJoined_138 (by decide) ?_
  refine lv_goto (tgt := 143) F.1 F.2.1 dX19_areJoined_139 (by decide) ?_
  exact bX19_areJoined_143 hst F hA E hK58 hK67 hK82 x0 x2 x3 x4 x6 (1 : Int32) hx0 hr (lv_sub hl [0, 1, 2, 3, 4] rfl) h
def fX19_areJoined_226 (N : Nat) (K58 : Nat → Int32 → Int32 → St → Option (Int32 × St)) (K67 : Nat → Int32 → Int32 → Int32 → St → Option (Int32 × St)) (K154 : Nat → Int32 → Int32 → Int32 → Int32 → Int32 → St → Option (Int32 × St)) (x0 : Nat) (x2 : Int32) (x3 : Int32) (x4 : Int32) (x5 : Int32) (x6 : Int32) (z : St) : Option (Int32 × St) := zl (x6 + 1) fun v1 => K154 x0 x2 x3 x4 x5 v1 z
set_option maxHeartbeats 4000000 in
set_option maxRecDepth 100000 in
theorem bX19_areJoined_226 (hst : zSt B ids) (F : zFx p m c cX19_areJoined 8 s args RX19 D cy B ids A) (hA : ∀ q : Nat, s.heap.size ≤ q → A q) {r : Int32} {z' : St} (E : zEnd p l e rmX19_areJoined s m args below meth c cX19_areJoined D cy B ids A Q (some (.int r)) z' .ireturn (r = 0 ∨ r = 1)) {N : Nat} {K58 : Nat → Int32 → Int32 → St → Option (Int32 × St)} {K67 : Nat → Int32 → Int32 → Int32 → St → Option (Int32 × St)} {K154 : Nat → Int32 → Int32 → Int32 → Int32 → Int32 → St → Option (Int32 × St)} (hK58 : ∀ (x0 : Nat) (x2 : Int32) (x3 : Int32) (hx0 : (19, x0) ∈ ids) {z : St} {H : Heap} {locs : List Loc} {ls : Array Slot} (hr : zRep D cy B ids A s.heap z H locs) (hl : lv_has ls 8 [(0, .ref (B 19 x0)), (2, .int x2), (3, .int x3)]), K58 x0 x2 x3 z = some (r, z') → W p l e rmX19_areJoined s m args below meth c H locs 0 0 Q (F0 m 58 ls [])) (hK67 : ∀ (x0 : Nat) (x2 : Int32) (x3 : Int32) (x4 : Int32) (hx0 : (19, x0) ∈ ids) {z : St} {H : Heap} {locs : List Loc} {ls : Array Slot} (hr : zRep D cy B ids A s.heap z H locs) (hl : lv_has ls 8 [(0, .ref (B 19 x0)), (2, .int x2), (3, .int x3), (4, .int x4)]), K67 x0 x2 x3 x4 z = some (r, z') → W p l e rmX19_areJoined s m args below meth c H locs 0 0 Q (F0 m 67 ls [])) (hK154 : ∀ (x0 : Nat) (x2 : Int32) (x3 : Int32) (x4 : Int32) (x5 : Int32) (x6 : Int32) (hx0 : (19, x0) ∈ ids) {z : St} {H : Heap} {locs : List Loc} {ls : Array Slot} (hr : zRep D cy B ids A s.heap z H locs) (hl : lv_has ls 8 [(0, .ref (B 19 x0)), (2, .int x2), (3, .int x3), (4, .int x4), (5, .int x5), (6, .int x6)]), K154 x0 x2 x3 x4 x5 x6 z = some (r, z') → W p l e rmX19_areJoined s m args below meth c H locs 0 0 Q (F0 m 154 ls [])) (x0 : Nat) (x2 : Int32) (x3 : Int32) (x4 : Int32) (x5 : Int32) (x6 : Int32) (hx0 : (19, x0) ∈ ids) {z : St} {H : Heap} {locs : List Loc} {ls : Array Slot} (hr : zRep D cy B ids A s.heap z H locs) (hl : lv_has ls 8 [(0, .ref (B 19 x0)), (2, .int x2), (3, .int x3), (4, .int x4), (5, .int x5), (6, .int x6)]) (h : fX19_areJoined_226 N K58 K67 K154 x0 x2 x3 x4 x5 x6 z = some (r, z')) : W p l e rmX19_areJoined s m args below meth c H locs 0 0 Q (F0 m 226 ls []) := by
  unfold fX19_areJoined_226 at h
  obtain ⟨v1, ev1⟩ : ∃ y : Int32, y = (x6 + 1) := ⟨_, rfl⟩
  replace h := zl_sub ev1 h
  refine lv_iinc (v := v1) (lv' := [(6, .int v1), (0, .ref (B 19 x0)), (2, .int x2), (3, .int x3), (4, .int x4), (5, .int x5)]) F.1 F.2.1 dX19_areJoined_226 hl (k := 5) rfl (by rw [ev1]; rfl) (by decide) rfl (fun ls hl => ?_)
  refine lv_goto (tgt := 154) F.1 F.2.1 dX19_areJoined_229 (by decide) ?_
  exact hK154 x0 x2 x3 x4 x5 v1 hx0 hr (lv_sub hl [1, 2, 3, 4, 5, 0] rfl) h
def fX19_areJoined_232 (N : Nat) (K58 : Nat → Int32 → Int32 → St → Option (Int32 × St)) (K67 : Nat → Int32 → Int32 → Int32 → St → Option (Int32 × St)) (x0 : Nat) (x2 : Int32) (x3 : Int32) (x4 : Int32) (z : St) : Option (Int32 × St) := zl (x4 + 1) fun v1 => K67 x0 x2 x3 v1 z
set_option maxHeartbeats 4000000 in
set_option maxRecDepth 100000 in
theorem bX19_areJoined_232 (hst : zSt B ids) (F : zFx p m c cX19_areJoined 8 s args RX19 D cy B ids A) (hA : ∀ q : Nat, s.heap.size ≤ q → A q) {r : Int32} {z' : St} (E : zEnd p l e rmX19_areJoined s m args below meth c cX19_areJoined D cy B ids A Q (some (.int r)) z' .ireturn (r = 0 ∨ r = 1)) {N : Nat} {K58 : Nat → Int32 → Int32 → St → Option (Int32 × St)} {K67 : Nat → Int32 → Int32 → Int32 → St → Option (Int32 × St)} (hK58 : ∀ (x0 : Nat) (x2 : Int32) (x3 : Int32) (hx0 : (19, x0) ∈ ids) {z : St} {H : Heap} {locs : List Loc} {ls : Array Slot} (hr : zRep D cy B ids A s.heap z H locs) (hl : lv_has ls 8 [(0, .ref (B 19 x0)), (2, .int x2), (3, .int x3)]), K58 x0 x2 x3 z = some (r, z') → W p l e rmX19_areJoined s m args below meth c H locs 0 0 Q (F0 m 58 ls [])) (hK67 : ∀ (x0 : Nat) (x2 : Int32) (x3 : Int32) (x4 : Int32) (hx0 : (19, x0) ∈ ids) {z : St} {H : Heap} {locs : List Loc} {ls : Array Slot} (hr : zRep D cy B ids A s.heap z H locs) (hl : lv_has ls 8 [(0, .ref (B 19 x0)), (2, .int x2), (3, .int x3), (4, .int x4)]), K67 x0 x2 x3 x4 z = some (r, z') → W p l e rmX19_areJoined s m args below meth c H locs 0 0 Q (F0 m 67 ls [])) (x0 : Nat) (x2 : Int32) (x3 : Int32) (x4 : Int32) (hx0 : (19, x0) ∈ ids) {z : St} {H : Heap} {locs : List Loc} {ls : Array Slot} (hr : zRep D cy B ids A s.heap z H locs) (hl : lv_has ls 8 [(0, .ref (B 19 x0)), (2, .int x2), (3, .int x3), (4, .int x4)]) (h : fX19_areJoined_232 N K58 K67 x0 x2 x3 x4 z = some (r, z')) : W p l e rmX19_areJoined s m args below meth c H locs 0 0 Q (F0 m 232 ls []) := by
  unfold fX19_areJoined_232 at h
  obtain ⟨v1, ev1⟩ : ∃ y : Int32, y = (x4 + 1) := ⟨_, rfl⟩
  replace h := zl_sub ev1 h
  refine lv_iinc (v := v1) (lv' := [(4, .int v1), (0, .ref (B 19 x0)), (2, .int x2), (3, .int x3)]) F.1 F.2.1 dX19_areJoined_232 hl (k := 3) rfl (by rw [ev1]; rfl) (by decide) rfl (fun ls hl => ?_)
  refine lv_goto (tgt := 67) F.1 F.2.1 dX19_areJoined_235 (by decide) ?_
  exact hK67 x0 x2 x3 v1 hx0 hr (lv_sub hl [1, 2, 3, 0] rfl) h
def fX19_areJoined_154b (N : Nat) (K58 : Nat → Int32 → Int32 → St → Option (Int32 × St)) (K67 : Nat → Int32 → Int32 → Int32 → St → Option (Int32 × St)) (K154 : Nat → Int32 → Int32 → Int32 → Int32 → Int32 → St → Option (Int32 × St)) (x0 : Nat) (x2 : Int32) (x3 : Int32) (x4 : Int32) (x5 : Int32) (x6 : Int32) (z : St) : Option (Int32 × St) := if x5 = 0 then (fX19_areJoined_232 N K58 K67 x0 x2 x3 x4 z) else (zk x4 16 <| zl (zgQ z 186 x0 (Int32.toNatClampNeg x4)) fun y3 => zd y3 fun a4 => if (zgI z 12 3 a4) ≤ x6 then (fX19_areJoined_232 N K58 K67 x0 x2 x3 x4 z) else (zk x4 16 <| zl (zgQ z 186 x0 (Int32.toNatClampNeg x4)) fun y7 => zd y7 fun a8 => zk x6 6 <| zl (zgQ z 147 a8 (Int32.toNatClampNeg x6)) fun y10 => zd y10 fun a11 => zl (zgR z 18 2 a11) fun y12 => zd y12 fun a13 => if (zgI z 16 3 a13) = 0 then (fX19_areJoined_226 N K58 K67 K154 x0 x2 x3 x4 x5 x6 z) else (zk (zgI z 16 0 a13) 24 <| if ¬ (zgA z 192 x0 (Int32.toNatClampNeg (zgI z 16 0 a13))) = 0 then (fX19_areJoined_226 N K58 K67 K154 x0 x2 x3 x4 x5 x6 z) else (zk (zgI z 16 0 a13) 24 <| zl (zsA z 192 x0 (Int32.toNatClampNeg (zgI z 16 0 a13)) (vp_nar .boolean (1 : Int32))) fun z18 => fX19_areJoined_226 N K58 K67 K154 x0 x2 (1 : Int32) x4 x5 x6 z18))))
def fX19_areJoined_154 (N : Nat) (K58 : Nat → Int32 → Int32 → St → Option (Int32 × St)) (K67 : Nat → Int32 → Int32 → Int32 → St → Option (Int32 × St)) : Nat → Nat → Int32 → Int32 → Int32 → Int32 → Int32 → St → Option (Int32 × St)
  | 0 => fun _ _ _ _ _ _ _ => none
  | n + 1 => fX19_areJoined_154b N K58 K67 (fX19_areJoined_154 N K58 K67 n)
set_option maxHeartbeats 4000000 in
set_option maxRecDepth 100000 in
theorem bX19_areJoined_154 (hst : zSt B ids) (F : zFx p m c cX19_areJoined 8 s args RX19 D cy B ids A) (hA : ∀ q : Nat, s.heap.size ≤ q → A q) {r : Int32} {z' : St} (E : zEnd p l e rmX19_areJoined s m args below meth c cX19_areJoined D cy B ids A Q (some (.int r)) z' .ireturn (r = 0 ∨ r = 1)) {N : Nat} {K58 : Nat → Int32 → Int32 → St → Option (Int32 × St)} {K67 : Nat → Int32 → Int32 → Int32 → St → Option (Int32 × St)} {K154 : Nat → Int32 → Int32 → Int32 → Int32 → Int32 → St → Option (Int32 × St)} (hK58 : ∀ (x0 : Nat) (x2 : Int32) (x3 : Int32) (hx0 : (19, x0) ∈ ids) {z : St} {H : Heap} {locs : List Loc} {ls : Array Slot} (hr : zRep D cy B ids A s.heap z H locs) (hl : lv_has ls 8 [(0, .ref (B 19 x0)), (2, .int x2), (3, .int x3)]), K58 x0 x2 x3 z = some (r, z') → W p l e rmX19_areJoined s m args below meth c H locs 0 0 Q (F0 m 58 ls [])) (hK67 : ∀ (x0 : Nat) (x2 : Int32) (x3 : Int32) (x4 : Int32) (hx0 : (19, x0) ∈ ids) {z : St} {H : Heap} {locs : List Loc} {ls : Array Slot} (hr : zRep D cy B ids A s.heap z H locs) (hl : lv_has ls 8 [(0, .ref (B 19 x0)), (2, .int x2), (3, .int x3), (4, .int x4)]), K67 x0 x2 x3 x4 z = some (r, z') → W p l e rmX19_areJoined s m args below meth c H locs 0 0 Q (F0 m 67 ls [])) (hK154 : ∀ (x0 : Nat) (x2 : Int32) (x3 : Int32) (x4 : Int32) (x5 : Int32) (x6 : Int32) (hx0 : (19, x0) ∈ ids) {z : St} {H : Heap} {locs : List Loc} {ls : Array Slot} (hr : zRep D cy B ids A s.heap z H locs) (hl : lv_has ls 8 [(0, .ref (B 19 x0)), (2, .int x2), (3, .int x3), (4, .int x4), (5, .int x5), (6, .int x6)]), K154 x0 x2 x3 x4 x5 x6 z = some (r, z') → W p l e rmX19_areJoined s m args below meth c H locs 0 0 Q (F0 m 154 ls [])) (x0 : Nat) (x2 : Int32) (x3 : Int32) (x4 : Int32) (x5 : Int32) (x6 : Int32) (hx0 : (19, x0) ∈ ids) {z : St} {H : Heap} {locs : List Loc} {ls : Array Slot} (hr : zRep D cy B ids A s.heap z H locs) (hl : lv_has ls 8 [(0, .ref (B 19 x0)), (2, .int x2), (3, .int x3), (4, .int x4), (5, .int x5), (6, .int x6)]) (h : fX19_areJoined_154b N K58 K67 K154 x0 x2 x3 x4 x5 x6 z = some (r, z')) : W p l e rmX19_areJoined s m args below meth c H locs 0 0 Q (F0 m 154 ls []) := by
  unfold fX19_areJoined_154b at h
  refine lv_iload F.1 F.2.1 dX19_areJoined_154 (lv_at hl 4 rfl) ?_
  refine lv_if_eq (tgt := 232) F.1 F.2.1 dX19_areJoined_156 (by decide) (fun c1 => ?_) (fun c1 => ?_)
  · replace h := zi_t c1 h
    exact bX19_areJoined_232 hst F hA E hK58 hK67 x0 x2 x3 x4 hx0 hr (lv_sub hl [0, 1, 2, 3] rfl) h
  · replace h := zi_f c1 h
    refine lv_iload F.1 F.2.1 dX19_areJoined_159 (lv_at hl 5 rfl) ?_
    refine lv_aload_n F.1 F.2.1 dX19_areJoined_161 rfl (lv_at hl 0 rfl) ?_
    refine gf19_114 F hx0 hr dX19_areJoined_162 ?_
    refine lv_iload F.1 F.2.1 dX19_areJoined_165 (lv_at hl 3 rfl) ?_
    replace h := zk_some h
    obtain ⟨c2, h⟩ := h
    refine zr_aaldv (k := 186) (by decide) rfl rfl (zlen_d (by decide)) F (zal_a F hx0 (j := 18) rfl) hr dX19_areJoined_167 c2 (fun y3 ey3 => ?_)
    replace h := zl_sub ey3 h
    have hy3 := zal_q hr (zal_a F hx0 (j := 18) rfl) rfl ey3
    clear ey3
    replace h := zd_some h
    obtain ⟨a4, rfl, h⟩ := h
    refine gf19_273 F (hy3 _ rfl) hr dX19_areJoined_168 ?_
    refine lv_icmp_ge (tgt := 232) F.1 F.2.1 dX19_areJoined_171 (by decide) (fun c5 => ?_) (fun c5 => ?_)
    · replace h := zi_t c5 h
      exact bX19_areJoined_232 hst F hA E hK58 hK67 x0 x2 x3 x4 hx0 hr (lv_sub hl [0, 1, 2, 3] rfl) h
    · replace h := zi_f c5 h
      refine lv_aload_n F.1 F.2.1 dX19_areJoined_174 rfl (lv_at hl 0 rfl) ?_
      refine gf19_114 F hx0 hr dX19_areJoined_175 ?_
      refine lv_iload F.1 F.2.1 dX19_areJoined_178 (lv_at hl 3 rfl) ?_
      replace h := zk_some h
      obtain ⟨c6, h⟩ := h
      refine zr_aaldv (k := 186) (by decide) rfl rfl (zlen_d (by decide)) F (zal_a F hx0 (j := 18) rfl) hr dX19_areJoined_180 c6 (fun y7 ey7 => ?_)
      replace h := zl_sub ey7 h
      have hy7 := zal_q hr (zal_a F hx0 (j := 18) rfl) rfl ey7
      clear ey7
      replace h := zd_some h
      obtain ⟨a8, rfl, h⟩ := h
      refine gf19_276 F (hy7 _ rfl) hr dX19_areJoined_181 ?_
      refine lv_iload F.1 F.2.1 dX19_areJoined_184 (lv_at hl 5 rfl) ?_
      replace h := zk_some h
      obtain ⟨c9, h⟩ := h
      refine zr_aaldv (k := 147) (by decide) rfl rfl (zlen_d (by decide)) F (zal_a F (hy7 _ rfl) (j := 2) rfl) hr dX19_areJoined_186 c9 (fun y10 ey10 => ?_)
      replace h := zl_sub ey10 h
      have hy10 := zal_q hr (zal_a F (hy7 _ rfl) (j := 2) rfl) rfl ey10
      clear ey10
      replace h := zd_some h
      obtain ⟨a11, rfl, h⟩ := h
      refine gf19_149 F (hy10 _ rfl) hr dX19_areJoined_187 (fun y12 ey12 => ?_)
      replace h := zl_sub ey12 h
      have hy12 := zal_g hr (hy10 _ rfl) (j := 2) rfl ey12
      clear ey12
      refine zr_astore (lv' := [(7, va_rf (Option.map (B 16) y12)), (0, .ref (B 19 x0)), (2, .int x2), (3, .int x3), (4, .int x4), (5, .int x5), (6, .int x6)]) F.1 F.2.1 dX19_areJoined_190 hl (by decide) rfl (fun ls hl => ?_)
      refine zr_aload F.1 F.2.1 dX19_areJoined_192 (lv_at hl 0 rfl) ?_
      replace h := zd_some h
      obtain ⟨a13, rfl, h⟩ := h
      refine gf19_158 F (hy12 _ rfl) hr dX19_areJoined_194 ?_
      refine lv_if_eq (tgt := 226) F.1 F.2.1 dX19_areJoined_197 (by decide) (fun c14 => ?_) (fun c14 => ?_)
      · replace h := zi_t c14 h
        exact bX19_areJoined_226 hst F hA E hK58 hK67 hK154 x0 x2 x3 x4 x5 x6 hx0 hr (lv_sub hl [1, 2, 3, 4, 5, 6] rfl) h
      · replace h := zi_f c14 h
        refine lv_aload_n F.1 F.2.1 dX19_areJoined_200 rfl (lv_at hl 1 rfl) ?_
        refine gf19_136 F hx0 hr dX19_areJoined_201 ?_
        refine lv_aload F.1 F.2.1 dX19_areJoined_204 (lv_at hl 0 rfl) ?_
        refine gf19_181 F (hy12 _ rfl) hr dX19_areJoined_206 ?_
        replace h := zk_some h
        obtain ⟨c15, h⟩ := h
        refine zr_zald (k := 192) (by decide) rfl (by decide) F (zal_a F hx0 (j := 31) rfl) hr dX19_areJoined_209 c15 ?_
        refine lv_if_ne (tgt := 226) F.1 F.2.1 dX19_areJoined_210 (by decide) (fun c16 => ?_) (fun c16 => ?_)
        · replace h := zi_t c16 h
          exact bX19_areJoined_226 hst F hA E hK58 hK67 hK154 x0 x2 x3 x4 x5 x6 hx0 hr (lv_sub hl [1, 2, 3, 4, 5, 6] rfl) h
        · replace h := zi_f (fun q => q c16) h
          refine lv_aload_n F.1 F.2.1 dX19_areJoined_213 rfl (lv_at hl 1 rfl) ?_
          refine gf19_136 F hx0 hr dX19_areJoined_214 ?_
          refine lv_aload F.1 F.2.1 dX19_areJoined_217 (lv_at hl 0 rfl) ?_
          refine gf19_181 F (hy12 _ rfl) hr dX19_areJoined_219 ?_
          refine lv_iconst (v := (1 : Int32)) F.1 F.2.1 dX19_areJoined_222 (by decide) ?_
          replace h := zk_some h
          obtain ⟨c17, h⟩ := h
          refine zr_zast (k := 192) (by decide) rfl (by decide) F (zal_a F hx0 (j := 31) rfl) hr dX19_areJoined_223 c17 (fun H locs z18 ez18 hr => ?_)
          replace h := zl_sub ez18 h
          clear ez18
          refine lv_iconst (v := (1 : Int32)) F.1 F.2.1 dX19_areJoined_224 (by decide) ?_
          refine lv_istore_n (lv' := [(3, .int (1 : Int32)), (7, .ref (B 16 a13)), (0, .ref (B 19 x0)), (2, .int x2), (4, .int x4), (5, .int x5), (6, .int x6)]) F.1 F.2.1 dX19_areJoined_225 rfl hl (by decide) rfl (fun ls hl => ?_)
          exact bX19_areJoined_226 hst F hA E hK58 hK67 hK154 x0 x2 (1 : Int32) x4 x5 x6 hx0 hr (lv_sub hl [2, 3, 0, 4, 5, 6] rfl) h
theorem lX19_areJoined_154 (hst : zSt B ids) (F : zFx p m c cX19_areJoined 8 s args RX19 D cy B ids A) (hA : ∀ q : Nat, s.heap.size ≤ q → A q) {r : Int32} {z' : St} (E : zEnd p l e rmX19_areJoined s m args below meth c cX19_areJoined D cy B ids A Q (some (.int r)) z' .ireturn (r = 0 ∨ r = 1)) {N : Nat} {K58 : Nat → Int32 → Int32 → St → Option (Int32 × St)} {K67 : Nat → Int32 → Int32 → Int32 → St → Option (Int32 × St)} (hK58 : ∀ (x0 : Nat) (x2 : Int32) (x3 : Int32) (hx0 : (19, x0) ∈ ids) {z : St} {H : Heap} {locs : List Loc} {ls : Array Slot} (hr : zRep D cy B ids A s.heap z H locs) (hl : lv_has ls 8 [(0, .ref (B 19 x0)), (2, .int x2), (3, .int x3)]), K58 x0 x2 x3 z = some (r, z') → W p l e rmX19_areJoined s m args below meth c H locs 0 0 Q (F0 m 58 ls [])) (hK67 : ∀ (x0 : Nat) (x2 : Int32) (x3 : Int32) (x4 : Int32) (hx0 : (19, x0) ∈ ids) {z : St} {H : Heap} {locs : List Loc} {ls : Array Slot} (hr : zRep D cy B ids A s.heap z H locs) (hl : lv_has ls 8 [(0, .ref (B 19 x0)), (2, .int x2), (3, .int x3), (4, .int x4)]), K67 x0 x2 x3 x4 z = some (r, z') → W p l e rmX19_areJoined s m args below meth c H locs 0 0 Q (F0 m 67 ls [])) : ∀ (n : Nat) (x0 : Nat) (x2 : Int32) (x3 : Int32) (x4 : Int32) (x5 : Int32) (x6 : Int32) (hx0 : (19, x0) ∈ ids) {z : St} {H : Heap} {locs : List Loc} {ls : Array Slot} (hr : zRep D cy B ids A s.heap z H locs) (hl : lv_has ls 8 [(0, .ref (B 19 x0)), (2, .int x2), (3, .int x3), (4, .int x4), (5, .int x5), (6, .int x6)]), fX19_areJoined_154 N K58 K67 n x0 x2 x3 x4 x5 x6 z = some (r, z') → W p l e rmX19_areJoined s m args below meth c H locs 0 0 Q (F0 m 154 ls []) := by
  intro n
  induction n with
  | zero => intro x0 x2 x3 x4 x5 x6 hx0 z H locs ls hr hl h; cases h
  | succ n ih => intro x0 x2 x3 x4 x5 x6 hx0 z H locs ls hr hl h; exact bX19_areJoined_154 hst F hA E hK58 hK67 ih x0 x2 x3 x4 x5 x6 hx0 hr hl h
def fX19_areJoined_151 (N : Nat) (K58 : Nat → Int32 → Int32 → St → Option (Int32 × St)) (K67 : Nat → Int32 → Int32 → Int32 → St → Option (Int32 × St)) (x0 : Nat) (x2 : Int32) (x3 : Int32) (x4 : Int32) (x5 : Int32) (z : St) : Option (Int32 × St) := fX19_areJoined_154 N K58 K67 N x0 x2 x3 x4 x5 (0 : Int32) z
set_option maxHeartbeats 4000000 in
set_option maxRecDepth 100000 in
theorem bX19_areJoined_151 (hst : zSt B ids) (F : zFx p m c cX19_areJoined 8 s args RX19 D cy B ids A) (hA : ∀ q : Nat, s.heap.size ≤ q → A q) {r : Int32} {z' : St} (E : zEnd p l e rmX19_areJoined s m args below meth c cX19_areJoined D cy B ids A Q (some (.int r)) z' .ireturn (r = 0 ∨ r = 1)) {N : Nat} {K58 : Nat → Int32 → Int32 → St → Option (Int32 × St)} {K67 : Nat → Int32 → Int32 → Int32 → St → Option (Int32 × St)} (hK58 : ∀ (x0 : Nat) (x2 : Int32) (x3 : Int32) (hx0 : (19, x0) ∈ ids) {z : St} {H : Heap} {locs : List Loc} {ls : Array Slot} (hr : zRep D cy B ids A s.heap z H locs) (hl : lv_has ls 8 [(0, .ref (B 19 x0)), (2, .int x2), (3, .int x3)]), K58 x0 x2 x3 z = some (r, z') → W p l e rmX19_areJoined s m args below meth c H locs 0 0 Q (F0 m 58 ls [])) (hK67 : ∀ (x0 : Nat) (x2 : Int32) (x3 : Int32) (x4 : Int32) (hx0 : (19, x0) ∈ ids) {z : St} {H : Heap} {locs : List Loc} {ls : Array Slot} (hr : zRep D cy B ids A s.heap z H locs) (hl : lv_has ls 8 [(0, .ref (B 19 x0)), (2, .int x2), (3, .int x3), (4, .int x4)]), K67 x0 x2 x3 x4 z = some (r, z') → W p l e rmX19_areJoined s m args below meth c H locs 0 0 Q (F0 m 67 ls [])) (x0 : Nat) (x2 : Int32) (x3 : Int32) (x4 : Int32) (x5 : Int32) (hx0 : (19, x0) ∈ ids) {z : St} {H : Heap} {locs : List Loc} {ls : Array Slot} (hr : zRep D cy B ids A s.heap z H locs) (hl : lv_has ls 8 [(0, .ref (B 19 x0)), (2, .int x2), (3, .int x3), (4, .int x4), (5, .int x5)]) (h : fX19_areJoined_151 N K58 K67 x0 x2 x3 x4 x5 z = some (r, z')) : W p l e rmX19_areJoined s m args below meth c H locs 0 0 Q (F0 m 151 ls []) := by
  unfold fX19_areJoined_151 at h
  refine lv_iconst (v := (0 : Int32)) F.1 F.2.1 dX19_areJoined_151 (by decide) ?_
  refine lv_istore (lv' := [(6, .int (0 : Int32)), (0, .ref (B 19 x0)), (2, .int x2), (3, .int x3), (4, .int x4), (5, .int x5)]) F.1 F.2.1 dX19_areJoined_152 hl (by decide) rfl (fun ls hl => ?_)
  exact lX19_areJoined_154 hst F hA E hK58 hK67 _ x0 x2 x3 x4 x5 (0 : Int32) hx0 hr (lv_sub hl [1, 2, 3, 4, 5, 0] rfl) h
def fX19_areJoined_82b (N : Nat) (K58 : Nat → Int32 → Int32 → St → Option (Int32 × St)) (K67 : Nat → Int32 → Int32 → Int32 → St → Option (Int32 × St)) (K82 : Nat → Int32 → Int32 → Int32 → Int32 → Int32 → St → Option (Int32 × St)) (x0 : Nat) (x2 : Int32) (x3 : Int32) (x4 : Int32) (x5 : Int32) (x6 : Int32) (z : St) : Option (Int32 × St) := zc (fX19_isRouter N x0 x4 z) fun r1 z2 => if r1 = 0 then (fX19_areJoined_151 N K58 K67 x0 x2 x3 x4 x5 z2) else (zk x4 16 <| zl (zgQ z2 186 x0 (Int32.toNatClampNeg x4)) fun y7 => zd y7 fun a8 => if (zgI z2 12 3 a8) ≤ x6 then (fX19_areJoined_151 N K58 K67 x0 x2 x3 x4 x5 z2) else (if ¬ x5 = 0 then (fX19_areJoined_138 N K58 K67 K82 x0 x2 x3 x4 x6 z2) else (zk x4 16 <| zl (zgQ z2 186 x0 (Int32.toNatClampNeg x4)) fun y12 => zd y12 fun a13 => zk x6 6 <| zl (zgQ z2 147 a13 (Int32.toNatClampNeg x6)) fun y15 => zd y15 fun a16 => zl (zgR z2 18 2 a16) fun y17 => zd y17 fun a18 => zk (zgI z2 16 0 a18) 24 <| if (zgA z2 192 x0 (Int32.toNatClampNeg (zgI z2 16 0 a18))) = 0 then (fX19_areJoined_143 N K58 K67 K82 x0 x2 x3 x4 x6 (0 : Int32) z2) else (fX19_areJoined_138 N K58 K67 K82 x0 x2 x3 x4 x6 z2))))
def fX19_areJoined_82 (N : Nat) (K58 : Nat → Int32 → Int32 → St → Option (Int32 × St)) (K67 : Nat → Int32 → Int32 → Int32 → St → Option (Int32 × St)) : Nat → Nat → Int32 → Int32 → Int32 → Int32 → Int32 → St → Option (Int32 × St)
  | 0 => fun _ _ _ _ _ _ _ => none
  | n + 1 => fX19_areJoined_82b N K58 K67 (fX19_areJoined_82 N K58 K67 n)
set_option maxHeartbeats 4000000 in
set_option maxRecDepth 100000 in
theorem bX19_areJoined_82 (hst : zSt B ids) (F : zFx p m c cX19_areJoined 8 s args RX19 D cy B ids A) (hA : ∀ q : Nat, s.heap.size ≤ q → A q) {r : Int32} {z' : St} (E : zEnd p l e rmX19_areJoined s m args below meth c cX19_areJoined D cy B ids A Q (some (.int r)) z' .ireturn (r = 0 ∨ r = 1)) {N : Nat} {K58 : Nat → Int32 → Int32 → St → Option (Int32 × St)} {K67 : Nat → Int32 → Int32 → Int32 → St → Option (Int32 × St)} {K82 : Nat → Int32 → Int32 → Int32 → Int32 → Int32 → St → Option (Int32 × St)} (hK58 : ∀ (x0 : Nat) (x2 : Int32) (x3 : Int32) (hx0 : (19, x0) ∈ ids) {z : St} {H : Heap} {locs : List Loc} {ls : Array Slot} (hr : zRep D cy B ids A s.heap z H locs) (hl : lv_has ls 8 [(0, .ref (B 19 x0)), (2, .int x2), (3, .int x3)]), K58 x0 x2 x3 z = some (r, z') → W p l e rmX19_areJoined s m args below meth c H locs 0 0 Q (F0 m 58 ls [])) (hK67 : ∀ (x0 : Nat) (x2 : Int32) (x3 : Int32) (x4 : Int32) (hx0 : (19, x0) ∈ ids) {z : St} {H : Heap} {locs : List Loc} {ls : Array Slot} (hr : zRep D cy B ids A s.heap z H locs) (hl : lv_has ls 8 [(0, .ref (B 19 x0)), (2, .int x2), (3, .int x3), (4, .int x4)]), K67 x0 x2 x3 x4 z = some (r, z') → W p l e rmX19_areJoined s m args below meth c H locs 0 0 Q (F0 m 67 ls [])) (hK82 : ∀ (x0 : Nat) (x2 : Int32) (x3 : Int32) (x4 : Int32) (x5 : Int32) (x6 : Int32) (hx0 : (19, x0) ∈ ids) {z : St} {H : Heap} {locs : List Loc} {ls : Array Slot} (hr : zRep D cy B ids A s.heap z H locs) (hl : lv_has ls 8 [(0, .ref (B 19 x0)), (2, .int x2), (3, .int x3), (4, .int x4), (5, .int x5), (6, .int x6)]), K82 x0 x2 x3 x4 x5 x6 z = some (r, z') → W p l e rmX19_areJoined s m args below meth c H locs 0 0 Q (F0 m 82 ls [])) (x0 : Nat) (x2 : Int32) (x3 : Int32) (x4 : Int32) (x5 : Int32) (x6 : Int32) (hx0 : (19, x0) ∈ ids) {z : St} {H : Heap} {locs : List Loc} {ls : Array Slot} (hr : zRep D cy B ids A s.heap z H locs) (hl : lv_has ls 8 [(0, .ref (B 19 x0)), (2, .int x2), (3, .int x3), (4, .int x4), (5, .int x5), (6, .int x6)]) (h : fX19_areJoined_82b N K58 K67 K82 x0 x2 x3 x4 x5 x6 z = some (r, z')) : W p l e rmX19_areJoined s m args below meth c H locs 0 0 Q (F0 m 82 ls []) := by
  unfold fX19_areJoined_82b at h
  refine lv_aload_n F.1 F.2.1 dX19_areJoined_82 rfl (lv_at hl 0 rfl) ?_
  refine lv_iload F.1 F.2.1 dX19_areJoined_83 (lv_at hl 3 rfl) ?_
  replace h := zc_some h
  obtain ⟨r1, z2, hc3, h⟩ := h
  refine zr_calli (zrun_V (As := [.int x4]) (rest := []) zq_2529 zq_2531 zs_X19_isRouter zq_2532 zq_4 hdX19_isRouter (by decide) (T := TX19) (N := 32) rfl (okX19_isRouter l D cy B ids hst N x0 hx0 x4  hr.2.2 hc3) F hr hx0 hl.1 rfl (by decide) dX19_areJoined_85 rfl rfl hroX19_areJoined_X19_isRouter ⟨Nat.zero_le _, Nat.zero_le _⟩) F hA hr (fun H locs hw4 hr => ?_)
  clear hc3
  refine lv_if_eq (tgt := 151) F.1 F.2.1 dX19_areJoined_88 (by decide) (fun c5 => ?_) (fun c5 => ?_)
  · replace h := zi_t c5 h
    exact bX19_areJoined_151 hst F hA E hK58 hK67 x0 x2 x3 x4 x5 hx0 hr (lv_sub hl [0, 1, 2, 3, 4] rfl) h
  · replace h := zi_f c5 h
    refine lv_iload F.1 F.2.1 dX19_areJoined_91 (lv_at hl 5 rfl) ?_
    refine lv_aload_n F.1 F.2.1 dX19_areJoined_93 rfl (lv_at hl 0 rfl) ?_
    refine gf19_114 F hx0 hr dX19_areJoined_94 ?_
    refine lv_iload F.1 F.2.1 dX19_areJoined_97 (lv_at hl 3 rfl) ?_
    replace h := zk_some h
    obtain ⟨c6, h⟩ := h
    refine zr_aaldv (k := 186) (by decide) rfl rfl (zlen_d (by decide)) F (zal_a F hx0 (j := 18) rfl) hr dX19_areJoined_99 c6 (fun y7 ey7 => ?_)
    replace h := zl_sub ey7 h
    have hy7 := zal_q hr (zal_a F hx0 (j := 18) rfl) rfl ey7
    clear ey7
    replace h := zd_some h
    obtain ⟨a8, rfl, h⟩ := h
    refine gf19_273 F (hy7 _ rfl) hr dX19_areJoined_100 ?_
    refine lv_icmp_ge (tgt := 151) F.1 F.2.1 dX19_areJoined_103 (by decide) (fun c9 => ?_) (fun c9 => ?_)
    · replace h := zi_t c9 h
      exact bX19_areJoined_151 hst F hA E hK58 hK67 x0 x2 x3 x4 x5 hx0 hr (lv_sub hl [0, 1, 2, 3, 4] rfl) h
    · replace h := zi_f c9 h
      refine lv_iload F.1 F.2.1 dX19_areJoined_106 (lv_at hl 4 rfl) ?_
      refine lv_if_ne (tgt := 138) F.1 F.2.1 dX19_areJoined_108 (by decide) (fun c10 => ?_) (fun c10 => ?_)
      · replace h := zi_t c10 h
        exact bX19_areJoined_138 hst F hA E hK58 hK67 hK82 x0 x2 x3 x4 x6 hx0 hr (lv_sub hl [0, 1, 2, 3, 5] rfl) h
      · replace h := zi_f (fun q => q c10) h
        refine lv_aload_n F.1 F.2.1 dX19_areJoined_111 rfl (lv_at hl 0 rfl) ?_
        refine gf19_136 F hx0 hr dX19_areJoined_112 ?_
        refine lv_aload_n F.1 F.2.1 dX19_areJoined_115 rfl (lv_at hl 0 rfl) ?_
        refine gf19_114 F hx0 hr dX19_areJoined_116 ?_
        refine lv_iload F.1 F.2.1 dX19_areJoined_119 (lv_at hl 3 rfl) ?_
        replace h := zk_some h
        obtain ⟨c11, h⟩ := h
        refine zr_aaldv (k := 186) (by decide) rfl rfl (zlen_d (by decide)) F (zal_a F hx0 (j := 18) rfl) hr dX19_areJoined_121 c11 (fun y12 ey12 => ?_)
        replace h := zl_sub ey12 h
        have hy12 := zal_q hr (zal_a F hx0 (j := 18) rfl) rfl ey12
        clear ey12
        replace h := zd_some h
        obtain ⟨a13, rfl, h⟩ := h
        refine gf19_276 F (hy12 _ rfl) hr dX19_areJoined_122 ?_
        refine lv_iload F.1 F.2.1 dX19_areJoined_125 (lv_at hl 5 rfl) ?_
        replace h := zk_some h
        obtain ⟨c14, h⟩ := h
        refine zr_aaldv (k := 147) (by decide) rfl rfl (zlen_d (by decide)) F (zal_a F (hy12 _ rfl) (j := 2) rfl) hr dX19_areJoined_127 c14 (fun y15 ey15 => ?_)
        replace h := zl_sub ey15 h
        have hy15 := zal_q hr (zal_a F (hy12 _ rfl) (j := 2) rfl) rfl ey15
        clear ey15
        replace h := zd_some h
        obtain ⟨a16, rfl, h⟩ := h
        refine gf19_149 F (hy15 _ rfl) hr dX19_areJoined_128 (fun y17 ey17 => ?_)
        replace h := zl_sub ey17 h
        have hy17 := zal_g hr (hy15 _ rfl) (j := 2) rfl ey17
        clear ey17
        replace h := zd_some h
        obtain ⟨a18, rfl, h⟩ := h
        refine gf19_181 F (hy17 _ rfl) hr dX19_areJoined_131 ?_
        replace h := zk_some h
        obtain ⟨c19, h⟩ := h
        refine zr_zald (k := 192) (by decide) rfl (by decide) F (zal_a F hx0 (j := 31) rfl) hr dX19_areJoined_134 c19 ?_
        refine lv_if_eq (tgt := 142) F.1 F.2.1 dX19_areJoined_135 (by decide) (fun c20 => ?_) (fun c20 => ?_)
        · replace h := zi_t c20 h
          refine lv_iconst (v := (0 : Int32)) F.1 F.2.1 dX19_areJoined_142 (by decide) ?_
          exact bX19_areJoined_143 hst F hA E hK58 hK67 hK82 x0 x2 x3 x4 x6 (0 : Int32) hx0 hr (lv_sub hl [0, 1, 2, 3, 5] rfl) h
        · replace h := zi_f c20 h
          exact bX19_areJoined_138 hst F hA E hK58 hK67 hK82 x0 x2 x3 x4 x6 hx0 hr (lv_sub hl [0, 1, 2, 3, 5] rfl) h
theorem lX19_areJoined_82 (hst : zSt B ids) (F : zFx p m c cX19_areJoined 8 s args RX19 D cy B ids A) (hA : ∀ q : Nat, s.heap.size ≤ q → A q) {r : Int32} {z' : St} (E : zEnd p l e rmX19_areJoined s m args below meth c cX19_areJoined D cy B ids A Q (some (.int r)) z' .ireturn (r = 0 ∨ r = 1)) {N : Nat} {K58 : Nat → Int32 → Int32 → St → Option (Int32 × St)} {K67 : Nat → Int32 → Int32 → Int32 → St → Option (Int32 × St)} (hK58 : ∀ (x0 : Nat) (x2 : Int32) (x3 : Int32) (hx0 : (19, x0) ∈ ids) {z : St} {H : Heap} {locs : List Loc} {ls : Array Slot} (hr : zRep D cy B ids A s.heap z H locs) (hl : lv_has ls 8 [(0, .ref (B 19 x0)), (2, .int x2), (3, .int x3)]), K58 x0 x2 x3 z = some (r, z') → W p l e rmX19_areJoined s m args below meth c H locs 0 0 Q (F0 m 58 ls [])) (hK67 : ∀ (x0 : Nat) (x2 : Int32) (x3 : Int32) (x4 : Int32) (hx0 : (19, x0) ∈ ids) {z : St} {H : Heap} {locs : List Loc} {ls : Array Slot} (hr : zRep D cy B ids A s.heap z H locs) (hl : lv_has ls 8 [(0, .ref (B 19 x0)), (2, .int x2), (3, .int x3), (4, .int x4)]), K67 x0 x2 x3 x4 z = some (r, z') → W p l e rmX19_areJoined s m args below meth c H locs 0 0 Q (F0 m 67 ls [])) : ∀ (n : Nat) (x0 : Nat) (x2 : Int32) (x3 : Int32) (x4 : Int32) (x5 : Int32) (x6 : Int32) (hx0 : (19, x0) ∈ ids) {z : St} {H : Heap} {locs : List Loc} {ls : Array Slot} (hr : zRep D cy B ids A s.heap z H locs) (hl : lv_has ls 8 [(0, .ref (B 19 x0)), (2, .int x2), (3, .int x3), (4, .int x4), (5, .int x5), (6, .int x6)]), fX19_areJoined_82 N K58 K67 n x0 x2 x3 x4 x5 x6 z = some (r, z') → W p l e rmX19_areJoined s m args below meth c H locs 0 0 Q (F0 m 82 ls []) := by
  intro n
  induction n with
  | zero => intro x0 x2 x3 x4 x5 x6 hx0 z H locs ls hr hl h; cases h
  | succ n ih => intro x0 x2 x3 x4 x5 x6 hx0 z H locs ls hr hl h; exact bX19_areJoined_82 hst F hA E hK58 hK67 ih x0 x2 x3 x4 x5 x6 hx0 hr hl h
def fX19_areJoined_67b (N : Nat) (K58 : Nat → Int32 → Int32 → St → Option (Int32 × St)) (K67 : Nat → Int32 → Int32 → Int32 → St → Option (Int32 × St)) (x0 : Nat) (x2 : Int32) (x3 : Int32) (x4 : Int32) (z : St) : Option (Int32 × St) := if (zgI z 19 19 x0) ≤ x4 then (K58 x0 x2 x3 z) else (fX19_areJoined_82 N K58 K67 N x0 x2 x3 x4 (0 : Int32) (0 : Int32) z)
def fX19_areJoined_67 (N : Nat) (K58 : Nat → Int32 → Int32 → St → Option (Int32 × St)) : Nat → Nat → Int32 → Int32 → Int32 → St → Option (Int32 × St)
  | 0 => fun _ _ _ _ _ => none
  | n + 1 => fX19_areJoined_67b N K58 (fX19_areJoined_67 N K58 n)
set_option maxHeartbeats 4000000 in
set_option maxRecDepth 100000 in
theorem bX19_areJoined_67 (hst : zSt B ids) (F : zFx p m c cX19_areJoined 8 s args RX19 D cy B ids A) (hA : ∀ q : Nat, s.heap.size ≤ q → A q) {r : Int32} {z' : St} (E : zEnd p l e rmX19_areJoined s m args below meth c cX19_areJoined D cy B ids A Q (some (.int r)) z' .ireturn (r = 0 ∨ r = 1)) {N : Nat} {K58 : Nat → Int32 → Int32 → St → Option (Int32 × St)} {K67 : Nat → Int32 → Int32 → Int32 → St → Option (Int32 × St)} (hK58 : ∀ (x0 : Nat) (x2 : Int32) (x3 : Int32) (hx0 : (19, x0) ∈ ids) {z : St} {H : Heap} {locs : List Loc} {ls : Array Slot} (hr : zRep D cy B ids A s.heap z H locs) (hl : lv_has ls 8 [(0, .ref (B 19 x0)), (2, .int x2), (3, .int x3)]), K58 x0 x2 x3 z = some (r, z') → W p l e rmX19_areJoined s m args below meth c H locs 0 0 Q (F0 m 58 ls [])) (hK67 : ∀ (x0 : Nat) (x2 : Int32) (x3 : Int32) (x4 : Int32) (hx0 : (19, x0) ∈ ids) {z : St} {H : Heap} {locs : List Loc} {ls : Array Slot} (hr : zRep D cy B ids A s.heap z H locs) (hl : lv_has ls 8 [(0, .ref (B 19 x0)), (2, .int x2), (3, .int x3), (4, .int x4)]), K67 x0 x2 x3 x4 z = some (r, z') → W p l e rmX19_areJoined s m args below meth c H locs 0 0 Q (F0 m 67 ls [])) (x0 : Nat) (x2 : Int32) (x3 : Int32) (x4 : Int32) (hx0 : (19, x0) ∈ ids) {z : St} {H : Heap} {locs : List Loc} {ls : Array Slot} (hr : zRep D cy B ids A s.heap z H locs) (hl : lv_has ls 8 [(0, .ref (B 19 x0)), (2, .int x2), (3, .int x3), (4, .int x4)]) (h : fX19_areJoined_67b N K58 K67 x0 x2 x3 x4 z = some (r, z')) : W p l e rmX19_areJoined s m args below meth c H locs 0 0 Q (F0 m 67 ls []) := by
  unfold fX19_areJoined_67b at h
  refine lv_iload F.1 F.2.1 dX19_areJoined_67 (lv_at hl 3 rfl) ?_
  refine lv_aload_n F.1 F.2.1 dX19_areJoined_69 rfl (lv_at hl 0 rfl) ?_
  refine gf19_831 F hx0 hr dX19_areJoined_70 ?_
  refine lv_icmp_ge (tgt := 238) F.1 F.2.1 dX19_areJoined_73 (by decide) (fun c1 => ?_) (fun c1 => ?_)
  · replace h := zi_t c1 h
    refine lv_goto (tgt := 58) F.1 F.2.1 dX19_areJoined_238 (by decide) ?_
    exact hK58 x0 x2 x3 hx0 hr (lv_sub hl [0, 1, 2] rfl) h
  · replace h := zi_f c1 h
    refine lv_iconst (v := (0 : Int32)) F.1 F.2.1 dX19_areJoined_76 (by decide) ?_
    refine lv_istore (lv' := [(5, .int (0 : Int32)), (0, .ref (B 19 x0)), (2, .int x2), (3, .int x3), (4, .int x4)]) F.1 F.2.1 dX19_areJoined_77 hl (by decide) rfl (fun ls hl => ?_)
    refine lv_iconst (v := (0 : Int32)) F.1 F.2.1 dX19_areJoined_79 (by decide) ?_
    refine lv_istore (lv' := [(6, .int (0 : Int32)), (5, .int (0 : Int32)), (0, .ref (B 19 x0)), (2, .int x2), (3, .int x3), (4, .int x4)]) F.1 F.2.1 dX19_areJoined_80 hl (by decide) rfl (fun ls hl => ?_)
    exact lX19_areJoined_82 hst F hA E hK58 hK67 _ x0 x2 x3 x4 (0 : Int32) (0 : Int32) hx0 hr (lv_sub hl [2, 3, 4, 5, 1, 0] rfl) h
theorem lX19_areJoined_67 (hst : zSt B ids) (F : zFx p m c cX19_areJoined 8 s args RX19 D cy B ids A) (hA : ∀ q : Nat, s.heap.size ≤ q → A q) {r : Int32} {z' : St} (E : zEnd p l e rmX19_areJoined s m args below meth c cX19_areJoined D cy B ids A Q (some (.int r)) z' .ireturn (r = 0 ∨ r = 1)) {N : Nat} {K58 : Nat → Int32 → Int32 → St → Option (Int32 × St)} (hK58 : ∀ (x0 : Nat) (x2 : Int32) (x3 : Int32) (hx0 : (19, x0) ∈ ids) {z : St} {H : Heap} {locs : List Loc} {ls : Array Slot} (hr : zRep D cy B ids A s.heap z H locs) (hl : lv_has ls 8 [(0, .ref (B 19 x0)), (2, .int x2), (3, .int x3)]), K58 x0 x2 x3 z = some (r, z') → W p l e rmX19_areJoined s m args below meth c H locs 0 0 Q (F0 m 58 ls [])) : ∀ (n : Nat) (x0 : Nat) (x2 : Int32) (x3 : Int32) (x4 : Int32) (hx0 : (19, x0) ∈ ids) {z : St} {H : Heap} {locs : List Loc} {ls : Array Slot} (hr : zRep D cy B ids A s.heap z H locs) (hl : lv_has ls 8 [(0, .ref (B 19 x0)), (2, .int x2), (3, .int x3), (4, .int x4)]), fX19_areJoined_67 N K58 n x0 x2 x3 x4 z = some (r, z') → W p l e rmX19_areJoined s m args below meth c H locs 0 0 Q (F0 m 67 ls []) := by
  intro n
  induction n with
  | zero => intro x0 x2 x3 x4 hx0 z H locs ls hr hl h; cases h
  | succ n ih => intro x0 x2 x3 x4 hx0 z H locs ls hr hl h; exact bX19_areJoined_67 hst F hA E hK58 ih x0 x2 x3 x4 hx0 hr hl h
def fX19_areJoined_58b (N : Nat) (K58 : Nat → Int32 → Int32 → St → Option (Int32 × St)) (x0 : Nat) (x2 : Int32) (x3 : Int32) (z : St) : Option (Int32 × St) := if x3 = 0 then (zk x2 24 <| zq ((zgA z 192 x0 (Int32.toNatClampNeg x2)) = 0 ∨ (zgA z 192 x0 (Int32.toNatClampNeg x2)) = 1) <| some ((zgA z 192 x0 (Int32.toNatClampNeg x2)), z)) else (fX19_areJoined_67 N K58 N x0 x2 (0 : Int32) (0 : Int32) z)
def fX19_areJoined_58 (N : Nat)  : Nat → Nat → Int32 → Int32 → St → Option (Int32 × St)
  | 0 => fun _ _ _ _ => none
  | n + 1 => fX19_areJoined_58b N (fX19_areJoined_58 N  n)
set_option maxHeartbeats 4000000 in
set_option maxRecDepth 100000 in
theorem bX19_areJoined_58 (hst : zSt B ids) (F : zFx p m c cX19_areJoined 8 s args RX19 D cy B ids A) (hA : ∀ q : Nat, s.heap.size ≤ q → A q) {r : Int32} {z' : St} (E : zEnd p l e rmX19_areJoined s m args below meth c cX19_areJoined D cy B ids A Q (some (.int r)) z' .ireturn (r = 0 ∨ r = 1)) {N : Nat} {K58 : Nat → Int32 → Int32 → St → Option (Int32 × St)} (hK58 : ∀ (x0 : Nat) (x2 : Int32) (x3 : Int32) (hx0 : (19, x0) ∈ ids) {z : St} {H : Heap} {locs : List Loc} {ls : Array Slot} (hr : zRep D cy B ids A s.heap z H locs) (hl : lv_has ls 8 [(0, .ref (B 19 x0)), (2, .int x2), (3, .int x3)]), K58 x0 x2 x3 z = some (r, z') → W p l e rmX19_areJoined s m args below meth c H locs 0 0 Q (F0 m 58 ls [])) (x0 : Nat) (x2 : Int32) (x3 : Int32) (hx0 : (19, x0) ∈ ids) {z : St} {H : Heap} {locs : List Loc} {ls : Array Slot} (hr : zRep D cy B ids A s.heap z H locs) (hl : lv_has ls 8 [(0, .ref (B 19 x0)), (2, .int x2), (3, .int x3)]) (h : fX19_areJoined_58b N K58 x0 x2 x3 z = some (r, z')) : W p l e rmX19_areJoined s m args below meth c H locs 0 0 Q (F0 m 58 ls []) := by
  unfold fX19_areJoined_58b at h
  refine lv_iload_n F.1 F.2.1 dX19_areJoined_58 rfl (lv_at hl 2 rfl) ?_
  refine lv_if_eq (tgt := 241) F.1 F.2.1 dX19_areJoined_59 (by decide) (fun c1 => ?_) (fun c1 => ?_)
  · replace h := zi_t c1 h
    refine lv_aload_n F.1 F.2.1 dX19_areJoined_241 rfl (lv_at hl 0 rfl) ?_
    refine gf19_136 F hx0 hr dX19_areJoined_242 ?_
    refine lv_iload_n F.1 F.2.1 dX19_areJoined_245 rfl (lv_at hl 1 rfl) ?_
    replace h := zk_some h
    obtain ⟨c2, h⟩ := h
    refine zr_zald (k := 192) (by decide) rfl (by decide) F (zal_a F hx0 (j := 31) rfl) hr dX19_areJoined_246 c2 ?_
    replace h := zq_some h
    obtain ⟨c3, h⟩ := h
    obtain ⟨rfl, rfl⟩ := zret h
    exact E _ _ _ _ dX19_areJoined_247 c3 hr
  · replace h := zi_f c1 h
    refine lv_iconst (v := (0 : Int32)) F.1 F.2.1 dX19_areJoined_62 (by decide) ?_
    refine lv_istore_n (lv' := [(3, .int (0 : Int32)), (0, .ref (B 19 x0)), (2, .int x2)]) F.1 F.2.1 dX19_areJoined_63 rfl hl (by decide) rfl (fun ls hl => ?_)
    refine lv_iconst (v := (0 : Int32)) F.1 F.2.1 dX19_areJoined_64 (by decide) ?_
    refine lv_istore (lv' := [(4, .int (0 : Int32)), (3, .int (0 : Int32)), (0, .ref (B 19 x0)), (2, .int x2)]) F.1 F.2.1 dX19_areJoined_65 hl (by decide) rfl (fun ls hl => ?_)
    exact lX19_areJoined_67 hst F hA E hK58 _ x0 x2 (0 : Int32) (0 : Int32) hx0 hr (lv_sub hl [2, 3, 1, 0] rfl) h
theorem lX19_areJoined_58 (hst : zSt B ids) (F : zFx p m c cX19_areJoined 8 s args RX19 D cy B ids A) (hA : ∀ q : Nat, s.heap.size ≤ q → A q) {r : Int32} {z' : St} (E : zEnd p l e rmX19_areJoined s m args below meth c cX19_areJoined D cy B ids A Q (some (.int r)) z' .ireturn (r = 0 ∨ r = 1)) {N : Nat}  : ∀ (n : Nat) (x0 : Nat) (x2 : Int32) (x3 : Int32) (hx0 : (19, x0) ∈ ids) {z : St} {H : Heap} {locs : List Loc} {ls : Array Slot} (hr : zRep D cy B ids A s.heap z H locs) (hl : lv_has ls 8 [(0, .ref (B 19 x0)), (2, .int x2), (3, .int x3)]), fX19_areJoined_58 N  n x0 x2 x3 z = some (r, z') → W p l e rmX19_areJoined s m args below meth c H locs 0 0 Q (F0 m 58 ls []) := by
  intro n
  induction n with
  | zero => intro x0 x2 x3 hx0 z H locs ls hr hl h; cases h
  | succ n ih => intro x0 x2 x3 hx0 z H locs ls hr hl h; exact bX19_areJoined_58 hst F hA E ih x0 x2 x3 hx0 hr hl h
def fX19_areJoined_28b (N : Nat) (K28 : Nat → Int32 → Int32 → Int32 → St → Option (Int32 × St)) (x0 : Nat) (x1 : Int32) (x2 : Int32) (x3 : Int32) (z : St) : Option (Int32 × St) := if (24 : Int32) ≤ x3 then (fX19_areJoined_58 N N x0 x2 (1 : Int32) z) else (if ¬ x3 = x1 then (fX19_areJoined_49 N K28 x0 x1 x2 x3 x0 x3 (0 : Int32) z) else (fX19_areJoined_49 N K28 x0 x1 x2 x3 x0 x3 (1 : Int32) z))
def fX19_areJoined_28 (N : Nat)  : Nat → Nat → Int32 → Int32 → Int32 → St → Option (Int32 × St)
  | 0 => fun _ _ _ _ _ => none
  | n + 1 => fX19_areJoined_28b N (fX19_areJoined_28 N  n)
set_option maxHeartbeats 4000000 in
set_option maxRecDepth 100000 in
theorem bX19_areJoined_28 (hst : zSt B ids) (F : zFx p m c cX19_areJoined 8 s args RX19 D cy B ids A) (hA : ∀ q : Nat, s.heap.size ≤ q → A q) {r : Int32} {z' : St} (E : zEnd p l e rmX19_areJoined s m args below meth c cX19_areJoined D cy B ids A Q (some (.int r)) z' .ireturn (r = 0 ∨ r = 1)) {N : Nat} {K28 : Nat → Int32 → Int32 → Int32 → St → Option (Int32 × St)} (hK28 : ∀ (x0 : Nat) (x1 : Int32) (x2 : Int32) (x3 : Int32) (hx0 : (19, x0) ∈ ids) {z : St} {H : Heap} {locs : List Loc} {ls : Array Slot} (hr : zRep D cy B ids A s.heap z H locs) (hl : lv_has ls 8 [(0, .ref (B 19 x0)), (1, .int x1), (2, .int x2), (3, .int x3)]), K28 x0 x1 x2 x3 z = some (r, z') → W p l e rmX19_areJoined s m args below meth c H locs 0 0 Q (F0 m 28 ls [])) (x0 : Nat) (x1 : Int32) (x2 : Int32) (x3 : Int32) (hx0 : (19, x0) ∈ ids) {z : St} {H : Heap} {locs : List Loc} {ls : Array Slot} (hr : zRep D cy B ids A s.heap z H locs) (hl : lv_has ls 8 [(0, .ref (B 19 x0)), (1, .int x1), (2, .int x2), (3, .int x3)]) (h : fX19_areJoined_28b N K28 x0 x1 x2 x3 z = some (r, z')) : W p l e rmX19_areJoined s m args below meth c H locs 0 0 Q (F0 m 28 ls []) := by
  unfold fX19_areJoined_28b at h
  refine lv_iload_n F.1 F.2.1 dX19_areJoined_28 rfl (lv_at hl 3 rfl) ?_
  refine lv_bipush (v := (24 : Int32)) F.1 F.2.1 dX19_areJoined_29 (by decide) ?_
  refine lv_icmp_ge (tgt := 56) F.1 F.2.1 dX19_areJoined_31 (by decide) (fun c1 => ?_) (fun c1 => ?_)
  · replace h := zi_t c1 h
    refine lv_iconst (v := (1 : Int32)) F.1 F.2.1 dX19_areJoined_56 (by decide) ?_
    refine lv_istore_n (lv' := [(3, .int (1 : Int32)), (0, .ref (B 19 x0)), (1, .int x1), (2, .int x2)]) F.1 F.2.1 dX19_areJoined_57 rfl hl (by decide) rfl (fun ls hl => ?_)
    exact lX19_areJoined_58 hst F hA E  _ x0 x2 (1 : Int32) hx0 hr (lv_sub hl [1, 3, 0] rfl) h
  · replace h := zi_f c1 h
    refine lv_aload_n F.1 F.2.1 dX19_areJoined_34 rfl (lv_at hl 0 rfl) ?_
    refine gf19_136 F hx0 hr dX19_areJoined_35 ?_
    refine lv_iload_n F.1 F.2.1 dX19_areJoined_38 rfl (lv_at hl 3 rfl) ?_
    refine lv_iload_n F.1 F.2.1 dX19_areJoined_39 rfl (lv_at hl 3 rfl) ?_
    refine lv_iload_n F.1 F.2.1 dX19_areJoined_40 rfl (lv_at hl 1 rfl) ?_
    refine lv_icmp_ne (tgt := 48) F.1 F.2.1 dX19_areJoined_41 (by decide) (fun c2 => ?_) (fun c2 => ?_)
    · replace h := zi_t c2 h
      refine lv_iconst (v := (0 : Int32)) F.1 F.2.1 dX19_areJoined_48 (by decide) ?_
      exact bX19_areJoined_49 hst F hA E hK28 x0 x1 x2 x3 x0 x3 (0 : Int32) hx0 (zal_a F hx0 (j := 31) rfl) hr (lv_sub hl [0, 1, 2, 3] rfl) h
    · replace h := zi_f (fun q => q c2) h
      refine lv_iconst (v := (1 : Int32)) F.1 F.2.1 dX19_areJoined_44 (by decide) ?_
      refine lv_goto (tgt := 49) F.1 F.2.1 dX19_areJoined_45 (by decide) ?_
      exact bX19_areJoined_49 hst F hA E hK28 x0 x1 x2 x3 x0 x3 (1 : Int32) hx0 (zal_a F hx0 (j := 31) rfl) hr (lv_sub hl [0, 1, 2, 3] rfl) h
theorem lX19_areJoined_28 (hst : zSt B ids) (F : zFx p m c cX19_areJoined 8 s args RX19 D cy B ids A) (hA : ∀ q : Nat, s.heap.size ≤ q → A q) {r : Int32} {z' : St} (E : zEnd p l e rmX19_areJoined s m args below meth c cX19_areJoined D cy B ids A Q (some (.int r)) z' .ireturn (r = 0 ∨ r = 1)) {N : Nat}  : ∀ (n : Nat) (x0 : Nat) (x1 : Int32) (x2 : Int32) (x3 : Int32) (hx0 : (19, x0) ∈ ids) {z : St} {H : Heap} {locs : List Loc} {ls : Array Slot} (hr : zRep D cy B ids A s.heap z H locs) (hl : lv_has ls 8 [(0, .ref (B 19 x0)), (1, .int x1), (2, .int x2), (3, .int x3)]), fX19_areJoined_28 N  n x0 x1 x2 x3 z = some (r, z') → W p l e rmX19_areJoined s m args below meth c H locs 0 0 Q (F0 m 28 ls []) := by
  intro n
  induction n with
  | zero => intro x0 x1 x2 x3 hx0 z H locs ls hr hl h; cases h
  | succ n ih => intro x0 x1 x2 x3 hx0 z H locs ls hr hl h; exact bX19_areJoined_28 hst F hA E ih x0 x1 x2 x3 hx0 hr hl h
def fX19_areJoined (N : Nat)  (x0 : Nat) (x1 : Int32) (x2 : Int32) (z : St) : Option (Int32 × St) := zk x1 24 <| zl (zgQ z 187 x0 (Int32.toNatClampNeg x1)) fun y2 => zd y2 fun a3 => if (zgI z 16 3 a3) = 0 then (some ((0 : Int32), z)) else (zk x2 24 <| zl (zgQ z 187 x0 (Int32.toNatClampNeg x2)) fun y6 => zd y6 fun a7 => if ¬ (zgI z 16 3 a7) = 0 then (fX19_areJoined_28 N N x0 x1 x2 (0 : Int32) z) else (some ((0 : Int32), z)))
set_option maxHeartbeats 4000000 in
set_option maxRecDepth 100000 in
theorem bX19_areJoined_0 (hst : zSt B ids) (F : zFx p m c cX19_areJoined 8 s args RX19 D cy B ids A) (hA : ∀ q : Nat, s.heap.size ≤ q → A q) {r : Int32} {z' : St} (E : zEnd p l e rmX19_areJoined s m args below meth c cX19_areJoined D cy B ids A Q (some (.int r)) z' .ireturn (r = 0 ∨ r = 1)) {N : Nat}  (x0 : Nat) (x1 : Int32) (x2 : Int32) (hx0 : (19, x0) ∈ ids) {z : St} {H : Heap} {locs : List Loc} {ls : Array Slot} (hr : zRep D cy B ids A s.heap z H locs) (hl : lv_has ls 8 [(0, .ref (B 19 x0)), (1, .int x1), (2, .int x2)]) (h : fX19_areJoined N x0 x1 x2 z = some (r, z')) : W p l e rmX19_areJoined s m args below meth c H locs 0 0 Q (F0 m 0 ls []) := by
  unfold fX19_areJoined at h
  refine lv_aload_n F.1 F.2.1 dX19_areJoined_0 rfl (lv_at hl 0 rfl) ?_
  refine gf19_120 F hx0 hr dX19_areJoined_1 ?_
  refine lv_iload_n F.1 F.2.1 dX19_areJoined_4 rfl (lv_at hl 1 rfl) ?_
  replace h := zk_some h
  obtain ⟨c1, h⟩ := h
  refine zr_aaldv (k := 187) (by decide) rfl rfl (zlen_d (by decide)) F (zal_a F hx0 (j := 20) rfl) hr dX19_areJoined_5 c1 (fun y2 ey2 => ?_)
  replace h := zl_sub ey2 h
  have hy2 := zal_q hr (zal_a F hx0 (j := 20) rfl) rfl ey2
  clear ey2
  replace h := zd_some h
  obtain ⟨a3, rfl, h⟩ := h
  refine gf19_158 F (hy2 _ rfl) hr dX19_areJoined_6 ?_
  refine lv_if_eq (tgt := 24) F.1 F.2.1 dX19_areJoined_9 (by decide) (fun c4 => ?_) (fun c4 => ?_)
  · replace h := zi_t c4 h
    refine lv_iconst (v := (0 : Int32)) F.1 F.2.1 dX19_areJoined_24 (by decide) ?_
    obtain ⟨rfl, rfl⟩ := zret h
    exact E _ _ _ _ dX19_areJoined_25 (by decide) hr
  · replace h := zi_f c4 h
    refine lv_aload_n F.1 F.2.1 dX19_areJoined_12 rfl (lv_at hl 0 rfl) ?_
    refine gf19_120 F hx0 hr dX19_areJoined_13 ?_
    refine lv_iload_n F.1 F.2.1 dX19_areJoined_16 rfl (lv_at hl 2 rfl) ?_
    replace h := zk_some h
    obtain ⟨c5, h⟩ := h
    refine zr_aaldv (k := 187) (by decide) rfl rfl (zlen_d (by decide)) F (zal_a F hx0 (j := 20) rfl) hr dX19_areJoined_17 c5 (fun y6 ey6 => ?_)
    replace h := zl_sub ey6 h
    have hy6 := zal_q hr (zal_a F hx0 (j := 20) rfl) rfl ey6
    clear ey6
    replace h := zd_some h
    obtain ⟨a7, rfl, h⟩ := h
    refine gf19_158 F (hy6 _ rfl) hr dX19_areJoined_18 ?_
    refine lv_if_ne (tgt := 26) F.1 F.2.1 dX19_areJoined_21 (by decide) (fun c8 => ?_) (fun c8 => ?_)
    · replace h := zi_t c8 h
      refine lv_iconst (v := (0 : Int32)) F.1 F.2.1 dX19_areJoined_26 (by decide) ?_
      refine lv_istore_n (lv' := [(3, .int (0 : Int32)), (0, .ref (B 19 x0)), (1, .int x1), (2, .int x2)]) F.1 F.2.1 dX19_areJoined_27 rfl hl (by decide) rfl (fun ls hl => ?_)
      exact lX19_areJoined_28 hst F hA E  _ x0 x1 x2 (0 : Int32) hx0 hr (lv_sub hl [1, 2, 3, 0] rfl) h
    · replace h := zi_f (fun q => q c8) h
      refine lv_iconst (v := (0 : Int32)) F.1 F.2.1 dX19_areJoined_24 (by decide) ?_
      obtain ⟨rfl, rfl⟩ := zret h
      exact E _ _ _ _ dX19_areJoined_25 (by decide) hr
end SX19_areJoined
set_option maxRecDepth 100000 in
theorem okX19_areJoined (l : Launch) (D : va_G) (cy : Nat → ClassId) (B : Nat → Nat → Nat) (ids : List (Nat × Nat)) (hst : zSt B ids) (N : Nat) (x0 : Nat) (hx0 : (19, x0) ∈ ids) (x1 : Int32) (x2 : Int32) {z : St} {r : Int32} {z' : St} (hW : zWf ids z) (h : fX19_areJoined N x0 x1 x2 z = some (r, z')) : zM l yX19_areJoined (zws yX19_areJoined cX19_areJoined 8 (some .boolean)) rmX19_areJoined D cy B ids [.ref (B 19 x0), .int x1, .int x2] (some (.int r)) (r = 0 ∨ r = 1) z z' :=
  zM_of hst hW (by decide +kernel) (Nat.le_of_ble_eq_true rfl) (fun p e s m args below meth c A ls F hA hret hlocks hr hl => bX19_areJoined_0 hst F hA (zEnd_z F hret hlocks) x0 x1 x2 hx0 hr hl h)
