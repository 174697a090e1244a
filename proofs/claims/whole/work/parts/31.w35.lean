abbrev rmX19_fill : Room := { frames := 4, cells := 0, slots := 0, locals := 86 }
theorem hdX19_fill : yX19_fill.cls ≠ "java/lang/invoke/MethodHandle" ∧ yX19_fill.cls ≠ "java/lang/invoke/VarHandle" ∧ (parseMethodDescriptor yX19_fill.desc).map (fun d => d.parameters.length) = some 5 := by decide +kernel
theorem hroX19_fill_X14_canWrite : rmX14_canWrite.frames + 1 ≤ rmX19_fill.frames ∧ 8 + (1 + 11) + rmX14_canWrite.locals ≤ rmX19_fill.locals := by decide
theorem hroX19_fill_X14_persist : rmX14_persist.frames + 1 ≤ rmX19_fill.frames ∧ 8 + (2 + 11) + rmX14_persist.locals ≤ rmX19_fill.locals := by decide
theorem hroX19_fill_X19_endAt : rmX19_endAt.frames + 1 ≤ rmX19_fill.frames ∧ 8 + (3 + 11) + rmX19_endAt.locals ≤ rmX19_fill.locals := by decide
theorem hroX19_fill_X19_fails : rmX19_fails.frames + 1 ≤ rmX19_fill.frames ∧ 8 + (3 + 11) + rmX19_fails.locals ≤ rmX19_fill.locals := by decide
theorem hroX19_fill_X19_isDoor : rmX19_isDoor.frames + 1 ≤ rmX19_fill.frames ∧ 8 + (3 + 11) + rmX19_isDoor.locals ≤ rmX19_fill.locals := by decide
theorem hroX19_fill_X19_stir : rmX19_stir.frames + 1 ≤ rmX19_fill.frames ∧ 8 + (1 + 11) + rmX19_stir.locals ≤ rmX19_fill.locals := by decide
theorem hroX19_fill_X19_writes : rmX19_writes.frames + 1 ≤ rmX19_fill.frames ∧ 8 + (3 + 11) + rmX19_writes.locals ≤ rmX19_fill.locals := by decide
section SX19_fill
variable {p : Program} {l : Launch} {e : Env} {s : State} {m : MethodId} {args : Array Value} {below : List Frame} {meth : Method} {c : Code} {Q : State → Prop} {D : va_G} {cy : Nat → ClassId} {B : Nat → Nat → Nat} {ids : List (Nat × Nat)} {A : Nat → Prop}
def fX19_fill_95 (N : Nat)  (x0 : Nat) (x6 : Option Nat) (x7 : Int32) (z : St) : Option (Int32 × St) := zd x6 fun a1 => zc (fX14_persist N a1 (zgI z 19 24 x0) z) fun _ z3 => zc (fX19_stir N x0 z3) fun _ z7 => some (x7, z7)
set_option maxHeartbeats 4000000 in
set_option maxRecDepth 100000 in
theorem bX19_fill_95 (hst : zSt B ids) (F : zFx p m c cX19_fill 8 s args RX19 D cy B ids A) (hA : ∀ q : Nat, s.heap.size ≤ q → A q) {r : Int32} {z' : St} (E : zEnd p l e rmX19_fill s m args below meth c cX19_fill D cy B ids A Q (some (.int r)) z' .ireturn True) {N : Nat}  (x0 : Nat) (x6 : Option Nat) (x7 : Int32) (hx0 : (19, x0) ∈ ids) (hx6 : ∀ t, x6 = some t → (14, t) ∈ ids) {z : St} {H : Heap} {locs : List Loc} {ls : Array Slot} (hr : zRep D cy B ids A s.heap z H locs) (hl : lv_has ls 8 [(0, .ref (B 19 x0)), (6, va_rf (Option.map (B 14) x6)), (7, .int x7)]) (h : fX19_fill_95 N x0 x6 x7 z = some (r, z')) : W p l e rmX19_fill s m args below meth c H locs 0 0 Q (F0 m 95 ls []) := by
  unfold fX19_fill_95 at h
  refine zr_aload F.1 F.2.1 dX19_fill_95 (lv_at hl 1 rfl) ?_
  refine lv_aload_n F.1 F.2.1 dX19_fill_97 rfl (lv_at hl 0 rfl) ?_
  refine gf19_143 F hx0 hr dX19_fill_98 ?_
  obtain ⟨a1, rfl, h⟩ := zd_some h
  obtain ⟨r2, z3, hc4, h⟩ := zc_some h
  refine zr_callv (zrun_VN (As := [.int (zgI z 19 24 x0)]) (rest := []) zn_2973 zq_2975 zs_X14_persist zq_2976 zq_21 hdX14_persist (by decide) (T := TX14) (N := 47) rfl (okX14_persist l D cy B ids hst N a1 (hx6 _ rfl) (zgI z 19 24 x0)  hr.2.2 hc4) F hr (hx6 _ rfl) hl.1 rfl (by decide) dX19_fill_101 rfl rfl hroX19_fill_X14_persist ⟨Nat.zero_le _, Nat.zero_le _⟩) F hA hr (fun H locs hx5 hr => ?_)
  clear hc4
  refine lv_aload_n F.1 F.2.1 dX19_fill_104 rfl (lv_at hl 0 rfl) ?_
  obtain ⟨r6, z7, hc8, h⟩ := zc_some h
  refine zr_callv (zrun_V (As := []) (rest := []) zq_2394 zq_2396 zs_X19_stir zq_2397 zq_4 hdX19_stir (by decide) (T := TX19) (N := 32) rfl (okX19_stir l D cy B ids hst N x0 hx0 hr.2.2 hc8) F hr hx0 hl.1 rfl (by decide) dX19_fill_105 rfl rfl hroX19_fill_X19_stir ⟨Nat.zero_le _, Nat.zero_le _⟩) F hA hr (fun H locs hx9 hr => ?_)
  clear hc8
  refine lv_iload F.1 F.2.1 dX19_fill_108 (lv_at hl 2 rfl) ?_
  obtain ⟨rfl, rfl⟩ := zret h
  exact E _ _ _ _ dX19_fill_110 trivial hr
def fX19_fill_66b (N : Nat) (K66 : Nat → Int32 → Int32 → Int32 → Option Nat → Int32 → St → Option (Int32 × St)) (x0 : Nat) (x3 : Int32) (x4 : Int32) (x5 : Int32) (x6 : Option Nat) (x7 : Int32) (z : St) : Option (Int32 × St) := if x5 ≤ x7 then (fX19_fill_95 N x0 x6 x7 z) else (zd x6 fun a2 => zc (fX19_writes N x0 a2 (x3 + (x4 * x7)) z) fun r3 z4 => if r3 = 0 then (fX19_fill_95 N x0 (some a2) x7 z4) else (zl (x7 + 1) fun v8 => K66 x0 x3 x4 x5 (some a2) v8 z4))
def fX19_fill_66 (N : Nat)  : Nat → Nat → Int32 → Int32 → Int32 → Option Nat → Int32 → St → Option (Int32 × St)
  | 0 => fun _ _ _ _ _ _ _ => none
  | n + 1 => fX19_fill_66b N (fX19_fill_66 N  n)
set_option maxHeartbeats 4000000 in
set_option maxRecDepth 100000 in
theorem bX19_fill_66 (hst : zSt B ids) (F : zFx p m c cX19_fill 8 s args RX19 D cy B ids A) (hA : ∀ q : Nat, s.heap.size ≤ q → A q) {r : Int32} {z' : St} (E : zEnd p l e rmX19_fill s m args below meth c cX19_fill D cy B ids A Q (some (.int r)) z' .ireturn True) {N : Nat} {K66 : Nat → Int32 → Int32 → Int32 → Option Nat → Int32 → St → Option (Int32 × St)} (hK66 : ∀ (x0 : Nat) (x3 : Int32) (x4 : Int32) (x5 : Int32) (x6 : Option Nat) (x7 : Int32) (hx0 : (19, x0) ∈ ids) (hx6 : ∀ t, x6 = some t → (14, t) ∈ ids) {z : St} {H : Heap} {locs : List Loc} {ls : Array Slot} (hr : zRep D cy B ids A s.heap z H locs) (hl : lv_has ls 8 [(0, .ref (B 19 x0)), (3, .int x3), (4, .int x4), (5, .int x5), (6, va_rf (Option.map (B 14) x6)), (7, .int x7)]), K66 x0 x3 x4 x5 x6 x7 z = some (r, z') → W p l e rmX19_fill s m args below meth c H locs 0 0 Q (F0 m 66 ls [])) (x0 : Nat) (x3 : Int32) (x4 : Int32) (x5 : Int32) (x6 : Option Nat) (x7 : Int32) (hx0 : (19, x0) ∈ ids) (hx6 : ∀ t, x6 = some t → (14, t) ∈ ids) {z : St} {H : Heap} {locs : List Loc} {ls : Array Slot} (hr : zRep D cy B ids A s.heap z H locs) (hl : lv_has ls 8 [(0, .ref (B 19 x0)), (3, .int x3), (4, .int x4), (5, .int x5), (6, va_rf (Option.map (B 14) x6)), (7, .int x7)]) (h : fX19_fill_66b N K66 x0 x3 x4 x5 x6 x7 z = some (r, z')) : W p l e rmX19_fill s m args below meth c H locs 0 0 Q (F0 m 66 ls []) := by
  unfold fX19_fill_66b at h
  refine lv_iload F.1 F.2.1 dX19_fill_66 (lv_at hl 5 rfl) ?_
  refine lv_iload F.1 F.2.1 dX19_fill_68 (lv_at hl 3 rfl) ?_
  refine lv_icmp_ge (tgt := 95) F.1 F.2.1 dX19_fill_70 (by decide) (fun c1 => ?_) (fun c1 => ?_)
  · replace h := zi_t c1 h
    exact bX19_fill_95 hst F hA E  x0 x6 x7 hx0 hx6 hr (lv_sub hl [0, 4, 5] rfl) h
  · replace h := zi_f c1 h
    refine lv_aload_n F.1 F.2.1 dX19_fill_73 rfl (lv_at hl 0 rfl) ?_
    refine zr_aload F.1 F.2.1 dX19_fill_74 (lv_at hl 4 rfl) ?_
    refine lv_iload_n F.1 F.2.1 dX19_fill_76 rfl (lv_at hl 1 rfl) ?_
    refine lv_iload F.1 F.2.1 dX19_fill_77 (lv_at hl 2 rfl) ?_
    refine lv_iload F.1 F.2.1 dX19_fill_79 (lv_at hl 5 rfl) ?_
    refine lv_imul F.1 F.2.1 dX19_fill_81 ?_
    refine lv_iadd F.1 F.2.1 dX19_fill_82 ?_
    obtain ⟨a2, rfl, h⟩ := zd_some h
    obtain ⟨r3, z4, hc5, h⟩ := zc_some h
    refine zr_calli (zrun_V (As := [.ref (B 14 a2), .int (x3 + (x4 * x7))]) (rest := []) zq_3029 zq_3031 zs_X19_writes zq_3032 zq_4 hdX19_writes (by decide) (T := TX19) (N := 32) rfl (okX19_writes l D cy B ids hst N x0 hx0 a2 (hx6 _ rfl) (x3 + (x4 * x7))  hr.2.2 hc5) F hr hx0 hl.1 rfl (by decide) dX19_fill_83 rfl rfl hroX19_fill_X19_writes ⟨Nat.zero_le _, Nat.zero_le _⟩) F hA hr (fun H locs hx6 hr => ?_)
    clear hc5
    refine lv_if_eq (tgt := 95) F.1 F.2.1 dX19_fill_86 (by decide) (fun c7 => ?_) (fun c7 => ?_)
    · replace h := zi_t c7 h
      exact bX19_fill_95 hst F hA E  x0 (some a2) x7 hx0 (zal_s (hx6 _ rfl)) hr (lv_sub hl [0, 4, 5] rfl) h
    · replace h := zi_f c7 h
      obtain ⟨v8, ev8⟩ : ∃ y : Int32, y = (x7 + 1) := ⟨_, rfl⟩
      replace h := zl_sub ev8 h
      refine lv_iinc (v := v8) (lv' := [(7, .int v8), (0, .ref (B 19 x0)), (3, .int x3), (4, .int x4), (5, .int x5), (6, .ref (B 14 a2))]) F.1 F.2.1 dX19_fill_89 hl (k := 5) rfl (by rw [ev8]; rfl) (by decide) rfl (fun ls hl => ?_)
      refine lv_goto (tgt := 66) F.1 F.2.1 dX19_fill_92 (by decide) ?_
      exact hK66 x0 x3 x4 x5 (some a2) v8 hx0 (zal_s (hx6 _ rfl)) hr (lv_sub hl [1, 2, 3, 4, 5, 0] rfl) h
theorem lX19_fill_66 (hst : zSt B ids) (F : zFx p m c cX19_fill 8 s args RX19 D cy B ids A) (hA : ∀ q : Nat, s.heap.size ≤ q → A q) {r : Int32} {z' : St} (E : zEnd p l e rmX19_fill s m args below meth c cX19_fill D cy B ids A Q (some (.int r)) z' .ireturn True) {N : Nat}  : ∀ (n : Nat) (x0 : Nat) (x3 : Int32) (x4 : Int32) (x5 : Int32) (x6 : Option Nat) (x7 : Int32) (hx0 : (19, x0) ∈ ids) (hx6 : ∀ t, x6 = some t → (14, t) ∈ ids) {z : St} {H : Heap} {locs : List Loc} {ls : Array Slot} (hr : zRep D cy B ids A s.heap z H locs) (hl : lv_has ls 8 [(0, .ref (B 19 x0)), (3, .int x3), (4, .int x4), (5, .int x5), (6, va_rf (Option.map (B 14) x6)), (7, .int x7)]), fX19_fill_66 N  n x0 x3 x4 x5 x6 x7 z = some (r, z') → W p l e rmX19_fill s m args below meth c H locs 0 0 Q (F0 m 66 ls []) := by
  intro n
  induction n with
  | zero => intro x0 x3 x4 x5 x6 x7 hx0 hx6 z H locs ls hr hl h; cases h
  | succ n ih => intro x0 x3 x4 x5 x6 x7 hx0 hx6 z H locs ls hr hl h; exact bX19_fill_66 hst F hA E ih x0 x3 x4 x5 x6 x7 hx0 hx6 hr hl h
def fX19_fill_55 (N : Nat)  (x0 : Nat) (x3 : Int32) (x4 : Int32) (x5 : Int32) (x6 : Option Nat) (s0 : Nat) (s1 : Int32) (s2 : Int32) (z : St) : Option (Int32 × St) := zc (fX19_fails N s0 s1 s2 z) fun r1 z2 => if r1 = 0 then (fX19_fill_66 N N x0 x3 x4 x5 x6 (0) z2) else (some ((0), z2))
set_option maxHeartbeats 4000000 in
set_option maxRecDepth 100000 in
theorem bX19_fill_55 (hst : zSt B ids) (F : zFx p m c cX19_fill 8 s args RX19 D cy B ids A) (hA : ∀ q : Nat, s.heap.size ≤ q → A q) {r : Int32} {z' : St} (E : zEnd p l e rmX19_fill s m args below meth c cX19_fill D cy B ids A Q (some (.int r)) z' .ireturn True) {N : Nat}  (x0 : Nat) (x3 : Int32) (x4 : Int32) (x5 : Int32) (x6 : Option Nat) (s0 : Nat) (s1 : Int32) (s2 : Int32) (hx0 : (19, x0) ∈ ids) (hx6 : ∀ t, x6 = some t → (14, t) ∈ ids) (hs0 : (19, s0) ∈ ids) {z : St} {H : Heap} {locs : List Loc} {ls : Array Slot} (hr : zRep D cy B ids A s.heap z H locs) (hl : lv_has ls 8 [(0, .ref (B 19 x0)), (3, .int x3), (4, .int x4), (5, .int x5), (6, va_rf (Option.map (B 14) x6))]) (h : fX19_fill_55 N x0 x3 x4 x5 x6 s0 s1 s2 z = some (r, z')) : W p l e rmX19_fill s m args below meth c H locs 0 0 Q (F0 m 55 ls [.int s2, .int s1, .ref (B 19 s0)]) := by
  unfold fX19_fill_55 at h
  obtain ⟨r1, z2, hc3, h⟩ := zc_some h
  refine zr_calli (zrun_V (As := [.int s1, .int s2]) (rest := []) zq_2402 zq_2404 zs_X19_fails zq_2405 zq_4 hdX19_fails (by decide) (T := TX19) (N := 32) rfl (okX19_fails l D cy B ids hst N s0 hs0 s1  s2  hr.2.2 hc3) F hr hs0 hl.1 rfl (by decide) dX19_fill_55 rfl rfl hroX19_fill_X19_fails ⟨Nat.zero_le _, Nat.zero_le _⟩) F hA hr (fun H locs hx4 hr => ?_)
  clear hc3
  refine lv_if_eq (tgt := 63) F.1 F.2.1 dX19_fill_58 (by decide) (fun c5 => ?_) (fun c5 => ?_)
  · replace h := zi_t c5 h
    refine lv_iconst (v := (0)) F.1 F.2.1 dX19_fill_63 (by decide) ?_
    refine lv_istore (lv' := [(7, .int (0)), (0, .ref (B 19 x0)), (3, .int x3), (4, .int x4), (5, .int x5), (6, va_rf (Option.map (B 14) x6))]) F.1 F.2.1 dX19_fill_64 hl (by decide) (by simp only [List.filter, zrf_cat]; rfl) (fun ls hl => ?_)
    exact lX19_fill_66 hst F hA E  _ x0 x3 x4 x5 x6 (0) hx0 hx6 hr (lv_sub hl [1, 2, 3, 4, 5, 0] rfl) h
  · replace h := zi_f c5 h
    refine lv_iconst (v := (0)) F.1 F.2.1 dX19_fill_61 (by decide) ?_
    obtain ⟨rfl, rfl⟩ := zret h
    exact E _ _ _ _ dX19_fill_62 trivial hr
def fX19_fill_50 (N : Nat)  (x0 : Nat) (x3 : Int32) (x4 : Int32) (x5 : Int32) (x6 : Option Nat) (s0 : Nat) (s1 : Int32) (z : St) : Option (Int32 × St) := fX19_fill_55 N x0 x3 x4 x5 x6 s0 s1 (1) z
set_option maxHeartbeats 4000000 in
set_option maxRecDepth 100000 in
theorem bX19_fill_50 (hst : zSt B ids) (F : zFx p m c cX19_fill 8 s args RX19 D cy B ids A) (hA : ∀ q : Nat, s.heap.size ≤ q → A q) {r : Int32} {z' : St} (E : zEnd p l e rmX19_fill s m args below meth c cX19_fill D cy B ids A Q (some (.int r)) z' .ireturn True) {N : Nat}  (x0 : Nat) (x3 : Int32) (x4 : Int32) (x5 : Int32) (x6 : Option Nat) (s0 : Nat) (s1 : Int32) (hx0 : (19, x0) ∈ ids) (hx6 : ∀ t, x6 = some t → (14, t) ∈ ids) (hs0 : (19, s0) ∈ ids) {z : St} {H : Heap} {locs : List Loc} {ls : Array Slot} (hr : zRep D cy B ids A s.heap z H locs) (hl : lv_has ls 8 [(0, .ref (B 19 x0)), (3, .int x3), (4, .int x4), (5, .int x5), (6, va_rf (Option.map (B 14) x6))]) (h : fX19_fill_50 N x0 x3 x4 x5 x6 s0 s1 z = some (r, z')) : W p l e rmX19_fill s m args below meth c H locs 0 0 Q (F0 m 50 ls [.int s1, .ref (B 19 s0)]) := by
  unfold fX19_fill_50 at h
  refine lv_iconst (v := (1)) F.1 F.2.1 dX19_fill_50 (by decide) ?_
  refine lv_goto (tgt := 55) F.1 F.2.1 dX19_fill_51 (by decide) ?_
  exact bX19_fill_55 hst F hA E  x0 x3 x4 x5 x6 s0 s1 (1) hx0 hx6 hs0 hr (lv_sub hl [0, 1, 2, 3, 4] rfl) h
def fX19_fill_37 (N : Nat)  (x0 : Nat) (x3 : Int32) (x4 : Int32) (x5 : Int32) (x6 : Option Nat) (s0 : Nat) (s1 : Int32) (z : St) : Option (Int32 × St) := zo x6 (fX19_fill_50 N x0 x3 x4 x5 none s0 s1 z) fun a2 => zc (fX14_canWrite N a2 z) fun r3 z4 => if ¬ r3 = 0 then (fX19_fill_55 N x0 x3 x4 x5 (some a2) s0 s1 (0) z4) else (fX19_fill_50 N x0 x3 x4 x5 (some a2) s0 s1 z4)
set_option maxHeartbeats 4000000 in
set_option maxRecDepth 100000 in
theorem bX19_fill_37 (hst : zSt B ids) (F : zFx p m c cX19_fill 8 s args RX19 D cy B ids A) (hA : ∀ q : Nat, s.heap.size ≤ q → A q) {r : Int32} {z' : St} (E : zEnd p l e rmX19_fill s m args below meth c cX19_fill D cy B ids A Q (some (.int r)) z' .ireturn True) {N : Nat}  (x0 : Nat) (x3 : Int32) (x4 : Int32) (x5 : Int32) (x6 : Option Nat) (s0 : Nat) (s1 : Int32) (hx0 : (19, x0) ∈ ids) (hx6 : ∀ t, x6 = some t → (14, t) ∈ ids) (hs0 : (19, s0) ∈ ids) {z : St} {H : Heap} {locs : List Loc} {ls : Array Slot} (hr : zRep D cy B ids A s.heap z H locs) (hl : lv_has ls 8 [(0, .ref (B 19 x0)), (3, .int x3), (4, .int x4), (5, .int x5), (6, va_rf (Option.map (B 14) x6))]) (h : fX19_fill_37 N x0 x3 x4 x5 x6 s0 s1 z = some (r, z')) : W p l e rmX19_fill s m args below meth c H locs 0 0 Q (F0 m 37 ls [.int s1, .ref (B 19 s0)]) := by
  unfold fX19_fill_37 at h
  refine zr_aload F.1 F.2.1 dX19_fill_37 (lv_at hl 4 rfl) ?_
  refine zr_ifnull (tgt := 50) F.1 F.2.1 dX19_fill_39 (by decide) (fun e1 => ?_) (fun a2 e1 => ?_)
  · replace h := zo_n e1 h
    subst e1
    exact bX19_fill_50 hst F hA E  x0 x3 x4 x5 none s0 s1 hx0 zal_0 hs0 hr (lv_sub hl [0, 1, 2, 3, 4] rfl) h
  · replace h := zo_s e1 h
    subst e1
    refine lv_aload F.1 F.2.1 dX19_fill_42 (lv_at hl 4 rfl) ?_
    obtain ⟨r3, z4, hc5, h⟩ := zc_some h
    refine zr_calli (zrun_VN (As := []) (rest := [.int s1, .ref (B 19 s0)]) zn_3024 zq_3026 zs_X14_canWrite zq_3027 zq_21 hdX14_canWrite (by decide) (T := TX14) (N := 47) rfl (okX14_canWrite l D cy B ids hst N a2 (hx6 _ rfl) hr.2.2 hc5) F hr (hx6 _ rfl) hl.1 rfl (Nat.le_of_ble_eq_true rfl) dX19_fill_44 rfl rfl hroX19_fill_X14_canWrite ⟨Nat.zero_le _, Nat.zero_le _⟩) F hA hr (fun H locs hx6 hr => ?_)
    clear hc5
    refine lv_if_ne (tgt := 54) F.1 F.2.1 dX19_fill_47 (by decide) (fun c7 => ?_) (fun c7 => ?_)
    · replace h := zi_t c7 h
      refine lv_iconst (v := (0)) F.1 F.2.1 dX19_fill_54 (by decide) ?_
      exact bX19_fill_55 hst F hA E  x0 x3 x4 x5 (some a2) s0 s1 (0) hx0 (zal_s (hx6 _ rfl)) hs0 hr (lv_sub hl [0, 1, 2, 3, 4] rfl) h
    · replace h := zi_f (fun q => q c7) h
      exact bX19_fill_50 hst F hA E  x0 x3 x4 x5 (some a2) s0 s1 hx0 (zal_s (hx6 _ rfl)) hs0 hr (lv_sub hl [0, 1, 2, 3, 4] rfl) h
def fX19_fill_32 (N : Nat)  (x0 : Nat) (x3 : Int32) (x4 : Int32) (x5 : Int32) (x6 : Option Nat) (s0 : Nat) (z : St) : Option (Int32 × St) := fX19_fill_37 N x0 x3 x4 x5 x6 s0 (1) z
set_option maxHeartbeats 4000000 in
set_option maxRecDepth 100000 in
theorem bX19_fill_32 (hst : zSt B ids) (F : zFx p m c cX19_fill 8 s args RX19 D cy B ids A) (hA : ∀ q : Nat, s.heap.size ≤ q → A q) {r : Int32} {z' : St} (E : zEnd p l e rmX19_fill s m args below meth c cX19_fill D cy B ids A Q (some (.int r)) z' .ireturn True) {N : Nat}  (x0 : Nat) (x3 : Int32) (x4 : Int32) (x5 : Int32) (x6 : Option Nat) (s0 : Nat) (hx0 : (19, x0) ∈ ids) (hx6 : ∀ t, x6 = some t → (14, t) ∈ ids) (hs0 : (19, s0) ∈ ids) {z : St} {H : Heap} {locs : List Loc} {ls : Array Slot} (hr : zRep D cy B ids A s.heap z H locs) (hl : lv_has ls 8 [(0, .ref (B 19 x0)), (3, .int x3), (4, .int x4), (5, .int x5), (6, va_rf (Option.map (B 14) x6))]) (h : fX19_fill_32 N x0 x3 x4 x5 x6 s0 z = some (r, z')) : W p l e rmX19_fill s m args below meth c H locs 0 0 Q (F0 m 32 ls [.ref (B 19 s0)]) := by
  unfold fX19_fill_32 at h
  refine lv_iconst (v := (1)) F.1 F.2.1 dX19_fill_32 (by decide) ?_
  refine lv_goto (tgt := 37) F.1 F.2.1 dX19_fill_33 (by decide) ?_
  exact bX19_fill_37 hst F hA E  x0 x3 x4 x5 x6 s0 (1) hx0 hx6 hs0 hr (lv_sub hl [0, 1, 2, 3, 4] rfl) h
def fX19_fill (N : Nat)  (x0 : Nat) (x1 : Int32) (x2 : Int32) (x3 : Int32) (x4 : Int32) (x5 : Int32) (z : St) : Option (Int32 × St) := zc (fX19_endAt N x0 x1 x2 z) fun r1 z2 => zc (fX19_isDoor N x0 x1 x2 z2) fun r5 z6 => if r5 = 0 then (fX19_fill_32 N x0 x3 x4 x5 r1 x0 z6) else (if x5 < (1) then (fX19_fill_32 N x0 x3 x4 x5 r1 x0 z6) else (if x5 ≤ (2048) then (fX19_fill_37 N x0 x3 x4 x5 r1 x0 (0) z6) else (fX19_fill_32 N x0 x3 x4 x5 r1 x0 z6)))
set_option maxHeartbeats 4000000 in
set_option maxRecDepth 100000 in
theorem bX19_fill_0 (hst : zSt B ids) (F : zFx p m c cX19_fill 8 s args RX19 D cy B ids A) (hA : ∀ q : Nat, s.heap.size ≤ q → A q) {r : Int32} {z' : St} (E : zEnd p l e rmX19_fill s m args below meth c cX19_fill D cy B ids A Q (some (.int r)) z' .ireturn True) {N : Nat}  (x0 : Nat) (x1 : Int32) (x2 : Int32) (x3 : Int32) (x4 : Int32) (x5 : Int32) (hx0 : (19, x0) ∈ ids) {z : St} {H : Heap} {locs : List Loc} {ls : Array Slot} (hr : zRep D cy B ids A s.heap z H locs) (hl : lv_has ls 8 [(0, .ref (B 19 x0)), (1, .int x1), (2, .int x2), (3, .int x3), (4, .int x4), (5, .int x5)]) (h : fX19_fill N x0 x1 x2 x3 x4 x5 z = some (r, z')) : W p l e rmX19_fill s m args below meth c H locs 0 0 Q (F0 m 0 ls []) := by
  unfold fX19_fill at h
  refine lv_aload_n F.1 F.2.1 dX19_fill_0 rfl (lv_at hl 0 rfl) ?_
  refine lv_iload_n F.1 F.2.1 dX19_fill_1 rfl (lv_at hl 1 rfl) ?_
  refine lv_iload_n F.1 F.2.1 dX19_fill_2 rfl (lv_at hl 2 rfl) ?_
  obtain ⟨r1, z2, hc3, h⟩ := zc_some h
  refine zr_callr (zrun_V (As := [.int x1, .int x2]) (rest := []) zq_3020 zq_3022 zs_X19_endAt zq_3023 zq_4 hdX19_endAt (by decide) (T := TX19) (N := 32) rfl (okX19_endAt l D cy B ids hst N x0 hx0 x1  x2  hr.2.2 hc3) F hr hx0 hl.1 rfl (by decide) dX19_fill_3 rfl rfl hroX19_fill_X19_endAt ⟨Nat.zero_le _, Nat.zero_le _⟩) F hA hr (fun H locs hx4 hr => ?_)
  clear hc3
  refine zr_astore (lv' := [(6, va_rf (Option.map (B 14) r1)), (0, .ref (B 19 x0)), (1, .int x1), (2, .int x2), (3, .int x3), (4, .int x4), (5, .int x5)]) F.1 F.2.1 dX19_fill_6 hl (by decide) rfl (fun ls hl => ?_)
  refine lv_aload_n F.1 F.2.1 dX19_fill_8 rfl (lv_at hl 1 rfl) ?_
  refine lv_aload_n F.1 F.2.1 dX19_fill_9 rfl (lv_at hl 1 rfl) ?_
  refine lv_iload_n F.1 F.2.1 dX19_fill_10 rfl (lv_at hl 2 rfl) ?_
  refine lv_iload_n F.1 F.2.1 dX19_fill_11 rfl (lv_at hl 3 rfl) ?_
  obtain ⟨r5, z6, hc7, h⟩ := zc_some h
  refine zr_calli (zrun_V (As := [.int x1, .int x2]) (rest := [.ref (B 19 x0)]) zq_3012 zq_3014 zs_X19_isDoor zq_3015 zq_4 hdX19_isDoor (by decide) (T := TX19) (N := 32) rfl (okX19_isDoor l D cy B ids hst N x0 hx0 x1  x2  hr.2.2 hc7) F hr hx0 hl.1 rfl (Nat.le_of_ble_eq_true rfl) dX19_fill_12 rfl rfl hroX19_fill_X19_isDoor ⟨Nat.zero_le _, Nat.zero_le _⟩) F hA hr (fun H locs hx8 hr => ?_)
  clear hc7
  refine lv_if_eq (tgt := 32) F.1 F.2.1 dX19_fill_15 (by decide) (fun c9 => ?_) (fun c9 => ?_)
  · replace h := zi_t c9 h
    exact bX19_fill_32 hst F hA E  x0 x3 x4 x5 r1 x0 hx0 hx4 hx0 hr (lv_sub hl [1, 4, 5, 6, 0] rfl) h
  · replace h := zi_f c9 h
    refine lv_iload F.1 F.2.1 dX19_fill_18 (lv_at hl 6 rfl) ?_
    refine lv_iconst (v := (1)) F.1 F.2.1 dX19_fill_20 (by decide) ?_
    refine lv_icmp_lt (tgt := 32) F.1 F.2.1 dX19_fill_21 (by decide) (fun c10 => ?_) (fun c10 => ?_)
    · replace h := zi_t c10 h
      exact bX19_fill_32 hst F hA E  x0 x3 x4 x5 r1 x0 hx0 hx4 hx0 hr (lv_sub hl [1, 4, 5, 6, 0] rfl) h
    · replace h := zi_f c10 h
      refine lv_iload F.1 F.2.1 dX19_fill_24 (lv_at hl 6 rfl) ?_
      refine lv_sipush (v := (2048)) F.1 F.2.1 dX19_fill_26 (by decide) ?_
      refine lv_icmp_le (tgt := 36) F.1 F.2.1 dX19_fill_29 (by decide) (fun c11 => ?_) (fun c11 => ?_)
      · replace h := zi_t c11 h
        refine lv_iconst (v := (0)) F.1 F.2.1 dX19_fill_36 (by decide) ?_
        exact bX19_fill_37 hst F hA E  x0 x3 x4 x5 r1 x0 (0) hx0 hx4 hx0 hr (lv_sub hl [1, 4, 5, 6, 0] rfl) h
      · replace h := zi_f c11 h
        exact bX19_fill_32 hst F hA E  x0 x3 x4 x5 r1 x0 hx0 hx4 hx0 hr (lv_sub hl [1, 4, 5, 6, 0] rfl) h
end SX19_fill
set_option maxRecDepth 100000 in
theorem okX19_fill (l : Launch) (D : va_G) (cy : Nat → ClassId) (B : Nat → Nat → Nat) (ids : List (Nat × Nat)) (hst : zSt B ids) (N : Nat) (x0 : Nat) (hx0 : (19, x0) ∈ ids) (x1 : Int32) (x2 : Int32) (x3 : Int32) (x4 : Int32) (x5 : Int32) {z : St} {r : Int32} {z' : St} (hW : zWf ids z) (h : fX19_fill N x0 x1 x2 x3 x4 x5 z = some (r, z')) : zM l yX19_fill (zws yX19_fill cX19_fill 8 (some .int)) rmX19_fill D cy B ids [.ref (B 19 x0), .int x1, .int x2, .int x3, .int x4, .int x5] (some (.int r)) True z z' :=
  zM_of hst hW (by decide +kernel) (Nat.le_of_ble_eq_true rfl) (fun p e s m args below meth c A ls F hA hret hlocks hr hl => bX19_fill_0 hst F hA (zEnd_i F hret hlocks) x0 x1 x2 x3 x4 x5 hx0 hr hl h)
abbrev rmX19_canRead : Room := { frames := 1, cells := 0, slots := 0, locals := 20 }
theorem hdX19_canRead : yX19_canRead.cls ≠ "java/lang/invoke/MethodHandle" ∧ yX19_canRead.cls ≠ "java/lang/invoke/VarHandle" ∧ (parseMethodDescriptor yX19_canRead.desc).map (fun d => d.parameters.length) = some 1 := by decide +kernel
theorem hroX19_canRead_X14_isDead : rmX14_isDead.frames + 1 ≤ rmX19_canRead.frames ∧ 8 + (1 + 11) + rmX14_isDead.locals ≤ rmX19_canRead.locals := by decide
theorem hroX19_canRead_X14_readable : rmX14_readable.frames + 1 ≤ rmX19_canRead.frames ∧ 8 + (1 + 11) + rmX14_readable.locals ≤ rmX19_canRead.locals := by decide
section SX19_canRead
variable {p : Program} {l : Launch} {e : Env} {s : State} {m : MethodId} {args : Array Value} {below : List Frame} {meth : Method} {c : Code} {Q : State → Prop} {D : va_G} {cy : Nat → ClassId} {B : Nat → Nat → Nat} {ids : List (Nat × Nat)} {A : Nat → Prop}
def fX19_canRead_33 (N : Nat)   (z : St) : Option (Int32 × St) := some ((1), z)
set_option maxHeartbeats 4000000 in
set_option maxRecDepth 100000 in
theorem bX19_canRead_33 (hst : zSt B ids) (F : zFx p m c cX19_canRead 1 s args RX19 D cy B ids A) (hA : ∀ q : Nat, s.heap.size ≤ q → A q) {r : Int32} {z' : St} (E : zEnd p l e rmX19_canRead s m args below meth c cX19_canRead D cy B ids A Q (some (.int r)) z' .ireturn (r = 0 ∨ r = 1)) {N : Nat}    {z : St} {H : Heap} {locs : List Loc} {ls : Array Slot} (hr : zRep D cy B ids A s.heap z H locs) (hl : lv_has ls 1 []) (h : fX19_canRead_33 N z = some (r, z')) : W p l e rmX19_canRead s m args below meth c H locs 0 0 Q (F0 m 33 ls []) := by
  unfold fX19_canRead_33 at h
  refine lv_iconst (v := (1)) F.1 F.2.1 dX19_canRead_33 (by decide) ?_
  refine lv_goto (tgt := 38) F.1 F.2.1 dX19_canRead_34 (by decide) ?_
  obtain ⟨rfl, rfl⟩ := zret h
  exact E _ _ _ _ dX19_canRead_38 (by decide) hr
def fX19_canRead (N : Nat)  (x0 : Option Nat) (z : St) : Option (Int32 × St) := zo x0 (some ((0), z)) fun a2 => zc (fX14_readable N a2 z) fun r3 z4 => if 0 < r3 then (fX19_canRead_33 N z4) else (if ¬ (zgI z4 14 23 a2) = 0 then (fX19_canRead_33 N z4) else (zc (fX14_isDead N a2 z4) fun r9 z10 => if ¬ r9 = 0 then (some ((0), z10)) else (if (zgI z10 14 0 a2) = (1) then (some ((0), z10)) else (fX19_canRead_33 N z10))))
set_option maxHeartbeats 4000000 in
set_option maxRecDepth 100000 in
theorem bX19_canRead_0 (hst : zSt B ids) (F : zFx p m c cX19_canRead 1 s args RX19 D cy B ids A) (hA : ∀ q : Nat, s.heap.size ≤ q → A q) {r : Int32} {z' : St} (E : zEnd p l e rmX19_canRead s m args below meth c cX19_canRead D cy B ids A Q (some (.int r)) z' .ireturn (r = 0 ∨ r = 1)) {N : Nat}  (x0 : Option Nat) (hx0 : ∀ t, x0 = some t → (14, t) ∈ ids) {z : St} {H : Heap} {locs : List Loc} {ls : Array Slot} (hr : zRep D cy B ids A s.heap z H locs) (hl : lv_has ls 1 [(0, va_rf (Option.map (B 14) x0))]) (h : fX19_canRead N x0 z = some (r, z')) : W p l e rmX19_canRead s m args below meth c H locs 0 0 Q (F0 m 0 ls []) := by
  unfold fX19_canRead at h
  refine zr_aload_n F.1 F.2.1 dX19_canRead_0 rfl (lv_at hl 0 rfl) ?_
  refine zr_ifnull (tgt := 37) F.1 F.2.1 dX19_canRead_1 (by decide) (fun e1 => ?_) (fun a2 e1 => ?_)
  · replace h := zo_n e1 h
    subst e1
    refine lv_iconst (v := (0)) F.1 F.2.1 dX19_canRead_37 (by decide) ?_
    obtain ⟨rfl, rfl⟩ := zret h
    exact E _ _ _ _ dX19_canRead_38 (by decide) hr
  · replace h := zo_s e1 h
    subst e1
    refine lv_aload_n F.1 F.2.1 dX19_canRead_4 rfl (lv_at hl 0 rfl) ?_
    obtain ⟨r3, z4, hc5, h⟩ := zc_some h
    refine zr_calli (zrun_VN (As := []) (rest := []) zn_2728 zq_2712 zs_X14_readable zq_2713 zq_21 hdX14_readable (by decide) (T := TX14) (N := 47) rfl (okX14_readable l D cy B ids hst N a2 (hx0 _ rfl) hr.2.2 hc5) F hr (hx0 _ rfl) hl.1 rfl (by decide) dX19_canRead_5 rfl rfl hroX19_canRead_X14_readable ⟨Nat.zero_le _, Nat.zero_le _⟩) F hA hr (fun H locs hx6 hr => ?_)
    clear hc5
    refine lv_if_gt (tgt := 33) F.1 F.2.1 dX19_canRead_8 (by decide) (fun c7 => ?_) (fun c7 => ?_)
    · replace h := zi_t c7 h
      exact bX19_canRead_33 hst F hA E   hr (lv_sub hl [] rfl) h
    · replace h := zi_f c7 h
      refine lv_aload_n F.1 F.2.1 dX19_canRead_11 rfl (lv_at hl 0 rfl) ?_
      refine gf19_682 F (hx0 _ rfl) hr dX19_canRead_12 ?_
      refine lv_if_ne (tgt := 33) F.1 F.2.1 dX19_canRead_15 (by decide) (fun c8 => ?_) (fun c8 => ?_)
      · replace h := zi_t c8 h
        exact bX19_canRead_33 hst F hA E   hr (lv_sub hl [] rfl) h
      · replace h := zi_f (fun q => q c8) h
        refine lv_aload_n F.1 F.2.1 dX19_canRead_18 rfl (lv_at hl 0 rfl) ?_
        obtain ⟨r9, z10, hc11, h⟩ := zc_some h
        refine zr_calli (zrun_VN (As := []) (rest := []) zn_2651 zq_2653 zs_X14_isDead zq_2654 zq_21 hdX14_isDead (by decide) (T := TX14) (N := 47) rfl (okX14_isDead l D cy B ids hst N a2 (hx0 _ rfl) hr.2.2 hc11) F hr (hx0 _ rfl) hl.1 rfl (by decide) dX19_canRead_19 rfl rfl hroX19_canRead_X14_isDead ⟨Nat.zero_le _, Nat.zero_le _⟩) F hA hr (fun H locs hx12 hr => ?_)
        clear hc11
        refine lv_if_ne (tgt := 37) F.1 F.2.1 dX19_canRead_22 (by decide) (fun c13 => ?_) (fun c13 => ?_)
        · replace h := zi_t c13 h
          refine lv_iconst (v := (0)) F.1 F.2.1 dX19_canRead_37 (by decide) ?_
          obtain ⟨rfl, rfl⟩ := zret h
          exact E _ _ _ _ dX19_canRead_38 (by decide) hr
        · replace h := zi_f (fun q => q c13) h
          refine lv_aload_n F.1 F.2.1 dX19_canRead_25 rfl (lv_at hl 0 rfl) ?_
          refine gf19_353 F (hx0 _ rfl) hr dX19_canRead_26 ?_
          refine lv_iconst (v := (1)) F.1 F.2.1 dX19_canRead_29 (by decide) ?_
          refine lv_icmp_eq (tgt := 37) F.1 F.2.1 dX19_canRead_30 (by decide) (fun c14 => ?_) (fun c14 => ?_)
          · replace h := zi_t c14 h
            refine lv_iconst (v := (0)) F.1 F.2.1 dX19_canRead_37 (by decide) ?_
            obtain ⟨rfl, rfl⟩ := zret h
            exact E _ _ _ _ dX19_canRead_38 (by decide) hr
          · replace h := zi_f c14 h
            exact bX19_canRead_33 hst F hA E   hr (lv_sub hl [] rfl) h
end SX19_canRead
set_option maxRecDepth 100000 in
theorem okX19_canRead (l : Launch) (D : va_G) (cy : Nat → ClassId) (B : Nat → Nat → Nat) (ids : List (Nat × Nat)) (hst : zSt B ids) (N : Nat) (x0 : Option Nat) (hx0 : ∀ t, x0 = some t → (14, t) ∈ ids) {z : St} {r : Int32} {z' : St} (hW : zWf ids z) (h : fX19_canRead N x0 z = some (r, z')) : zM l yX19_canRead (zws yX19_canRead cX19_canRead 1 (some .boolean)) rmX19_canRead D cy B ids [va_rf (Option.map (B 14) x0)] (some (.int r)) (r = 0 ∨ r = 1) z z' :=
  zM_of hst hW (by decide +kernel) (by simp only [lg_sl, List.flatMap_cons, List.flatMap_nil, zrf_cat]; decide) (fun p e s m args below meth c A ls F hA hret hlocks hr hl => bX19_canRead_0 hst F hA (zEnd_z F hret hlocks) x0 hx0 hr hl h)
abbrev rmX19_read_ : Room := { frames := 4, cells := 0, slots := 0, locals := 86 }
theorem hdX19_read_ : yX19_read_.cls ≠ "java/lang/invoke/MethodHandle" ∧ yX19_read_.cls ≠ "java/lang/invoke/VarHandle" ∧ (parseMethodDescriptor yX19_read_.desc).map (fun d => d.parameters.length) = some 2 := by decide +kernel
theorem hroX19_read__X14_readable : rmX14_readable.frames + 1 ≤ rmX19_read_.frames ∧ 8 + (1 + 11) + rmX14_readable.locals ≤ rmX19_read_.locals := by decide
theorem hroX19_read__X19_canRead : rmX19_canRead.frames + 1 ≤ rmX19_read_.frames ∧ 8 + (1 + 11) + rmX19_canRead.locals ≤ rmX19_read_.locals := by decide
theorem hroX19_read__X19_endAt : rmX19_endAt.frames + 1 ≤ rmX19_read_.frames ∧ 8 + (3 + 11) + rmX19_endAt.locals ≤ rmX19_read_.locals := by decide
theorem hroX19_read__X19_fails : rmX19_fails.frames + 1 ≤ rmX19_read_.frames ∧ 8 + (3 + 11) + rmX19_fails.locals ≤ rmX19_read_.locals := by decide
theorem hroX19_read__X19_isDoor : rmX19_isDoor.frames + 1 ≤ rmX19_read_.frames ∧ 8 + (3 + 11) + rmX19_isDoor.locals ≤ rmX19_read_.locals := by decide
theorem hroX19_read__X19_read : rmX19_read.frames + 1 ≤ rmX19_read_.frames ∧ 8 + (4 + 11) + rmX19_read.locals ≤ rmX19_read_.locals := by decide
section SX19_read_
variable {p : Program} {l : Launch} {e : Env} {s : State} {m : MethodId} {args : Array Value} {below : List Frame} {meth : Method} {c : Code} {Q : State → Prop} {D : va_G} {cy : Nat → ClassId} {B : Nat → Nat → Nat} {ids : List (Nat × Nat)} {A : Nat → Prop}
def fX19_read__34 (N : Nat)  (x0 : Nat) (x3 : Option Nat) (s0 : Nat) (s1 : Int32) (s2 : Int32) (z : St) : Option (Int32 × St) := zc (fX19_fails N s0 s1 s2 z) fun r1 z2 => if r1 = 0 then (zd x3 fun a6 => zc (fX14_readable N a6 z2) fun r7 z8 => if r7 ≤ 0 then (if (zgI z8 14 23 a6) = 0 then (some ((-1), z8)) else (some ((-2), z8))) else (zc (fX19_read N x0 a6 z8) fun r13 z14 => some (r13, z14))) else (some ((0), z2))
set_option maxHeartbeats 4000000 in
set_option maxRecDepth 100000 in
theorem bX19_read__34 (hst : zSt B ids) (F : zFx p m c cX19_read_ 4 s args RX19 D cy B ids A) (hA : ∀ q : Nat, s.heap.size ≤ q → A q) {r : Int32} {z' : St} (E : zEnd p l e rmX19_read_ s m args below meth c cX19_read_ D cy B ids A Q (some (.int r)) z' .ireturn True) {N : Nat}  (x0 : Nat) (x3 : Option Nat) (s0 : Nat) (s1 : Int32) (s2 : Int32) (hx0 : (19, x0) ∈ ids) (hx3 : ∀ t, x3 = some t → (14, t) ∈ ids) (hs0 : (19, s0) ∈ ids) {z : St} {H : Heap} {locs : List Loc} {ls : Array Slot} (hr : zRep D cy B ids A s.heap z H locs) (hl : lv_has ls 4 [(0, .ref (B 19 x0)), (3, va_rf (Option.map (B 14) x3))]) (h : fX19_read__34 N x0 x3 s0 s1 s2 z = some (r, z')) : W p l e rmX19_read_ s m args below meth c H locs 0 0 Q (F0 m 34 ls [.int s2, .int s1, .ref (B 19 s0)]) := by
  unfold fX19_read__34 at h
  obtain ⟨r1, z2, hc3, h⟩ := zc_some h
  refine zr_calli (zrun_V (As := [.int s1, .int s2]) (rest := []) zq_2402 zq_2404 zs_X19_fails zq_2405 zq_4 hdX19_fails (by decide) (T := TX19) (N := 32) rfl (okX19_fails l D cy B ids hst N s0 hs0 s1  s2  hr.2.2 hc3) F hr hs0 hl.1 rfl (by decide) dX19_read__34 rfl rfl hroX19_read__X19_fails ⟨Nat.zero_le _, Nat.zero_le _⟩) F hA hr (fun H locs hx4 hr => ?_)
  clear hc3
  refine lv_if_eq (tgt := 42) F.1 F.2.1 dX19_read__37 (by decide) (fun c5 => ?_) (fun c5 => ?_)
  · replace h := zi_t c5 h
    refine zr_aload_n F.1 F.2.1 dX19_read__42 rfl (lv_at hl 1 rfl) ?_
    obtain ⟨a6, rfl, h⟩ := zd_some h
    obtain ⟨r7, z8, hc9, h⟩ := zc_some h
    refine zr_calli (zrun_VN (As := []) (rest := []) zn_2728 zq_2712 zs_X14_readable zq_2713 zq_21 hdX14_readable (by decide) (T := TX14) (N := 47) rfl (okX14_readable l D cy B ids hst N a6 (hx3 _ rfl) hr.2.2 hc9) F hr (hx3 _ rfl) hl.1 rfl (by decide) dX19_read__43 rfl rfl hroX19_read__X14_readable ⟨Nat.zero_le _, Nat.zero_le _⟩) F hA hr (fun H locs hx10 hr => ?_)
    clear hc9
    refine lv_if_le (tgt := 57) F.1 F.2.1 dX19_read__46 (by decide) (fun c11 => ?_) (fun c11 => ?_)
    · replace h := zi_t c11 h
      refine lv_aload_n F.1 F.2.1 dX19_read__57 rfl (lv_at hl 1 rfl) ?_
      refine gf19_682 F (hx3 _ rfl) hr dX19_read__58 ?_
      refine lv_if_eq (tgt := 69) F.1 F.2.1 dX19_read__61 (by decide) (fun c12 => ?_) (fun c12 => ?_)
      · replace h := zi_t c12 h
        refine lv_iconst (v := (-1)) F.1 F.2.1 dX19_read__69 (by decide) ?_
        obtain ⟨rfl, rfl⟩ := zret h
        exact E _ _ _ _ dX19_read__70 trivial hr
      · replace h := zi_f c12 h
        refine lv_bipush (v := (-2)) F.1 F.2.1 dX19_read__64 (by decide) ?_
        refine lv_goto (tgt := 70) F.1 F.2.1 dX19_read__66 (by decide) ?_
        obtain ⟨rfl, rfl⟩ := zret h
        exact E _ _ _ _ dX19_read__70 trivial hr
    · replace h := zi_f c11 h
      refine lv_aload_n F.1 F.2.1 dX19_read__49 rfl (lv_at hl 0 rfl) ?_
      refine lv_aload_n F.1 F.2.1 dX19_read__50 rfl (lv_at hl 1 rfl) ?_
      obtain ⟨r13, z14, hc15, h⟩ := zc_some h
      refine zr_calli (zrun_V (As := [.ref (B 14 a6)]) (rest := []) zq_2978 zq_2980 zs_X19_read zq_2981 zq_4 hdX19_read (by decide) (T := TX19) (N := 32) rfl (okX19_read l D cy B ids hst N x0 hx0 a6 (hx3 _ rfl) hr.2.2 hc15) F hr hx0 hl.1 rfl (by decide) dX19_read__51 rfl rfl hroX19_read__X19_read ⟨Nat.zero_le _, Nat.zero_le _⟩) F hA hr (fun H locs hx16 hr => ?_)
      clear hc15
      refine lv_goto (tgt := 70) F.1 F.2.1 dX19_read__54 (by decide) ?_
      obtain ⟨rfl, rfl⟩ := zret h
      exact E _ _ _ _ dX19_read__70 trivial hr
  · replace h := zi_f c5 h
    refine lv_iconst (v := (0)) F.1 F.2.1 dX19_read__40 (by decide) ?_
    obtain ⟨rfl, rfl⟩ := zret h
    exact E _ _ _ _ dX19_read__41 trivial hr
def fX19_read__22 (N : Nat)  (x0 : Nat) (x3 : Option Nat) (s0 : Nat) (s1 : Int32) (z : St) : Option (Int32 × St) := zc (fX19_canRead N x3 z) fun r1 z2 => if ¬ r1 = 0 then (fX19_read__34 N x0 x3 s0 s1 (0) z2) else (fX19_read__34 N x0 x3 s0 s1 (1) z2)
set_option maxHeartbeats 4000000 in
set_option maxRecDepth 100000 in
theorem bX19_read__22 (hst : zSt B ids) (F : zFx p m c cX19_read_ 4 s args RX19 D cy B ids A) (hA : ∀ q : Nat, s.heap.size ≤ q → A q) {r : Int32} {z' : St} (E : zEnd p l e rmX19_read_ s m args below meth c cX19_read_ D cy B ids A Q (some (.int r)) z' .ireturn True) {N : Nat}  (x0 : Nat) (x3 : Option Nat) (s0 : Nat) (s1 : Int32) (hx0 : (19, x0) ∈ ids) (hx3 : ∀ t, x3 = some t → (14, t) ∈ ids) (hs0 : (19, s0) ∈ ids) {z : St} {H : Heap} {locs : List Loc} {ls : Array Slot} (hr : zRep D cy B ids A s.heap z H locs) (hl : lv_has ls 4 [(0, .ref (B 19 x0)), (3, va_rf (Option.map (B 14) x3))]) (h : fX19_read__22 N x0 x3 s0 s1 z = some (r, z')) : W p l e rmX19_read_ s m args below meth c H locs 0 0 Q (F0 m 22 ls [.int s1, .ref (B 19 s0)]) := by
  unfold fX19_read__22 at h
  refine zr_aload_n F.1 F.2.1 dX19_read__22 rfl (lv_at hl 1 rfl) ?_
  obtain ⟨r1, z2, hc3, h⟩ := zc_some h
  refine zr_calli (zrun_S (As := [va_rf (Option.map (B 14) x3)]) (rest := [.int s1, .ref (B 19 s0)]) zq_3049 zq_3050 zq_3051 zq_4 hdX19_canRead (okX19_canRead l D cy B ids hst N x3 hx3 hr.2.2 hc3) F hr hl.1 rfl (Nat.le_of_ble_eq_true rfl) dX19_read__23 rfl rfl hroX19_read__X19_canRead ⟨Nat.zero_le _, Nat.zero_le _⟩) F hA hr (fun H locs hx4 hr => ?_)
  clear hc3
  refine lv_if_ne (tgt := 33) F.1 F.2.1 dX19_read__26 (by decide) (fun c5 => ?_) (fun c5 => ?_)
  · replace h := zi_t c5 h
    refine lv_iconst (v := (0)) F.1 F.2.1 dX19_read__33 (by decide) ?_
    exact bX19_read__34 hst F hA E  x0 x3 s0 s1 (0) hx0 hx3 hs0 hr (lv_sub hl [0, 1] rfl) h
  · replace h := zi_f (fun q => q c5) h
    refine lv_iconst (v := (1)) F.1 F.2.1 dX19_read__29 (by decide) ?_
    refine lv_goto (tgt := 34) F.1 F.2.1 dX19_read__30 (by decide) ?_
    exact bX19_read__34 hst F hA E  x0 x3 s0 s1 (1) hx0 hx3 hs0 hr (lv_sub hl [0, 1] rfl) h
def fX19_read_ (N : Nat)  (x0 : Nat) (x1 : Int32) (x2 : Int32) (z : St) : Option (Int32 × St) := zc (fX19_endAt N x0 x1 x2 z) fun r1 z2 => zc (fX19_isDoor N x0 x1 x2 z2) fun r5 z6 => if ¬ r5 = 0 then (fX19_read__22 N x0 r1 x0 (0) z6) else (fX19_read__22 N x0 r1 x0 (1) z6)
set_option maxHeartbeats 4000000 in
set_option maxRecDepth 100000 in
theorem bX19_read__0 (hst : zSt B ids) (F : zFx p m c cX19_read_ 4 s args RX19 D cy B ids A) (hA : ∀ q : Nat, s.heap.size ≤ q → A q) {r : Int32} {z' : St} (E : zEnd p l e rmX19_read_ s m args below meth c cX19_read_ D cy B ids A Q (some (.int r)) z' .ireturn True) {N : Nat}  (x0 : Nat) (x1 : Int32) (x2 : Int32) (hx0 : (19, x0) ∈ ids) {z : St} {H : Heap} {locs : List Loc} {ls : Array Slot} (hr : zRep D cy B ids A s.heap z H locs) (hl : lv_has ls 4 [(0, .ref (B 19 x0)), (1, .int x1), (2, .int x2)]) (h : fX19_read_ N x0 x1 x2 z = some (r, z')) : W p l e rmX19_read_ s m args below meth c H locs 0 0 Q (F0 m 0 ls []) := by
  unfold fX19_read_ at h
  refine lv_aload_n F.1 F.2.1 dX19_read__0 rfl (lv_at hl 0 rfl) ?_
  refine lv_iload_n F.1 F.2.1 dX19_read__1 rfl (lv_at hl 1 rfl) ?_
  refine lv_iload_n F.1 F.2.1 dX19_read__2 rfl (lv_at hl 2 rfl) ?_
  obtain ⟨r1, z2, hc3, h⟩ := zc_some h
  refine zr_callr (zrun_V (As := [.int x1, .int x2]) (rest := []) zq_3020 zq_3022 zs_X19_endAt zq_3023 zq_4 hdX19_endAt (by decide) (T := TX19) (N := 32) rfl (okX19_endAt l D cy B ids hst N x0 hx0 x1  x2  hr.2.2 hc3) F hr hx0 hl.1 rfl (by decide) dX19_read__3 rfl rfl hroX19_read__X19_endAt ⟨Nat.zero_le _, Nat.zero_le _⟩) F hA hr (fun H locs hx4 hr => ?_)
  clear hc3
  refine zr_astore_n (lv' := [(3, va_rf (Option.map (B 14) r1)), (0, .ref (B 19 x0)), (1, .int x1), (2, .int x2)]) F.1 F.2.1 dX19_read__6 rfl hl (by decide) rfl (fun ls hl => ?_)
  refine lv_aload_n F.1 F.2.1 dX19_read__7 rfl (lv_at hl 1 rfl) ?_
  refine lv_aload_n F.1 F.2.1 dX19_read__8 rfl (lv_at hl 1 rfl) ?_
  refine lv_iload_n F.1 F.2.1 dX19_read__9 rfl (lv_at hl 2 rfl) ?_
  refine lv_iload_n F.1 F.2.1 dX19_read__10 rfl (lv_at hl 3 rfl) ?_
  obtain ⟨r5, z6, hc7, h⟩ := zc_some h
  refine zr_calli (zrun_V (As := [.int x1, .int x2]) (rest := [.ref (B 19 x0)]) zq_3012 zq_3014 zs_X19_isDoor zq_3015 zq_4 hdX19_isDoor (by decide) (T := TX19) (N := 32) rfl (okX19_isDoor l D cy B ids hst N x0 hx0 x1  x2  hr.2.2 hc7) F hr hx0 hl.1 rfl (Nat.le_of_ble_eq_true rfl) dX19_read__11 rfl rfl hroX19_read__X19_isDoor ⟨Nat.zero_le _, Nat.zero_le _⟩) F hA hr (fun H locs hx8 hr => ?_)
  clear hc7
  refine lv_if_ne (tgt := 21) F.1 F.2.1 dX19_read__14 (by decide) (fun c9 => ?_) (fun c9 => ?_)
  · replace h := zi_t c9 h
    refine lv_iconst (v := (0)) F.1 F.2.1 dX19_read__21 (by decide) ?_
    exact bX19_read__22 hst F hA E  x0 r1 x0 (0) hx0 hx4 hx0 hr (lv_sub hl [1, 0] rfl) h
  · replace h := zi_f (fun q => q c9) h
    refine lv_iconst (v := (1)) F.1 F.2.1 dX19_read__17 (by decide) ?_
    refine lv_goto (tgt := 22) F.1 F.2.1 dX19_read__18 (by decide) ?_
    exact bX19_read__22 hst F hA E  x0 r1 x0 (1) hx0 hx4 hx0 hr (lv_sub hl [1, 0] rfl) h
end SX19_read_
set_option maxRecDepth 100000 in
theorem okX19_read_ (l : Launch) (D : va_G) (cy : Nat → ClassId) (B : Nat → Nat → Nat) (ids : List (Nat × Nat)) (hst : zSt B ids) (N : Nat) (x0 : Nat) (hx0 : (19, x0) ∈ ids) (x1 : Int32) (x2 : Int32) {z : St} {r : Int32} {z' : St} (hW : zWf ids z) (h : fX19_read_ N x0 x1 x2 z = some (r, z')) : zM l yX19_read_ (zws yX19_read_ cX19_read_ 4 (some .int)) rmX19_read_ D cy B ids [.ref (B 19 x0), .int x1, .int x2] (some (.int r)) True z z' :=
  zM_of hst hW (by decide +kernel) (Nat.le_of_ble_eq_true rfl) (fun p e s m args below meth c A ls F hA hret hlocks hr hl => bX19_read__0 hst F hA (zEnd_i F hret hlocks) x0 x1 x2 hx0 hr hl h)
abbrev rmX19_readAll : Room := { frames := 4, cells := 0, slots := 0, locals := 86 }
theorem hdX19_readAll : yX19_readAll.cls ≠ "java/lang/invoke/MethodHandle" ∧ yX19_readAll.cls ≠ "java/lang/invoke/VarHandle" ∧ (parseMethodDescriptor yX19_readAll.desc).map (fun d => d.parameters.length) = some 3 := by decide +kernel
theorem hroX19_readAll_X14_readable : rmX14_readable.frames + 1 ≤ rmX19_readAll.frames ∧ 8 + (1 + 11) + rmX14_readable.locals ≤ rmX19_readAll.locals := by decide
theorem hroX19_readAll_X19_canRead : rmX19_canRead.frames + 1 ≤ rmX19_readAll.frames ∧ 8 + (1 + 11) + rmX19_canRead.locals ≤ rmX19_readAll.locals := by decide
theorem hroX19_readAll_X19_endAt : rmX19_endAt.frames + 1 ≤ rmX19_readAll.frames ∧ 8 + (3 + 11) + rmX19_endAt.locals ≤ rmX19_readAll.locals := by decide
theorem hroX19_readAll_X19_fails : rmX19_fails.frames + 1 ≤ rmX19_readAll.frames ∧ 8 + (3 + 11) + rmX19_fails.locals ≤ rmX19_readAll.locals := by decide
theorem hroX19_readAll_X19_isDoor : rmX19_isDoor.frames + 1 ≤ rmX19_readAll.frames ∧ 8 + (3 + 11) + rmX19_isDoor.locals ≤ rmX19_readAll.locals := by decide
theorem hroX19_readAll_X19_read : rmX19_read.frames + 1 ≤ rmX19_readAll.frames ∧ 8 + (4 + 11) + rmX19_read.locals ≤ rmX19_readAll.locals := by decide
section SX19_readAll
variable {p : Program} {l : Launch} {e : Env} {s : State} {m : MethodId} {args : Array Value} {below : List Frame} {meth : Method} {c : Code} {Q : State → Prop} {D : va_G} {cy : Nat → ClassId} {B : Nat → Nat → Nat} {ids : List (Nat × Nat)} {A : Nat → Prop}
def fX19_readAll_62b (N : Nat) (K62 : Nat → Int32 → Option Nat → Int32 → Int32 → St → Option (Int32 × St)) (x0 : Nat) (x3 : Int32) (x4 : Option Nat) (x5 : Int32) (x6 : Int32) (z : St) : Option (Int32 × St) := if x3 ≤ x6 then (some (x5, z)) else (zd x4 fun a2 => zc (fX14_readable N a2 z) fun r3 z4 => if r3 ≤ 0 then (some (x5, z4)) else (zc (fX19_read N x0 a2 z4) fun r8 z9 => zl (((31) * x5) + r8) fun v12 => zl (x6 + 1) fun v13 => K62 x0 x3 (some a2) v12 v13 z9))
def fX19_readAll_62 (N : Nat)  : Nat → Nat → Int32 → Option Nat → Int32 → Int32 → St → Option (Int32 × St)
  | 0 => fun _ _ _ _ _ _ => none
  | n + 1 => fX19_readAll_62b N (fX19_readAll_62 N  n)
set_option maxHeartbeats 4000000 in
set_option maxRecDepth 100000 in
theorem bX19_readAll_62 (hst : zSt B ids) (F : zFx p m c cX19_readAll 7 s args RX19 D cy B ids A) (hA : ∀ q : Nat, s.heap.size ≤ q → A q) {r : Int32} {z' : St} (E : zEnd p l e rmX19_readAll s m args below meth c cX19_readAll D cy B ids A Q (some (.int r)) z' .ireturn True) {N : Nat} {K62 : Nat → Int32 → Option Nat → Int32 → Int32 → St → Option (Int32 × St)} (hK62 : ∀ (x0 : Nat) (x3 : Int32) (x4 : Option Nat) (x5 : Int32) (x6 : Int32) (hx0 : (19, x0) ∈ ids) (hx4 : ∀ t, x4 = some t → (14, t) ∈ ids) {z : St} {H : Heap} {locs : List Loc} {ls : Array Slot} (hr : zRep D cy B ids A s.heap z H locs) (hl : lv_has ls 7 [(0, .ref (B 19 x0)), (3, .int x3), (4, va_rf (Option.map (B 14) x4)), (5, .int x5), (6, .int x6)]), K62 x0 x3 x4 x5 x6 z = some (r, z') → W p l e rmX19_readAll s m args below meth c H locs 0 0 Q (F0 m 62 ls [])) (x0 : Nat) (x3 : Int32) (x4 : Option Nat) (x5 : Int32) (x6 : Int32) (hx0 : (19, x0) ∈ ids) (hx4 : ∀ t, x4 = some t → (14, t) ∈ ids) {z : St} {H : Heap} {locs : List Loc} {ls : Array Slot} (hr : zRep D cy B ids A s.heap z H locs) (hl : lv_has ls 7 [(0, .ref (B 19 x0)), (3, .int x3), (4, va_rf (Option.map (B 14) x4)), (5, .int x5), (6, .int x6)]) (h : fX19_readAll_62b N K62 x0 x3 x4 x5 x6 z = some (r, z')) : W p l e rmX19_readAll s m args below meth c H locs 0 0 Q (F0 m 62 ls []) := by
  unfold fX19_readAll_62b at h
  refine lv_iload F.1 F.2.1 dX19_readAll_62 (lv_at hl 4 rfl) ?_
  refine lv_iload_n F.1 F.2.1 dX19_readAll_64 rfl (lv_at hl 1 rfl) ?_
  refine lv_icmp_ge (tgt := 96) F.1 F.2.1 dX19_readAll_65 (by decide) (fun c1 => ?_) (fun c1 => ?_)
  · replace h := zi_t c1 h
    refine lv_iload F.1 F.2.1 dX19_readAll_96 (lv_at hl 3 rfl) ?_
    obtain ⟨rfl, rfl⟩ := zret h
    exact E _ _ _ _ dX19_readAll_98 trivial hr
  · replace h := zi_f c1 h
    refine zr_aload F.1 F.2.1 dX19_readAll_68 (lv_at hl 2 rfl) ?_
    obtain ⟨a2, rfl, h⟩ := zd_some h
    obtain ⟨r3, z4, hc5, h⟩ := zc_some h
    refine zr_calli (zrun_VN (As := []) (rest := []) zn_2728 zq_2712 zs_X14_readable zq_2713 zq_21 hdX14_readable (by decide) (T := TX14) (N := 47) rfl (okX14_readable l D cy B ids hst N a2 (hx4 _ rfl) hr.2.2 hc5) F hr (hx4 _ rfl) hl.1 rfl (by decide) dX19_readAll_70 rfl rfl hroX19_readAll_X14_readable ⟨Nat.zero_le _, Nat.zero_le _⟩) F hA hr (fun H locs hx6 hr => ?_)
    clear hc5
    refine lv_if_le (tgt := 96) F.1 F.2.1 dX19_readAll_73 (by decide) (fun c7 => ?_) (fun c7 => ?_)
    · replace h := zi_t c7 h
      refine lv_iload F.1 F.2.1 dX19_readAll_96 (lv_at hl 3 rfl) ?_
      obtain ⟨rfl, rfl⟩ := zret h
      exact E _ _ _ _ dX19_readAll_98 trivial hr
    · replace h := zi_f c7 h
      refine lv_bipush (v := (31)) F.1 F.2.1 dX19_readAll_76 (by decide) ?_
      refine lv_iload F.1 F.2.1 dX19_readAll_78 (lv_at hl 3 rfl) ?_
      refine lv_imul F.1 F.2.1 dX19_readAll_80 ?_
      refine lv_aload_n F.1 F.2.1 dX19_readAll_81 rfl (lv_at hl 0 rfl) ?_
      refine lv_aload F.1 F.2.1 dX19_readAll_82 (lv_at hl 2 rfl) ?_
      obtain ⟨r8, z9, hc10, h⟩ := zc_some h
      refine zr_calli (zrun_V (As := [.ref (B 14 a2)]) (rest := [.int ((31) * x5)]) zq_2978 zq_2980 zs_X19_read zq_2981 zq_4 hdX19_read (by decide) (T := TX19) (N := 32) rfl (okX19_read l D cy B ids hst N x0 hx0 a2 (hx4 _ rfl) hr.2.2 hc10) F hr hx0 hl.1 rfl (Nat.le_of_ble_eq_true rfl) dX19_readAll_84 rfl rfl hroX19_readAll_X19_read ⟨Nat.zero_le _, Nat.zero_le _⟩) F hA hr (fun H locs hx11 hr => ?_)
      clear hc10
      refine lv_iadd F.1 F.2.1 dX19_readAll_87 ?_
      refine lv_topi (fun v12 ev12 => ?_)
      replace h := zl_sub ev12 h
      refine lv_istore (lv' := [(5, .int v12), (0, .ref (B 19 x0)), (3, .int x3), (4, .ref (B 14 a2)), (6, .int x6)]) F.1 F.2.1 dX19_readAll_88 hl (by decide) rfl (fun ls hl => ?_)
      obtain ⟨v13, ev13⟩ : ∃ y : Int32, y = (x6 + 1) := ⟨_, rfl⟩
      replace h := zl_sub ev13 h
      refine lv_iinc (v := v13) (lv' := [(6, .int v13), (5, .int v12), (0, .ref (B 19 x0)), (3, .int x3), (4, .ref (B 14 a2))]) F.1 F.2.1 dX19_readAll_90 hl (k := 4) rfl (by rw [ev13]; rfl) (by decide) rfl (fun ls hl => ?_)
      refine lv_goto (tgt := 62) F.1 F.2.1 dX19_readAll_93 (by decide) ?_
      exact hK62 x0 x3 (some a2) v12 v13 hx0 (zal_s (hx4 _ rfl)) hr (lv_sub hl [2, 3, 4, 1, 0] rfl) h
theorem lX19_readAll_62 (hst : zSt B ids) (F : zFx p m c cX19_readAll 7 s args RX19 D cy B ids A) (hA : ∀ q : Nat, s.heap.size ≤ q → A q) {r : Int32} {z' : St} (E : zEnd p l e rmX19_readAll s m args below meth c cX19_readAll D cy B ids A Q (some (.int r)) z' .ireturn True) {N : Nat}  : ∀ (n : Nat) (x0 : Nat) (x3 : Int32) (x4 : Option Nat) (x5 : Int32) (x6 : Int32) (hx0 : (19, x0) ∈ ids) (hx4 : ∀ t, x4 = some t → (14, t) ∈ ids) {z : St} {H : Heap} {locs : List Loc} {ls : Array Slot} (hr : zRep D cy B ids A s.heap z H locs) (hl : lv_has ls 7 [(0, .ref (B 19 x0)), (3, .int x3), (4, va_rf (Option.map (B 14) x4)), (5, .int x5), (6, .int x6)]), fX19_readAll_62 N  n x0 x3 x4 x5 x6 z = some (r, z') → W p l e rmX19_readAll s m args below meth c H locs 0 0 Q (F0 m 62 ls []) := by
  intro n
  induction n with
  | zero => intro x0 x3 x4 x5 x6 hx0 hx4 z H locs ls hr hl h; cases h
  | succ n ih => intro x0 x3 x4 x5 x6 hx0 hx4 z H locs ls hr hl h; exact bX19_readAll_62 hst F hA E ih x0 x3 x4 x5 x6 hx0 hx4 hr hl h
def fX19_readAll_48 (N : Nat)  (x0 : Nat) (x3 : Int32) (x4 : Option Nat) (s0 : Nat) (s1 : Int32) (s2 : Int32) (z : St) : Option (Int32 × St) := zc (fX19_fails N s0 s1 s2 z) fun r1 z2 => if r1 = 0 then (fX19_readAll_62 N N x0 x3 x4 (1) (0) z2) else (some ((0), z2))
set_option maxHeartbeats 4000000 in
set_option maxRecDepth 100000 in
theorem bX19_readAll_48 (hst : zSt B ids) (F : zFx p m c cX19_readAll 7 s args RX19 D cy B ids A) (hA : ∀ q : Nat, s.heap.size ≤ q → A q) {r : Int32} {z' : St} (E : zEnd p l e rmX19_readAll s m args below meth c cX19_readAll D cy B ids A Q (some (.int r)) z' .ireturn True) {N : Nat}  (x0 : Nat) (x3 : Int32) (x4 : Option Nat) (s0 : Nat) (s1 : Int32) (s2 : Int32) (hx0 : (19, x0) ∈ ids) (hx4 : ∀ t, x4 = some t → (14, t) ∈ ids) (hs0 : (19, s0) ∈ ids) {z : St} {H : Heap} {locs : List Loc} {ls : Array Slot} (hr : zRep D cy B ids A s.heap z H locs) (hl : lv_has ls 7 [(0, .ref (B 19 x0)), (3, .int x3), (4, va_rf (Option.map (B 14) x4))]) (h : fX19_readAll_48 N x0 x3 x4 s0 s1 s2 z = some (r, z')) : W p l e rmX19_readAll s m args below meth c H locs 0 0 Q (F0 m 48 ls [.int s2, .int s1, .ref (B 19 s0)]) := by
  unfold fX19_readAll_48 at h
  obtain ⟨r1, z2, hc3, h⟩ := zc_some h
  refine zr_calli (zrun_V (As := [.int s1, .int s2]) (rest := []) zq_2402 zq_2404 zs_X19_fails zq_2405 zq_4 hdX19_fails (by decide) (T := TX19) (N := 32) rfl (okX19_fails l D cy B ids hst N s0 hs0 s1  s2  hr.2.2 hc3) F hr hs0 hl.1 rfl (by decide) dX19_readAll_48 rfl rfl hroX19_readAll_X19_fails ⟨Nat.zero_le _, Nat.zero_le _⟩) F hA hr (fun H locs hx4 hr => ?_)
  clear hc3
  refine lv_if_eq (tgt := 56) F.1 F.2.1 dX19_readAll_51 (by decide) (fun c5 => ?_) (fun c5 => ?_)
  · replace h := zi_t c5 h
    refine lv_iconst (v := (1)) F.1 F.2.1 dX19_readAll_56 (by decide) ?_
    refine lv_istore (lv' := [(5, .int (1)), (0, .ref (B 19 x0)), (3, .int x3), (4, va_rf (Option.map (B 14) x4))]) F.1 F.2.1 dX19_readAll_57 hl (by decide) (by simp only [List.filter, zrf_cat]; rfl) (fun ls hl => ?_)
    refine lv_iconst (v := (0)) F.1 F.2.1 dX19_readAll_59 (by decide) ?_
    refine lv_istore (lv' := [(6, .int (0)), (5, .int (1)), (0, .ref (B 19 x0)), (3, .int x3), (4, va_rf (Option.map (B 14) x4))]) F.1 F.2.1 dX19_readAll_60 hl (by decide) rfl (fun ls hl => ?_)
    exact lX19_readAll_62 hst F hA E  _ x0 x3 x4 (1) (0) hx0 hx4 hr (lv_sub hl [2, 3, 4, 1, 0] rfl) h
  · replace h := zi_f c5 h
    refine lv_iconst (v := (0)) F.1 F.2.1 dX19_readAll_54 (by decide) ?_
    obtain ⟨rfl, rfl⟩ := zret h
    exact E _ _ _ _ dX19_readAll_55 trivial hr
def fX19_readAll_35 (N : Nat)  (x0 : Nat) (x3 : Int32) (x4 : Option Nat) (s0 : Nat) (s1 : Int32) (z : St) : Option (Int32 × St) := zc (fX19_canRead N x4 z) fun r1 z2 => if ¬ r1 = 0 then (fX19_readAll_48 N x0 x3 x4 s0 s1 (0) z2) else (fX19_readAll_48 N x0 x3 x4 s0 s1 (1) z2)
set_option maxHeartbeats 4000000 in
set_option maxRecDepth 100000 in
theorem bX19_readAll_35 (hst : zSt B ids) (F : zFx p m c cX19_readAll 7 s args RX19 D cy B ids A) (hA : ∀ q : Nat, s.heap.size ≤ q → A q) {r : Int32} {z' : St} (E : zEnd p l e rmX19_readAll s m args below meth c cX19_readAll D cy B ids A Q (some (.int r)) z' .ireturn True) {N : Nat}  (x0 : Nat) (x3 : Int32) (x4 : Option Nat) (s0 : Nat) (s1 : Int32) (hx0 : (19, x0) ∈ ids) (hx4 : ∀ t, x4 = some t → (14, t) ∈ ids) (hs0 : (19, s0) ∈ ids) {z : St} {H : Heap} {locs : List Loc} {ls : Array Slot} (hr : zRep D cy B ids A s.heap z H locs) (hl : lv_has ls 7 [(0, .ref (B 19 x0)), (3, .int x3), (4, va_rf (Option.map (B 14) x4))]) (h : fX19_readAll_35 N x0 x3 x4 s0 s1 z = some (r, z')) : W p l e rmX19_readAll s m args below meth c H locs 0 0 Q (F0 m 35 ls [.int s1, .ref (B 19 s0)]) := by
  unfold fX19_readAll_35 at h
  refine zr_aload F.1 F.2.1 dX19_readAll_35 (lv_at hl 2 rfl) ?_
  obtain ⟨r1, z2, hc3, h⟩ := zc_some h
  refine zr_calli (zrun_S (As := [va_rf (Option.map (B 14) x4)]) (rest := [.int s1, .ref (B 19 s0)]) zq_3049 zq_3050 zq_3051 zq_4 hdX19_canRead (okX19_canRead l D cy B ids hst N x4 hx4 hr.2.2 hc3) F hr hl.1 rfl (Nat.le_of_ble_eq_true rfl) dX19_readAll_37 rfl rfl hroX19_readAll_X19_canRead ⟨Nat.zero_le _, Nat.zero_le _⟩) F hA hr (fun H locs hx4 hr => ?_)
  clear hc3
  refine lv_if_ne (tgt := 47) F.1 F.2.1 dX19_readAll_40 (by decide) (fun c5 => ?_) (fun c5 => ?_)
  · replace h := zi_t c5 h
    refine lv_iconst (v := (0)) F.1 F.2.1 dX19_readAll_47 (by decide) ?_
    exact bX19_readAll_48 hst F hA E  x0 x3 x4 s0 s1 (0) hx0 hx4 hs0 hr (lv_sub hl [0, 1, 2] rfl) h
  · replace h := zi_f (fun q => q c5) h
    refine lv_iconst (v := (1)) F.1 F.2.1 dX19_readAll_43 (by decide) ?_
    refine lv_goto (tgt := 48) F.1 F.2.1 dX19_readAll_44 (by decide) ?_
    exact bX19_readAll_48 hst F hA E  x0 x3 x4 s0 s1 (1) hx0 hx4 hs0 hr (lv_sub hl [0, 1, 2] rfl) h
def fX19_readAll_30 (N : Nat)  (x0 : Nat) (x3 : Int32) (x4 : Option Nat) (s0 : Nat) (z : St) : Option (Int32 × St) := fX19_readAll_35 N x0 x3 x4 s0 (1) z
set_option maxHeartbeats 4000000 in
set_option maxRecDepth 100000 in
theorem bX19_readAll_30 (hst : zSt B ids) (F : zFx p m c cX19_readAll 7 s args RX19 D cy B ids A) (hA : ∀ q : Nat, s.heap.size ≤ q → A q) {r : Int32} {z' : St} (E : zEnd p l e rmX19_readAll s m args below meth c cX19_readAll D cy B ids A Q (some (.int r)) z' .ireturn True) {N : Nat}  (x0 : Nat) (x3 : Int32) (x4 : Option Nat) (s0 : Nat) (hx0 : (19, x0) ∈ ids) (hx4 : ∀ t, x4 = some t → (14, t) ∈ ids) (hs0 : (19, s0) ∈ ids) {z : St} {H : Heap} {locs : List Loc} {ls : Array Slot} (hr : zRep D cy B ids A s.heap z H locs) (hl : lv_has ls 7 [(0, .ref (B 19 x0)), (3, .int x3), (4, va_rf (Option.map (B 14) x4))]) (h : fX19_readAll_30 N x0 x3 x4 s0 z = some (r, z')) : W p l e rmX19_readAll s m args below meth c H locs 0 0 Q (F0 m 30 ls [.ref (B 19 s0)]) := by
  unfold fX19_readAll_30 at h
  refine lv_iconst (v := (1)) F.1 F.2.1 dX19_readAll_30 (by decide) ?_
  refine lv_goto (tgt := 35) F.1 F.2.1 dX19_readAll_31 (by decide) ?_
  exact bX19_readAll_35 hst F hA E  x0 x3 x4 s0 (1) hx0 hx4 hs0 hr (lv_sub hl [0, 1, 2] rfl) h
def fX19_readAll (N : Nat)  (x0 : Nat) (x1 : Int32) (x2 : Int32) (x3 : Int32) (z : St) : Option (Int32 × St) := zc (fX19_endAt N x0 x1 x2 z) fun r1 z2 => zc (fX19_isDoor N x0 x1 x2 z2) fun r5 z6 => if r5 = 0 then (fX19_readAll_30 N x0 x3 r1 x0 z6) else (if x3 < (1) then (fX19_readAll_30 N x0 x3 r1 x0 z6) else (if x3 ≤ (2048) then (fX19_readAll_35 N x0 x3 r1 x0 (0) z6) else (fX19_readAll_30 N x0 x3 r1 x0 z6)))
set_option maxHeartbeats 4000000 in
set_option maxRecDepth 100000 in
theorem bX19_readAll_0 (hst : zSt B ids) (F : zFx p m c cX19_readAll 7 s args RX19 D cy B ids A) (hA : ∀ q : Nat, s.heap.size ≤ q → A q) {r : Int32} {z' : St} (E : zEnd p l e rmX19_readAll s m args below meth c cX19_readAll D cy B ids A Q (some (.int r)) z' .ireturn True) {N : Nat}  (x0 : Nat) (x1 : Int32) (x2 : Int32) (x3 : Int32) (hx0 : (19, x0) ∈ ids) {z : St} {H : Heap} {locs : List Loc} {ls : Array Slot} (hr : zRep D cy B ids A s.heap z H locs) (hl : lv_has ls 7 [(0, .ref (B 19 x0)), (1, .int x1), (2, .int x2), (3, .int x3)]) (h : fX19_readAll N x0 x1 x2 x3 z = some (r, z')) : W p l e rmX19_readAll s m args below meth c H locs 0 0 Q (F0 m 0 ls []) := by
  unfold fX19_readAll at h
  refine lv_aload_n F.1 F.2.1 dX19_readAll_0 rfl (lv_at hl 0 rfl) ?_
  refine lv_iload_n F.1 F.2.1 dX19_readAll_1 rfl (lv_at hl 1 rfl) ?_
  refine lv_iload_n F.1 F.2.1 dX19_readAll_2 rfl (lv_at hl 2 rfl) ?_
  obtain ⟨r1, z2, hc3, h⟩ := zc_some h
  refine zr_callr (zrun_V (As := [.int x1, .int x2]) (rest := []) zq_3020 zq_3022 zs_X19_endAt zq_3023 zq_4 hdX19_endAt (by decide) (T := TX19) (N := 32) rfl (okX19_endAt l D cy B ids hst N x0 hx0 x1  x2  hr.2.2 hc3) F hr hx0 hl.1 rfl (by decide) dX19_readAll_3 rfl rfl hroX19_readAll_X19_endAt ⟨Nat.zero_le _, Nat.zero_le _⟩) F hA hr (fun H locs hx4 hr => ?_)
  clear hc3
  refine zr_astore (lv' := [(4, va_rf (Option.map (B 14) r1)), (0, .ref (B 19 x0)), (1, .int x1), (2, .int x2), (3, .int x3)]) F.1 F.2.1 dX19_readAll_6 hl (by decide) rfl (fun ls hl => ?_)
  refine lv_aload_n F.1 F.2.1 dX19_readAll_8 rfl (lv_at hl 1 rfl) ?_
  refine lv_aload_n F.1 F.2.1 dX19_readAll_9 rfl (lv_at hl 1 rfl) ?_
  refine lv_iload_n F.1 F.2.1 dX19_readAll_10 rfl (lv_at hl 2 rfl) ?_
  refine lv_iload_n F.1 F.2.1 dX19_readAll_11 rfl (lv_at hl 3 rfl) ?_
  obtain ⟨r5, z6, hc7, h⟩ := zc_some h
  refine zr_calli (zrun_V (As := [.int x1, .int x2]) (rest := [.ref (B 19 x0)]) zq_3012 zq_3014 zs_X19_isDoor zq_3015 zq_4 hdX19_isDoor (by decide) (T := TX19) (N := 32) rfl (okX19_isDoor l D cy B ids hst N x0 hx0 x1  x2  hr.2.2 hc7) F hr hx0 hl.1 rfl (Nat.le_of_ble_eq_true rfl) dX19_readAll_12 rfl rfl hroX19_readAll_X19_isDoor ⟨Nat.zero_le _, Nat.zero_le _⟩) F hA hr (fun H locs hx8 hr => ?_)
  clear hc7
  refine lv_if_eq (tgt := 30) F.1 F.2.1 dX19_readAll_15 (by decide) (fun c9 => ?_) (fun c9 => ?_)
  · replace h := zi_t c9 h
    exact bX19_readAll_30 hst F hA E  x0 x3 r1 x0 hx0 hx4 hx0 hr (lv_sub hl [1, 4, 0] rfl) h
  · replace h := zi_f c9 h
    refine lv_iload_n F.1 F.2.1 dX19_readAll_18 rfl (lv_at hl 4 rfl) ?_
    refine lv_iconst (v := (1)) F.1 F.2.1 dX19_readAll_19 (by decide) ?_
    refine lv_icmp_lt (tgt := 30) F.1 F.2.1 dX19_readAll_20 (by decide) (fun c10 => ?_) (fun c10 => ?_)
    · replace h := zi_t c10 h
      exact bX19_readAll_30 hst F hA E  x0 x3 r1 x0 hx0 hx4 hx0 hr (lv_sub hl [1, 4, 0] rfl) h
    · replace h := zi_f c10 h
      refine lv_iload_n F.1 F.2.1 dX19_readAll_23 rfl (lv_at hl 4 rfl) ?_
      refine lv_sipush (v := (2048)) F.1 F.2.1 dX19_readAll_24 (by decide) ?_
      refine lv_icmp_le (tgt := 34) F.1 F.2.1 dX19_readAll_27 (by decide) (fun c11 => ?_) (fun c11 => ?_)
      · replace h := zi_t c11 h
        refine lv_iconst (v := (0)) F.1 F.2.1 dX19_readAll_34 (by decide) ?_
        exact bX19_readAll_35 hst F hA E  x0 x3 r1 x0 (0) hx0 hx4 hx0 hr (lv_sub hl [1, 4, 0] rfl) h
      · replace h := zi_f c11 h
        exact bX19_readAll_30 hst F hA E  x0 x3 r1 x0 hx0 hx4 hx0 hr (lv_sub hl [1, 4, 0] rfl) h
end SX19_readAll
set_option maxRecDepth 100000 in
theorem okX19_readAll (l : Launch) (D : va_G) (cy : Nat → ClassId) (B : Nat → Nat → Nat) (ids : List (Nat × Nat)) (hst : zSt B ids) (N : Nat) (x0 : Nat) (hx0 : (19, x0) ∈ ids) (x1 : Int32) (x2 : Int32) (x3 : Int32) {z : St} {r : Int32} {z' : St} (hW : zWf ids z) (h : fX19_readAll N x0 x1 x2 x3 z = some (r, z')) : zM l yX19_readAll (zws yX19_readAll cX19_readAll 7 (some .int)) rmX19_readAll D cy B ids [.ref (B 19 x0), .int x1, .int x2, .int x3] (some (.int r)) True z z' :=
  zM_of hst hW (by decide +kernel) (Nat.le_of_ble_eq_true rfl) (fun p e s m args below meth c A ls F hA hret hlocks hr hl => bX19_readAll_0 hst F hA (zEnd_i F hret hlocks) x0 x1 x2 x3 hx0 hr hl h)
abbrev rmX19_close : Room := { frames := 4, cells := 0, slots := 0, locals := 86 }
theorem hdX19_close : yX19_close.cls ≠ "java/lang/invoke/MethodHandle" ∧ yX19_close.cls ≠ "java/lang/invoke/VarHandle" ∧ (parseMethodDescriptor yX19_close.desc).map (fun d => d.parameters.length) = some 2 := by decide +kernel
theorem hroX19_close_X14_abort : rmX14_abort.frames + 1 ≤ rmX19_close.frames ∧ 8 + (3 + 11) + rmX14_abort.locals ≤ rmX19_close.locals := by decide
theorem hroX19_close_X14_close : rmX14_close.frames + 1 ≤ rmX19_close.frames ∧ 8 + (2 + 11) + rmX14_close.locals ≤ rmX19_close.locals := by decide
theorem hroX19_close_X14_isDead : rmX14_isDead.frames + 1 ≤ rmX19_close.frames ∧ 8 + (1 + 11) + rmX14_isDead.locals ≤ rmX19_close.locals := by decide
theorem hroX19_close_X14_persist : rmX14_persist.frames + 1 ≤ rmX19_close.frames ∧ 8 + (2 + 11) + rmX14_persist.locals ≤ rmX19_close.locals := by decide
theorem hroX19_close_X19_endAt : rmX19_endAt.frames + 1 ≤ rmX19_close.frames ∧ 8 + (3 + 11) + rmX19_endAt.locals ≤ rmX19_close.locals := by decide
theorem hroX19_close_X19_fails : rmX19_fails.frames + 1 ≤ rmX19_close.frames ∧ 8 + (3 + 11) + rmX19_fails.locals ≤ rmX19_close.locals := by decide
theorem hroX19_close_X19_isDoor : rmX19_isDoor.frames + 1 ≤ rmX19_close.frames ∧ 8 + (3 + 11) + rmX19_isDoor.locals ≤ rmX19_close.locals := by decide
theorem hroX19_close_X19_stir : rmX19_stir.frames + 1 ≤ rmX19_close.frames ∧ 8 + (1 + 11) + rmX19_stir.locals ≤ rmX19_close.locals := by decide
theorem hroX19_close_X19_takeEnd : rmX19_takeEnd.frames + 1 ≤ rmX19_close.frames ∧ 8 + (2 + 11) + rmX19_takeEnd.locals ≤ rmX19_close.locals := by decide
section SX19_close
variable {p : Program} {l : Launch} {e : Env} {s : State} {m : MethodId} {args : Array Value} {below : List Frame} {meth : Method} {c : Code} {Q : State → Prop} {D : va_G} {cy : Nat → ClassId} {B : Nat → Nat → Nat} {ids : List (Nat × Nat)} {A : Nat → Prop}
def fX19_close_201 (N : Nat) (K126 : Nat → Int32 → Int32 → Int32 → St → Option (Int32 × St)) (x0 : Nat) (x1 : Int32) (x2 : Int32) (x7 : Int32) (z : St) : Option (Int32 × St) := zl (x7 + 1) fun v1 => K126 x0 x1 x2 v1 z
set_option maxHeartbeats 4000000 in
set_option maxRecDepth 100000 in
theorem bX19_close_201 (hst : zSt B ids) (F : zFx p m c cX19_close 9 s args RX19 D cy B ids A) (hA : ∀ q : Nat, s.heap.size ≤ q → A q) {r : Int32} {z' : St} (E : zEnd p l e rmX19_close s m args below meth c cX19_close D cy B ids A Q none z' .return_ True) {N : Nat} {K126 : Nat → Int32 → Int32 → Int32 → St → Option (Int32 × St)} (hK126 : ∀ (x0 : Nat) (x1 : Int32) (x2 : Int32) (x7 : Int32) (hx0 : (19, x0) ∈ ids) {z : St} {H : Heap} {locs : List Loc} {ls : Array Slot} (hr : zRep D cy B ids A s.heap z H locs) (hl : lv_has ls 9 [(0, .ref (B 19 x0)), (1, .int x1), (2, .int x2), (7, .int x7)]), K126 x0 x1 x2 x7 z = some (r, z') → W p l e rmX19_close s m args below meth c H locs 0 0 Q (F0 m 126 ls [])) (x0 : Nat) (x1 : Int32) (x2 : Int32) (x7 : Int32) (hx0 : (19, x0) ∈ ids) {z : St} {H : Heap} {locs : List Loc} {ls : Array Slot} (hr : zRep D cy B ids A s.heap z H locs) (hl : lv_has ls 9 [(0, .ref (B 19 x0)), (1, .int x1), (2, .int x2), (7, .int x7)]) (h : fX19_close_201 N K126 x0 x1 x2 x7 z = some (r, z')) : W p l e rmX19_close s m args below meth c H locs 0 0 Q (F0 m 201 ls []) := by
  unfold fX19_close_201 at h
  obtain ⟨v1, ev1⟩ : ∃ y : Int32, y = (x7 + 1) := ⟨_, rfl⟩
  replace h := zl_sub ev1 h
  refine lv_iinc (v := v1) (lv' := [(7, .int v1), (0, .ref (B 19 x0)), (1, .int x1), (2, .int x2)]) F.1 F.2.1 dX19_close_201 hl (k := 3) rfl (by rw [ev1]; rfl) (by decide) rfl (fun ls hl => ?_)
  refine lv_goto (tgt := 126) F.1 F.2.1 dX19_close_204 (by decide) ?_
  exact hK126 x0 x1 x2 v1 hx0 hr (lv_sub hl [1, 2, 3, 0] rfl) h
def fX19_close_195 (N : Nat) (K126 : Nat → Int32 → Int32 → Int32 → St → Option (Int32 × St)) (x0 : Nat) (x1 : Int32) (x2 : Int32) (x7 : Int32) (x8 : Nat) (z : St) : Option (Int32 × St) := zl (zsI z 13 5 x8 (-1)) fun z1 => fX19_close_201 N K126 x0 x1 x2 x7 z1
set_option maxHeartbeats 4000000 in
set_option maxRecDepth 100000 in
theorem bX19_close_195 (hst : zSt B ids) (F : zFx p m c cX19_close 9 s args RX19 D cy B ids A) (hA : ∀ q : Nat, s.heap.size ≤ q → A q) {r : Int32} {z' : St} (E : zEnd p l e rmX19_close s m args below meth c cX19_close D cy B ids A Q none z' .return_ True) {N : Nat} {K126 : Nat → Int32 → Int32 → Int32 → St → Option (Int32 × St)} (hK126 : ∀ (x0 : Nat) (x1 : Int32) (x2 : Int32) (x7 : Int32) (hx0 : (19, x0) ∈ ids) {z : St} {H : Heap} {locs : List Loc} {ls : Array Slot} (hr : zRep D cy B ids A s.heap z H locs) (hl : lv_has ls 9 [(0, .ref (B 19 x0)), (1, .int x1), (2, .int x2), (7, .int x7)]), K126 x0 x1 x2 x7 z = some (r, z') → W p l e rmX19_close s m args below meth c H locs 0 0 Q (F0 m 126 ls [])) (x0 : Nat) (x1 : Int32) (x2 : Int32) (x7 : Int32) (x8 : Nat) (hx0 : (19, x0) ∈ ids) (hx8 : (13, x8) ∈ ids) {z : St} {H : Heap} {locs : List Loc} {ls : Array Slot} (hr : zRep D cy B ids A s.heap z H locs) (hl : lv_has ls 9 [(0, .ref (B 19 x0)), (1, .int x1), (2, .int x2), (7, .int x7), (8, .ref (B 13 x8))]) (h : fX19_close_195 N K126 x0 x1 x2 x7 x8 z = some (r, z')) : W p l e rmX19_close s m args below meth c H locs 0 0 Q (F0 m 195 ls []) := by
  unfold fX19_close_195 at h
  refine lv_aload F.1 F.2.1 dX19_close_195 (lv_at hl 4 rfl) ?_
  refine lv_iconst (v := (-1)) F.1 F.2.1 dX19_close_197 (by decide) ?_
  refine pf19_761 F hx8 hr dX19_close_198 (-1) (fun H locs z1 ez1 hr => ?_)
  replace h := zl_sub ez1 h
  clear ez1
  exact bX19_close_201 hst F hA E hK126 x0 x1 x2 x7 hx0 hr (lv_sub hl [0, 1, 2, 3] rfl) h
def fX19_close_126b (N : Nat) (K126 : Nat → Int32 → Int32 → Int32 → St → Option (Int32 × St)) (x0 : Nat) (x1 : Int32) (x2 : Int32) (x7 : Int32) (z : St) : Option (Int32 × St) := if (6) ≤ x7 then (some (0, z)) else (zk x1 16 <| zl (zgQ z 186 x0 x1.toNatClampNeg) fun y3 => zd y3 fun a4 => zk x7 6 <| zl (zgQ z 158 a4 x7.toNatClampNeg) fun y6 => zd y6 fun a7 => if (zgI z 13 3 a7) = 0 then (fX19_close_201 N K126 x0 x1 x2 x7 z) else (if ¬ (zgI z 13 5 a7) = x2 then (fX19_close_201 N K126 x0 x1 x2 x7 z) else (if ¬ (zgI z 13 7 a7) = 0 then (fX19_close_195 N K126 x0 x1 x2 x7 a7 z) else (zl (zgR z 13 4 a7) fun y11 => zd y11 fun a12 => zc (fX14_isDead N a12 z) fun r13 z14 => if ¬ r13 = 0 then (fX19_close_195 N K126 x0 x1 x2 x7 a7 z14) else (zl (zgR z14 13 4 a7) fun y18 => zd y18 fun a19 => zc (fX14_abort N a19 (zgI z14 19 24 x0) z14) fun _ z21 => fX19_close_195 N K126 x0 x1 x2 x7 a7 z21)))))
def fX19_close_126 (N : Nat)  : Nat → Nat → Int32 → Int32 → Int32 → St → Option (Int32 × St)
  | 0 => fun _ _ _ _ _ => none
  | n + 1 => fX19_close_126b N (fX19_close_126 N  n)
set_option maxHeartbeats 4000000 in
set_option maxRecDepth 100000 in
theorem bX19_close_126 (hst : zSt B ids) (F : zFx p m c cX19_close 9 s args RX19 D cy B ids A) (hA : ∀ q : Nat, s.heap.size ≤ q → A q) {r : Int32} {z' : St} (E : zEnd p l e rmX19_close s m args below meth c cX19_close D cy B ids A Q none z' .return_ True) {N : Nat} {K126 : Nat → Int32 → Int32 → Int32 → St → Option (Int32 × St)} (hK126 : ∀ (x0 : Nat) (x1 : Int32) (x2 : Int32) (x7 : Int32) (hx0 : (19, x0) ∈ ids) {z : St} {H : Heap} {locs : List Loc} {ls : Array Slot} (hr : zRep D cy B ids A s.heap z H locs) (hl : lv_has ls 9 [(0, .ref (B 19 x0)), (1, .int x1), (2, .int x2), (7, .int x7)]), K126 x0 x1 x2 x7 z = some (r, z') → W p l e rmX19_close s m args below meth c H locs 0 0 Q (F0 m 126 ls [])) (x0 : Nat) (x1 : Int32) (x2 : Int32) (x7 : Int32) (hx0 : (19, x0) ∈ ids) {z : St} {H : Heap} {locs : List Loc} {ls : Array Slot} (hr : zRep D cy B ids A s.heap z H locs) (hl : lv_has ls 9 [(0, .ref (B 19 x0)), (1, .int x1), (2, .int x2), (7, .int x7)]) (h : fX19_close_126b N K126 x0 x1 x2 x7 z = some (r, z')) : W p l e rmX19_close s m args below meth c H locs 0 0 Q (F0 m 126 ls []) := by
  unfold fX19_close_126b at h
  refine lv_iload F.1 F.2.1 dX19_close_126 (lv_at hl 3 rfl) ?_
  refine lv_bipush (v := (6)) F.1 F.2.1 dX19_close_128 (by decide) ?_
  refine lv_icmp_ge (tgt := 207) F.1 F.2.1 dX19_close_130 (by decide) (fun c1 => ?_) (fun c1 => ?_)
  · replace h := zi_t c1 h
    refine lv_goto (tgt := 242) F.1 F.2.1 dX19_close_207 (by decide) ?_
    obtain ⟨rfl, rfl⟩ := zret h
    exact E _ _ _ _ dX19_close_242 trivial hr
  · replace h := zi_f c1 h
    refine lv_aload_n F.1 F.2.1 dX19_close_133 rfl (lv_at hl 0 rfl) ?_
    refine gf19_114 F hx0 hr dX19_close_134 ?_
    refine lv_iload_n F.1 F.2.1 dX19_close_137 rfl (lv_at hl 1 rfl) ?_
    obtain ⟨c2, h⟩ := zk_some h
    refine zr_aaldv (k := 186) (by decide) rfl rfl (zlen_d (by decide)) F (zal_a F hx0 (j := 18) rfl) hr dX19_close_138 c2 (fun y3 ey3 => ?_)
    replace h := zl_sub ey3 h
    have hy3 := zal_q hr (zal_a F hx0 (j := 18) rfl) rfl ey3
    clear ey3
    obtain ⟨a4, rfl, h⟩ := zd_some h
    refine gf19_340 F (hy3 _ rfl) hr dX19_close_139 ?_
    refine lv_iload F.1 F.2.1 dX19_close_142 (lv_at hl 3 rfl) ?_
    obtain ⟨c5, h⟩ := zk_some h
    refine zr_aaldv (k := 158) (by decide) rfl rfl (zlen_d (by decide)) F (zal_a F (hy3 _ rfl) (j := 28) rfl) hr dX19_close_144 c5 (fun y6 ey6 => ?_)
    replace h := zl_sub ey6 h
    have hy6 := zal_q hr (zal_a F (hy3 _ rfl) (j := 28) rfl) rfl ey6
    clear ey6
    refine zr_astore (lv' := [(8, va_rf (Option.map (B 13) y6)), (0, .ref (B 19 x0)), (1, .int x1), (2, .int x2), (7, .int x7)]) F.1 F.2.1 dX19_close_145 hl (by decide) rfl (fun ls hl => ?_)
    refine zr_aload F.1 F.2.1 dX19_close_147 (lv_at hl 0 rfl) ?_
    obtain ⟨a7, rfl, h⟩ := zd_some h
    refine gf19_350 F (hy6 _ rfl) hr dX19_close_149 ?_
    refine lv_if_eq (tgt := 201) F.1 F.2.1 dX19_close_152 (by decide) (fun c8 => ?_) (fun c8 => ?_)
    · replace h := zi_t c8 h
      exact bX19_close_201 hst F hA E hK126 x0 x1 x2 x7 hx0 hr (lv_sub hl [1, 2, 3, 4] rfl) h
    · replace h := zi_f c8 h
      refine lv_aload F.1 F.2.1 dX19_close_155 (lv_at hl 0 rfl) ?_
      refine gf19_761 F (hy6 _ rfl) hr dX19_close_157 ?_
      refine lv_iload_n F.1 F.2.1 dX19_close_160 rfl (lv_at hl 3 rfl) ?_
      refine lv_icmp_ne (tgt := 201) F.1 F.2.1 dX19_close_161 (by decide) (fun c9 => ?_) (fun c9 => ?_)
      · replace h := zi_t c9 h
        exact bX19_close_201 hst F hA E hK126 x0 x1 x2 x7 hx0 hr (lv_sub hl [1, 2, 3, 4] rfl) h
      · replace h := zi_f (fun q => q c9) h
        refine lv_aload F.1 F.2.1 dX19_close_164 (lv_at hl 0 rfl) ?_
        refine gf19_767 F (hy6 _ rfl) hr dX19_close_166 ?_
        refine lv_if_ne (tgt := 195) F.1 F.2.1 dX19_close_169 (by decide) (fun c10 => ?_) (fun c10 => ?_)
        · replace h := zi_t c10 h
          exact bX19_close_195 hst F hA E hK126 x0 x1 x2 x7 a7 hx0 (hy6 _ rfl) hr (lv_sub hl [1, 2, 3, 4, 0] rfl) h
        · replace h := zi_f (fun q => q c10) h
          refine lv_aload F.1 F.2.1 dX19_close_172 (lv_at hl 0 rfl) ?_
          refine gf19_344 F (hy6 _ rfl) hr dX19_close_174 (fun y11 ey11 => ?_)
          replace h := zl_sub ey11 h
          have hy11 := zal_g hr (hy6 _ rfl) (j := 4) rfl ey11
          clear ey11
          obtain ⟨a12, rfl, h⟩ := zd_some h
          obtain ⟨r13, z14, hc15, h⟩ := zc_some h
          refine zr_calli (zrun_VN (As := []) (rest := []) zn_2651 zq_2653 zs_X14_isDead zq_2654 zq_21 hdX14_isDead (by decide) (T := TX14) (N := 47) rfl (okX14_isDead l D cy B ids hst N a12 (hy11 _ rfl) hr.2.2 hc15) F hr (hy11 _ rfl) hl.1 rfl (by decide) dX19_close_177 rfl rfl hroX19_close_X14_isDead ⟨Nat.zero_le _, Nat.zero_le _⟩) F hA hr (fun H locs hx16 hr => ?_)
          clear hc15
          refine lv_if_ne (tgt := 195) F.1 F.2.1 dX19_close_180 (by decide) (fun c17 => ?_) (fun c17 => ?_)
          · replace h := zi_t c17 h
            exact bX19_close_195 hst F hA E hK126 x0 x1 x2 x7 a7 hx0 (hy6 _ rfl) hr (lv_sub hl [1, 2, 3, 4, 0] rfl) h
          · replace h := zi_f (fun q => q c17) h
            refine lv_aload F.1 F.2.1 dX19_close_183 (lv_at hl 0 rfl) ?_
            refine gf19_344 F (hy6 _ rfl) hr dX19_close_185 (fun y18 ey18 => ?_)
            replace h := zl_sub ey18 h
            have hy18 := zal_g hr (hy6 _ rfl) (j := 4) rfl ey18
            clear ey18
            refine lv_aload_n F.1 F.2.1 dX19_close_188 rfl (lv_at hl 1 rfl) ?_
            refine gf19_143 F hx0 hr dX19_close_189 ?_
            obtain ⟨a19, rfl, h⟩ := zd_some h
            obtain ⟨r20, z21, hc22, h⟩ := zc_some h
            refine zr_callv (zrun_VN (As := [.int (zgI z14 19 24 x0)]) (rest := []) zn_3060 zq_3062 zs_X14_abort zq_3063 zq_21 hdX14_abort (by decide) (T := TX14) (N := 47) rfl (okX14_abort l D cy B ids hst N a19 (hy18 _ rfl) (zgI z14 19 24 x0)  hr.2.2 hc22) F hr (hy18 _ rfl) hl.1 rfl (by decide) dX19_close_192 rfl rfl hroX19_close_X14_abort ⟨Nat.zero_le _, Nat.zero_le _⟩) F hA hr (fun H locs hx23 hr => ?_)
            clear hc22
            exact bX19_close_195 hst F hA E hK126 x0 x1 x2 x7 a7 hx0 (hy6 _ rfl) hr (lv_sub hl [1, 2, 3, 4, 0] rfl) h
theorem lX19_close_126 (hst : zSt B ids) (F : zFx p m c cX19_close 9 s args RX19 D cy B ids A) (hA : ∀ q : Nat, s.heap.size ≤ q → A q) {r : Int32} {z' : St} (E : zEnd p l e rmX19_close s m args below meth c cX19_close D cy B ids A Q none z' .return_ True) {N : Nat}  : ∀ (n : Nat) (x0 : Nat) (x1 : Int32) (x2 : Int32) (x7 : Int32) (hx0 : (19, x0) ∈ ids) {z : St} {H : Heap} {locs : List Loc} {ls : Array Slot} (hr : zRep D cy B ids A s.heap z H locs) (hl : lv_has ls 9 [(0, .ref (B 19 x0)), (1, .int x1), (2, .int x2), (7, .int x7)]), fX19_close_126 N  n x0 x1 x2 x7 z = some (r, z') → W p l e rmX19_close s m args below meth c H locs 0 0 Q (F0 m 126 ls []) := by
  intro n
  induction n with
  | zero => intro x0 x1 x2 x7 hx0 z H locs ls hr hl h; cases h
  | succ n ih => intro x0 x1 x2 x7 hx0 z H locs ls hr hl h; exact bX19_close_126 hst F hA E ih x0 x1 x2 x7 hx0 hr hl h
def fX19_close_88 (N : Nat)  (x0 : Nat) (x1 : Int32) (x2 : Int32) (x3 : Option Nat) (x5 : Int32) (s0 : Nat) (s1 : Int32) (s2 : Int32) (z : St) : Option (Int32 × St) := zc (fX19_fails N s0 s1 s2 z) fun r1 z2 => if r1 = 0 then (zk x1 16 <| zl (zgQ z2 186 x0 x1.toNatClampNeg) fun y7 => zd y7 fun a8 => zk x2 6 <| zl (zgQ z2 158 a8 x2.toNatClampNeg) fun y10 => zc (fX19_stir N x0 z2) fun _ z12 => if x5 = 0 then (zd x3 fun a16 => zc (fX14_isDead N a16 z12) fun r17 z18 => if r17 = 0 then (zc (fX14_close N a16 (zgI z18 19 24 x0) z18) fun _ z23 => zc (fX14_persist N a16 (zgI z23 19 24 x0) z23) fun _ z27 => some (0, z27)) else (zd y10 fun a30 => zc (fX19_takeEnd N x0 a30 z18) fun _ z32 => some (0, z32))) else (zd y10 fun a35 => zl (zsI z12 13 0 a35 (0)) fun z36 => fX19_close_126 N N x0 x1 x2 (0) z36)) else (some (0, z2))
set_option maxHeartbeats 4000000 in
set_option maxRecDepth 100000 in
theorem bX19_close_88 (hst : zSt B ids) (F : zFx p m c cX19_close 9 s args RX19 D cy B ids A) (hA : ∀ q : Nat, s.heap.size ≤ q → A q) {r : Int32} {z' : St} (E : zEnd p l e rmX19_close s m args below meth c cX19_close D cy B ids A Q none z' .return_ True) {N : Nat}  (x0 : Nat) (x1 : Int32) (x2 : Int32) (x3 : Option Nat) (x5 : Int32) (s0 : Nat) (s1 : Int32) (s2 : Int32) (hx0 : (19, x0) ∈ ids) (hx3 : ∀ t, x3 = some t → (14, t) ∈ ids) (hs0 : (19, s0) ∈ ids) {z : St} {H : Heap} {locs : List Loc} {ls : Array Slot} (hr : zRep D cy B ids A s.heap z H locs) (hl : lv_has ls 9 [(0, .ref (B 19 x0)), (1, .int x1), (2, .int x2), (3, va_rf (Option.map (B 14) x3)), (5, .int x5)]) (h : fX19_close_88 N x0 x1 x2 x3 x5 s0 s1 s2 z = some (r, z')) : W p l e rmX19_close s m args below meth c H locs 0 0 Q (F0 m 88 ls [.int s2, .int s1, .ref (B 19 s0)]) := by
  unfold fX19_close_88 at h
  obtain ⟨r1, z2, hc3, h⟩ := zc_some h
  refine zr_calli (zrun_V (As := [.int s1, .int s2]) (rest := []) zq_2402 zq_2404 zs_X19_fails zq_2405 zq_4 hdX19_fails (by decide) (T := TX19) (N := 32) rfl (okX19_fails l D cy B ids hst N s0 hs0 s1  s2  hr.2.2 hc3) F hr hs0 hl.1 rfl (by decide) dX19_close_88 rfl rfl hroX19_close_X19_fails ⟨Nat.zero_le _, Nat.zero_le _⟩) F hA hr (fun H locs hx4 hr => ?_)
  clear hc3
  refine lv_if_eq (tgt := 95) F.1 F.2.1 dX19_close_91 (by decide) (fun c5 => ?_) (fun c5 => ?_)
  · replace h := zi_t c5 h
    refine lv_aload_n F.1 F.2.1 dX19_close_95 rfl (lv_at hl 0 rfl) ?_
    refine gf19_114 F hx0 hr dX19_close_96 ?_
    refine lv_iload_n F.1 F.2.1 dX19_close_99 rfl (lv_at hl 1 rfl) ?_
    obtain ⟨c6, h⟩ := zk_some h
    refine zr_aaldv (k := 186) (by decide) rfl rfl (zlen_d (by decide)) F (zal_a F hx0 (j := 18) rfl) hr dX19_close_100 c6 (fun y7 ey7 => ?_)
    replace h := zl_sub ey7 h
    have hy7 := zal_q hr (zal_a F hx0 (j := 18) rfl) rfl ey7
    clear ey7
    obtain ⟨a8, rfl, h⟩ := zd_some h
    refine gf19_340 F (hy7 _ rfl) hr dX19_close_101 ?_
    refine lv_iload_n F.1 F.2.1 dX19_close_104 rfl (lv_at hl 2 rfl) ?_
    obtain ⟨c9, h⟩ := zk_some h
    refine zr_aaldv (k := 158) (by decide) rfl rfl (zlen_d (by decide)) F (zal_a F (hy7 _ rfl) (j := 28) rfl) hr dX19_close_105 c9 (fun y10 ey10 => ?_)
    replace h := zl_sub ey10 h
    have hy10 := zal_q hr (zal_a F (hy7 _ rfl) (j := 28) rfl) rfl ey10
    clear ey10
    refine zr_astore (lv' := [(6, va_rf (Option.map (B 13) y10)), (0, .ref (B 19 x0)), (1, .int x1), (2, .int x2), (3, va_rf (Option.map (B 14) x3)), (5, .int x5)]) F.1 F.2.1 dX19_close_106 hl (by decide) rfl (fun ls hl => ?_)
    refine lv_aload_n F.1 F.2.1 dX19_close_108 rfl (lv_at hl 1 rfl) ?_
    obtain ⟨r11, z12, hc13, h⟩ := zc_some h
    refine zr_callv (zrun_V (As := []) (rest := []) zq_2394 zq_2396 zs_X19_stir zq_2397 zq_4 hdX19_stir (by decide) (T := TX19) (N := 32) rfl (okX19_stir l D cy B ids hst N x0 hx0 hr.2.2 hc13) F hr hx0 hl.1 rfl (by decide) dX19_close_109 rfl rfl hroX19_close_X19_stir ⟨Nat.zero_le _, Nat.zero_le _⟩) F hA hr (fun H locs hx14 hr => ?_)
    clear hc13
    refine lv_iload F.1 F.2.1 dX19_close_112 (lv_at hl 5 rfl) ?_
    refine lv_if_eq (tgt := 210) F.1 F.2.1 dX19_close_114 (by decide) (fun c15 => ?_) (fun c15 => ?_)
    · replace h := zi_t c15 h
      refine zr_aload_n F.1 F.2.1 dX19_close_210 rfl (lv_at hl 4 rfl) ?_
      obtain ⟨a16, rfl, h⟩ := zd_some h
      obtain ⟨r17, z18, hc19, h⟩ := zc_some h
      refine zr_calli (zrun_VN (As := []) (rest := []) zn_2651 zq_2653 zs_X14_isDead zq_2654 zq_21 hdX14_isDead (by decide) (T := TX14) (N := 47) rfl (okX14_isDead l D cy B ids hst N a16 (hx3 _ rfl) hr.2.2 hc19) F hr (hx3 _ rfl) hl.1 rfl (by decide) dX19_close_211 rfl rfl hroX19_close_X14_isDead ⟨Nat.zero_le _, Nat.zero_le _⟩) F hA hr (fun H locs hx20 hr => ?_)
      clear hc19
      refine lv_if_eq (tgt := 226) F.1 F.2.1 dX19_close_214 (by decide) (fun c21 => ?_) (fun c21 => ?_)
      · replace h := zi_t c21 h
        refine lv_aload_n F.1 F.2.1 dX19_close_226 rfl (lv_at hl 4 rfl) ?_
        refine lv_aload_n F.1 F.2.1 dX19_close_227 rfl (lv_at hl 1 rfl) ?_
        refine gf19_143 F hx0 hr dX19_close_228 ?_
        obtain ⟨r22, z23, hc24, h⟩ := zc_some h
        refine zr_callv (zrun_VN (As := [.int (zgI z18 19 24 x0)]) (rest := []) zn_3065 zq_3067 zs_X14_close zq_3068 zq_21 hdX14_close (by decide) (T := TX14) (N := 47) rfl (okX14_close l D cy B ids hst N a16 (hx3 _ rfl) (zgI z18 19 24 x0)  hr.2.2 hc24) F hr (hx3 _ rfl) hl.1 rfl (by decide) dX19_close_231 rfl rfl hroX19_close_X14_close ⟨Nat.zero_le _, Nat.zero_le _⟩) F hA hr (fun H locs hx25 hr => ?_)
        clear hc24
        refine lv_aload_n F.1 F.2.1 dX19_close_234 rfl (lv_at hl 4 rfl) ?_
        refine lv_aload_n F.1 F.2.1 dX19_close_235 rfl (lv_at hl 1 rfl) ?_
        refine gf19_143 F hx0 hr dX19_close_236 ?_
        obtain ⟨r26, z27, hc28, h⟩ := zc_some h
        refine zr_callv (zrun_VN (As := [.int (zgI z23 19 24 x0)]) (rest := []) zn_2973 zq_2975 zs_X14_persist zq_2976 zq_21 hdX14_persist (by decide) (T := TX14) (N := 47) rfl (okX14_persist l D cy B ids hst N a16 (hx3 _ rfl) (zgI z23 19 24 x0)  hr.2.2 hc28) F hr (hx3 _ rfl) hl.1 rfl (by decide) dX19_close_239 rfl rfl hroX19_close_X14_persist ⟨Nat.zero_le _, Nat.zero_le _⟩) F hA hr (fun H locs hx29 hr => ?_)
        clear hc28
        obtain ⟨rfl, rfl⟩ := zret h
        exact E _ _ _ _ dX19_close_242 trivial hr
      · replace h := zi_f c21 h
        refine lv_aload_n F.1 F.2.1 dX19_close_217 rfl (lv_at hl 1 rfl) ?_
        refine zr_aload F.1 F.2.1 dX19_close_218 (lv_at hl 0 rfl) ?_
        obtain ⟨a30, rfl, h⟩ := zd_some h
        obtain ⟨r31, z32, hc33, h⟩ := zc_some h
        refine zr_callv (zrun_V (As := [.ref (B 13 a30)]) (rest := []) zq_2990 zq_2992 zs_X19_takeEnd zq_2993 zq_4 hdX19_takeEnd (by decide) (T := TX19) (N := 32) rfl (okX19_takeEnd l D cy B ids hst N x0 hx0 a30 (hy10 _ rfl) hr.2.2 hc33) F hr hx0 hl.1 rfl (by decide) dX19_close_220 rfl rfl hroX19_close_X19_takeEnd ⟨Nat.zero_le _, Nat.zero_le _⟩) F hA hr (fun H locs hx34 hr => ?_)
        clear hc33
        refine lv_goto (tgt := 242) F.1 F.2.1 dX19_close_223 (by decide) ?_
        obtain ⟨rfl, rfl⟩ := zret h
        exact E _ _ _ _ dX19_close_242 trivial hr
    · replace h := zi_f c15 h
      refine zr_aload F.1 F.2.1 dX19_close_117 (lv_at hl 0 rfl) ?_
      refine lv_iconst (v := (0)) F.1 F.2.1 dX19_close_119 (by decide) ?_
      obtain ⟨a35, rfl, h⟩ := zd_some h
      refine pf19_747 F (hy10 _ rfl) hr dX19_close_120 (0) (by decide) (fun H locs z36 ez36 hr => ?_)
      replace h := zl_sub ez36 h
      clear ez36
      refine lv_iconst (v := (0)) F.1 F.2.1 dX19_close_123 (by decide) ?_
      refine lv_istore (lv' := [(7, .int (0)), (6, .ref (B 13 a35)), (0, .ref (B 19 x0)), (1, .int x1), (2, .int x2), (3, va_rf (Option.map (B 14) x3)), (5, .int x5)]) F.1 F.2.1 dX19_close_124 hl (by decide) rfl (fun ls hl => ?_)
      exact lX19_close_126 hst F hA E  _ x0 x1 x2 (0) hx0 hr (lv_sub hl [2, 3, 4, 0] rfl) h
  · replace h := zi_f c5 h
    obtain ⟨rfl, rfl⟩ := zret h
    exact E _ _ _ _ dX19_close_94 trivial hr
def fX19_close_83 (N : Nat)  (x0 : Nat) (x1 : Int32) (x2 : Int32) (x3 : Option Nat) (x5 : Int32) (s0 : Nat) (s1 : Int32) (z : St) : Option (Int32 × St) := fX19_close_88 N x0 x1 x2 x3 x5 s0 s1 (1) z
set_option maxHeartbeats 4000000 in
set_option maxRecDepth 100000 in
theorem bX19_close_83 (hst : zSt B ids) (F : zFx p m c cX19_close 9 s args RX19 D cy B ids A) (hA : ∀ q : Nat, s.heap.size ≤ q → A q) {r : Int32} {z' : St} (E : zEnd p l e rmX19_close s m args below meth c cX19_close D cy B ids A Q none z' .return_ True) {N : Nat}  (x0 : Nat) (x1 : Int32) (x2 : Int32) (x3 : Option Nat) (x5 : Int32) (s0 : Nat) (s1 : Int32) (hx0 : (19, x0) ∈ ids) (hx3 : ∀ t, x3 = some t → (14, t) ∈ ids) (hs0 : (19, s0) ∈ ids) {z : St} {H : Heap} {locs : List Loc} {ls : Array Slot} (hr : zRep D cy B ids A s.heap z H locs) (hl : lv_has ls 9 [(0, .ref (B 19 x0)), (1, .int x1), (2, .int x2), (3, va_rf (Option.map (B 14) x3)), (5, .int x5)]) (h : fX19_close_83 N x0 x1 x2 x3 x5 s0 s1 z = some (r, z')) : W p l e rmX19_close s m args below meth c H locs 0 0 Q (F0 m 83 ls [.int s1, .ref (B 19 s0)]) := by
  unfold fX19_close_83 at h
  refine lv_iconst (v := (1)) F.1 F.2.1 dX19_close_83 (by decide) ?_
  refine lv_goto (tgt := 88) F.1 F.2.1 dX19_close_84 (by decide) ?_
  exact bX19_close_88 hst F hA E  x0 x1 x2 x3 x5 s0 s1 (1) hx0 hx3 hs0 hr (lv_sub hl [0, 1, 2, 3, 4] rfl) h
def fX19_close_87 (N : Nat)  (x0 : Nat) (x1 : Int32) (x2 : Int32) (x3 : Option Nat) (x5 : Int32) (s0 : Nat) (s1 : Int32) (z : St) : Option (Int32 × St) := fX19_close_88 N x0 x1 x2 x3 x5 s0 s1 (0) z
set_option maxHeartbeats 4000000 in
set_option maxRecDepth 100000 in
theorem bX19_close_87 (hst : zSt B ids) (F : zFx p m c cX19_close 9 s args RX19 D cy B ids A) (hA : ∀ q : Nat, s.heap.size ≤ q → A q) {r : Int32} {z' : St} (E : zEnd p l e rmX19_close s m args below meth c cX19_close D cy B ids A Q none z' .return_ True) {N : Nat}  (x0 : Nat) (x1 : Int32) (x2 : Int32) (x3 : Option Nat) (x5 : Int32) (s0 : Nat) (s1 : Int32) (hx0 : (19, x0) ∈ ids) (hx3 : ∀ t, x3 = some t → (14, t) ∈ ids) (hs0 : (19, s0) ∈ ids) {z : St} {H : Heap} {locs : List Loc} {ls : Array Slot} (hr : zRep D cy B ids A s.heap z H locs) (hl : lv_has ls 9 [(0, .ref (B 19 x0)), (1, .int x1), (2, .int x2), (3, va_rf (Option.map (B 14) x3)), (5, .int x5)]) (h : fX19_close_87 N x0 x1 x2 x3 x5 s0 s1 z = some (r, z')) : W p l e rmX19_close s m args below meth c H locs 0 0 Q (F0 m 87 ls [.int s1, .ref (B 19 s0)]) := by
  unfold fX19_close_87 at h
  refine lv_iconst (v := (0)) F.1 F.2.1 dX19_close_87 (by decide) ?_
  exact bX19_close_88 hst F hA E  x0 x1 x2 x3 x5 s0 s1 (0) hx0 hx3 hs0 hr (lv_sub hl [0, 1, 2, 3, 4] rfl) h
def fX19_close_55 (N : Nat)  (x0 : Nat) (x1 : Int32) (x2 : Int32) (x3 : Option Nat) (x4 : Int32) (x5 : Int32) (s0 : Nat) (s1 : Int32) (z : St) : Option (Int32 × St) := if x4 = 0 then (fX19_close_87 N x0 x1 x2 x3 x5 s0 s1 z) else (if ¬ x5 = 0 then (fX19_close_87 N x0 x1 x2 x3 x5 s0 s1 z) else (zo x3 (fX19_close_83 N x0 x1 x2 none x5 s0 s1 z) fun a4 => if (zgI z 14 9 a4) = 0 then (fX19_close_87 N x0 x1 x2 (some a4) x5 s0 s1 z) else (zc (fX14_isDead N a4 z) fun r6 z7 => if ¬ r6 = 0 then (fX19_close_87 N x0 x1 x2 (some a4) x5 s0 s1 z7) else (fX19_close_83 N x0 x1 x2 (some a4) x5 s0 s1 z7))))
set_option maxHeartbeats 4000000 in
set_option maxRecDepth 100000 in
theorem bX19_close_55 (hst : zSt B ids) (F : zFx p m c cX19_close 9 s args RX19 D cy B ids A) (hA : ∀ q : Nat, s.heap.size ≤ q → A q) {r : Int32} {z' : St} (E : zEnd p l e rmX19_close s m args below meth c cX19_close D cy B ids A Q none z' .return_ True) {N : Nat}  (x0 : Nat) (x1 : Int32) (x2 : Int32) (x3 : Option Nat) (x4 : Int32) (x5 : Int32) (s0 : Nat) (s1 : Int32) (hx0 : (19, x0) ∈ ids) (hx3 : ∀ t, x3 = some t → (14, t) ∈ ids) (hs0 : (19, s0) ∈ ids) {z : St} {H : Heap} {locs : List Loc} {ls : Array Slot} (hr : zRep D cy B ids A s.heap z H locs) (hl : lv_has ls 9 [(0, .ref (B 19 x0)), (1, .int x1), (2, .int x2), (3, va_rf (Option.map (B 14) x3)), (4, .int x4), (5, .int x5)]) (h : fX19_close_55 N x0 x1 x2 x3 x4 x5 s0 s1 z = some (r, z')) : W p l e rmX19_close s m args below meth c H locs 0 0 Q (F0 m 55 ls [.int s1, .ref (B 19 s0)]) := by
  unfold fX19_close_55 at h
  refine lv_iload F.1 F.2.1 dX19_close_55 (lv_at hl 4 rfl) ?_
  refine lv_if_eq (tgt := 87) F.1 F.2.1 dX19_close_57 (by decide) (fun c1 => ?_) (fun c1 => ?_)
  · replace h := zi_t c1 h
    exact bX19_close_87 hst F hA E  x0 x1 x2 x3 x5 s0 s1 hx0 hx3 hs0 hr (lv_sub hl [0, 1, 2, 3, 5] rfl) h
  · replace h := zi_f c1 h
    refine lv_iload F.1 F.2.1 dX19_close_60 (lv_at hl 5 rfl) ?_
    refine lv_if_ne (tgt := 87) F.1 F.2.1 dX19_close_62 (by decide) (fun c2 => ?_) (fun c2 => ?_)
    · replace h := zi_t c2 h
      exact bX19_close_87 hst F hA E  x0 x1 x2 x3 x5 s0 s1 hx0 hx3 hs0 hr (lv_sub hl [0, 1, 2, 3, 5] rfl) h
    · replace h := zi_f (fun q => q c2) h
      refine zr_aload_n F.1 F.2.1 dX19_close_65 rfl (lv_at hl 3 rfl) ?_
      refine zr_ifnull (tgt := 83) F.1 F.2.1 dX19_close_66 (by decide) (fun e3 => ?_) (fun a4 e3 => ?_)
      · replace h := zo_n e3 h
        subst e3
        exact bX19_close_83 hst F hA E  x0 x1 x2 none x5 s0 s1 hx0 zal_0 hs0 hr (lv_sub hl [0, 1, 2, 3, 5] rfl) h
      · replace h := zo_s e3 h
        subst e3
        refine lv_aload_n F.1 F.2.1 dX19_close_69 rfl (lv_at hl 3 rfl) ?_
        refine gf19_634 F (hx3 _ rfl) hr dX19_close_70 ?_
        refine lv_if_eq (tgt := 87) F.1 F.2.1 dX19_close_73 (by decide) (fun c5 => ?_) (fun c5 => ?_)
        · replace h := zi_t c5 h
          exact bX19_close_87 hst F hA E  x0 x1 x2 (some a4) x5 s0 s1 hx0 (zal_s (hx3 _ rfl)) hs0 hr (lv_sub hl [0, 1, 2, 3, 5] rfl) h
        · replace h := zi_f c5 h
          refine lv_aload_n F.1 F.2.1 dX19_close_76 rfl (lv_at hl 3 rfl) ?_
          obtain ⟨r6, z7, hc8, h⟩ := zc_some h
          refine zr_calli (zrun_VN (As := []) (rest := [.int s1, .ref (B 19 s0)]) zn_2651 zq_2653 zs_X14_isDead zq_2654 zq_21 hdX14_isDead (by decide) (T := TX14) (N := 47) rfl (okX14_isDead l D cy B ids hst N a4 (hx3 _ rfl) hr.2.2 hc8) F hr (hx3 _ rfl) hl.1 rfl (Nat.le_of_ble_eq_true rfl) dX19_close_77 rfl rfl hroX19_close_X14_isDead ⟨Nat.zero_le _, Nat.zero_le _⟩) F hA hr (fun H locs hx9 hr => ?_)
          clear hc8
          refine lv_if_ne (tgt := 87) F.1 F.2.1 dX19_close_80 (by decide) (fun c10 => ?_) (fun c10 => ?_)
          · replace h := zi_t c10 h
            exact bX19_close_87 hst F hA E  x0 x1 x2 (some a4) x5 s0 s1 hx0 (zal_s (hx3 _ rfl)) hs0 hr (lv_sub hl [0, 1, 2, 3, 5] rfl) h
          · replace h := zi_f (fun q => q c10) h
            exact bX19_close_83 hst F hA E  x0 x1 x2 (some a4) x5 s0 s1 hx0 (zal_s (hx3 _ rfl)) hs0 hr (lv_sub hl [0, 1, 2, 3, 5] rfl) h
def fX19_close_42 (N : Nat)  (x0 : Nat) (x1 : Int32) (x2 : Int32) (x3 : Option Nat) (x4 : Int32) (s0 : Int32) (z : St) : Option (Int32 × St) := if ¬ x4 = 0 then (fX19_close_55 N x0 x1 x2 x3 x4 s0 x0 (0) z) else (fX19_close_55 N x0 x1 x2 x3 x4 s0 x0 (1) z)
set_option maxHeartbeats 4000000 in
set_option maxRecDepth 100000 in
theorem bX19_close_42 (hst : zSt B ids) (F : zFx p m c cX19_close 9 s args RX19 D cy B ids A) (hA : ∀ q : Nat, s.heap.size ≤ q → A q) {r : Int32} {z' : St} (E : zEnd p l e rmX19_close s m args below meth c cX19_close D cy B ids A Q none z' .return_ True) {N : Nat}  (x0 : Nat) (x1 : Int32) (x2 : Int32) (x3 : Option Nat) (x4 : Int32) (s0 : Int32) (hx0 : (19, x0) ∈ ids) (hx3 : ∀ t, x3 = some t → (14, t) ∈ ids) {z : St} {H : Heap} {locs : List Loc} {ls : Array Slot} (hr : zRep D cy B ids A s.heap z H locs) (hl : lv_has ls 9 [(0, .ref (B 19 x0)), (1, .int x1), (2, .int x2), (3, va_rf (Option.map (B 14) x3)), (4, .int x4)]) (h : fX19_close_42 N x0 x1 x2 x3 x4 s0 z = some (r, z')) : W p l e rmX19_close s m args below meth c H locs 0 0 Q (F0 m 42 ls [.int s0]) := by
  unfold fX19_close_42 at h
  refine lv_istore (lv' := [(5, .int s0), (0, .ref (B 19 x0)), (1, .int x1), (2, .int x2), (3, va_rf (Option.map (B 14) x3)), (4, .int x4)]) F.1 F.2.1 dX19_close_42 hl (by decide) rfl (fun ls hl => ?_)
  refine lv_aload_n F.1 F.2.1 dX19_close_44 rfl (lv_at hl 1 rfl) ?_
  refine lv_iload F.1 F.2.1 dX19_close_45 (lv_at hl 5 rfl) ?_
  refine lv_if_ne (tgt := 54) F.1 F.2.1 dX19_close_47 (by decide) (fun c1 => ?_) (fun c1 => ?_)
  · replace h := zi_t c1 h
    refine lv_iconst (v := (0)) F.1 F.2.1 dX19_close_54 (by decide) ?_
    exact bX19_close_55 hst F hA E  x0 x1 x2 x3 x4 s0 x0 (0) hx0 hx3 hx0 hr (lv_sub hl [1, 2, 3, 4, 5, 0] rfl) h
  · replace h := zi_f (fun q => q c1) h
    refine lv_iconst (v := (1)) F.1 F.2.1 dX19_close_50 (by decide) ?_
    refine lv_goto (tgt := 55) F.1 F.2.1 dX19_close_51 (by decide) ?_
    exact bX19_close_55 hst F hA E  x0 x1 x2 x3 x4 s0 x0 (1) hx0 hx3 hx0 hr (lv_sub hl [1, 2, 3, 4, 5, 0] rfl) h
def fX19_close_41 (N : Nat)  (x0 : Nat) (x1 : Int32) (x2 : Int32) (x3 : Option Nat) (x4 : Int32) (z : St) : Option (Int32 × St) := fX19_close_42 N x0 x1 x2 x3 x4 (0) z
set_option maxHeartbeats 4000000 in
set_option maxRecDepth 100000 in
theorem bX19_close_41 (hst : zSt B ids) (F : zFx p m c cX19_close 9 s args RX19 D cy B ids A) (hA : ∀ q : Nat, s.heap.size ≤ q → A q) {r : Int32} {z' : St} (E : zEnd p l e rmX19_close s m args below meth c cX19_close D cy B ids A Q none z' .return_ True) {N : Nat}  (x0 : Nat) (x1 : Int32) (x2 : Int32) (x3 : Option Nat) (x4 : Int32) (hx0 : (19, x0) ∈ ids) (hx3 : ∀ t, x3 = some t → (14, t) ∈ ids) {z : St} {H : Heap} {locs : List Loc} {ls : Array Slot} (hr : zRep D cy B ids A s.heap z H locs) (hl : lv_has ls 9 [(0, .ref (B 19 x0)), (1, .int x1), (2, .int x2), (3, va_rf (Option.map (B 14) x3)), (4, .int x4)]) (h : fX19_close_41 N x0 x1 x2 x3 x4 z = some (r, z')) : W p l e rmX19_close s m args below meth c H locs 0 0 Q (F0 m 41 ls []) := by
  unfold fX19_close_41 at h
  refine lv_iconst (v := (0)) F.1 F.2.1 dX19_close_41 (by decide) ?_
  exact bX19_close_42 hst F hA E  x0 x1 x2 x3 x4 (0) hx0 hx3 hr (lv_sub hl [0, 1, 2, 3, 4] rfl) h
def fX19_close (N : Nat)  (x0 : Nat) (x1 : Int32) (x2 : Int32) (z : St) : Option (Int32 × St) := zc (fX19_endAt N x0 x1 x2 z) fun r1 z2 => zc (fX19_isDoor N x0 x1 x2 z2) fun r5 z6 => if r5 = 0 then (fX19_close_41 N x0 x1 x2 r1 r5 z6) else (zk x1 16 <| zl (zgQ z6 186 x0 x1.toNatClampNeg) fun y11 => zd y11 fun a12 => zk x2 6 <| zl (zgQ z6 158 a12 x2.toNatClampNeg) fun y14 => zd y14 fun a15 => if (zgI z6 13 0 a15) = 0 then (fX19_close_41 N x0 x1 x2 r1 r5 z6) else (fX19_close_42 N x0 x1 x2 r1 r5 (1) z6))
set_option maxHeartbeats 4000000 in
set_option maxRecDepth 100000 in
theorem bX19_close_0 (hst : zSt B ids) (F : zFx p m c cX19_close 9 s args RX19 D cy B ids A) (hA : ∀ q : Nat, s.heap.size ≤ q → A q) {r : Int32} {z' : St} (E : zEnd p l e rmX19_close s m args below meth c cX19_close D cy B ids A Q none z' .return_ True) {N : Nat}  (x0 : Nat) (x1 : Int32) (x2 : Int32) (hx0 : (19, x0) ∈ ids) {z : St} {H : Heap} {locs : List Loc} {ls : Array Slot} (hr : zRep D cy B ids A s.heap z H locs) (hl : lv_has ls 9 [(0, .ref (B 19 x0)), (1, .int x1), (2, .int x2)]) (h : fX19_close N x0 x1 x2 z = some (r, z')) : W p l e rmX19_close s m args below meth c H locs 0 0 Q (F0 m 0 ls []) := by
  unfold fX19_close at h
  refine lv_aload_n F.1 F.2.1 dX19_close_0 rfl (lv_at hl 0 rfl) ?_
  refine lv_iload_n F.1 F.2.1 dX19_close_1 rfl (lv_at hl 1 rfl) ?_
  refine lv_iload_n F.1 F.2.1 dX19_close_2 rfl (lv_at hl 2 rfl) ?_
  obtain ⟨r1, z2, hc3, h⟩ := zc_some h
  refine zr_callr (zrun_V (As := [.int x1, .int x2]) (rest := []) zq_3020 zq_3022 zs_X19_endAt zq_3023 zq_4 hdX19_endAt (by decide) (T := TX19) (N := 32) rfl (okX19_endAt l D cy B ids hst N x0 hx0 x1  x2  hr.2.2 hc3) F hr hx0 hl.1 rfl (by decide) dX19_close_3 rfl rfl hroX19_close_X19_endAt ⟨Nat.zero_le _, Nat.zero_le _⟩) F hA hr (fun H locs hx4 hr => ?_)
  clear hc3
  refine zr_astore_n (lv' := [(3, va_rf (Option.map (B 14) r1)), (0, .ref (B 19 x0)), (1, .int x1), (2, .int x2)]) F.1 F.2.1 dX19_close_6 rfl hl (by decide) rfl (fun ls hl => ?_)
  refine lv_aload_n F.1 F.2.1 dX19_close_7 rfl (lv_at hl 1 rfl) ?_
  refine lv_iload_n F.1 F.2.1 dX19_close_8 rfl (lv_at hl 2 rfl) ?_
  refine lv_iload_n F.1 F.2.1 dX19_close_9 rfl (lv_at hl 3 rfl) ?_
  obtain ⟨r5, z6, hc7, h⟩ := zc_some h
  refine zr_calli (zrun_V (As := [.int x1, .int x2]) (rest := []) zq_3012 zq_3014 zs_X19_isDoor zq_3015 zq_4 hdX19_isDoor (by decide) (T := TX19) (N := 32) rfl (okX19_isDoor l D cy B ids hst N x0 hx0 x1  x2  hr.2.2 hc7) F hr hx0 hl.1 rfl (by decide) dX19_close_10 rfl rfl hroX19_close_X19_isDoor ⟨Nat.zero_le _, Nat.zero_le _⟩) F hA hr (fun H locs hx8 hr => ?_)
  clear hc7
  refine lv_istore (lv' := [(4, .int r5), (3, va_rf (Option.map (B 14) r1)), (0, .ref (B 19 x0)), (1, .int x1), (2, .int x2)]) F.1 F.2.1 dX19_close_13 hl (by decide) (by simp only [List.filter, zrf_cat]; rfl) (fun ls hl => ?_)
  refine lv_iload F.1 F.2.1 dX19_close_15 (lv_at hl 0 rfl) ?_
  refine lv_if_eq (tgt := 41) F.1 F.2.1 dX19_close_17 (by decide) (fun c9 => ?_) (fun c9 => ?_)
  · replace h := zi_t c9 h
    exact bX19_close_41 hst F hA E  x0 x1 x2 r1 r5 hx0 hx4 hr (lv_sub hl [2, 3, 4, 1, 0] rfl) h
  · replace h := zi_f c9 h
    refine lv_aload_n F.1 F.2.1 dX19_close_20 rfl (lv_at hl 2 rfl) ?_
    refine gf19_114 F hx0 hr dX19_close_21 ?_
    refine lv_iload_n F.1 F.2.1 dX19_close_24 rfl (lv_at hl 3 rfl) ?_
    obtain ⟨c10, h⟩ := zk_some h
    refine zr_aaldv (k := 186) (by decide) rfl rfl (zlen_d (by decide)) F (zal_a F hx0 (j := 18) rfl) hr dX19_close_25 c10 (fun y11 ey11 => ?_)
    replace h := zl_sub ey11 h
    have hy11 := zal_q hr (zal_a F hx0 (j := 18) rfl) rfl ey11
    clear ey11
    obtain ⟨a12, rfl, h⟩ := zd_some h
    refine gf19_340 F (hy11 _ rfl) hr dX19_close_26 ?_
    refine lv_iload_n F.1 F.2.1 dX19_close_29 rfl (lv_at hl 4 rfl) ?_
    obtain ⟨c13, h⟩ := zk_some h
    refine zr_aaldv (k := 158) (by decide) rfl rfl (zlen_d (by decide)) F (zal_a F (hy11 _ rfl) (j := 28) rfl) hr dX19_close_30 c13 (fun y14 ey14 => ?_)
    replace h := zl_sub ey14 h
    have hy14 := zal_q hr (zal_a F (hy11 _ rfl) (j := 28) rfl) rfl ey14
    clear ey14
    obtain ⟨a15, rfl, h⟩ := zd_some h
    refine gf19_747 F (hy14 _ rfl) hr dX19_close_31 ?_
    refine lv_if_eq (tgt := 41) F.1 F.2.1 dX19_close_34 (by decide) (fun c16 => ?_) (fun c16 => ?_)
    · replace h := zi_t c16 h
      exact bX19_close_41 hst F hA E  x0 x1 x2 r1 r5 hx0 hx4 hr (lv_sub hl [2, 3, 4, 1, 0] rfl) h
    · replace h := zi_f c16 h
      refine lv_iconst (v := (1)) F.1 F.2.1 dX19_close_37 (by decide) ?_
      refine lv_goto (tgt := 42) F.1 F.2.1 dX19_close_38 (by decide) ?_
      exact bX19_close_42 hst F hA E  x0 x1 x2 r1 r5 (1) hx0 hx4 hr (lv_sub hl [2, 3, 4, 1, 0] rfl) h
end SX19_close
set_option maxRecDepth 100000 in
theorem okX19_close (l : Launch) (D : va_G) (cy : Nat → ClassId) (B : Nat → Nat → Nat) (ids : List (Nat × Nat)) (hst : zSt B ids) (N : Nat) (x0 : Nat) (hx0 : (19, x0) ∈ ids) (x1 : Int32) (x2 : Int32) {z : St} {r : Int32} {z' : St} (hW : zWf ids z) (h : fX19_close N x0 x1 x2 z = some (r, z')) : zM l yX19_close (zws yX19_close cX19_close 9 none) rmX19_close D cy B ids [.ref (B 19 x0), .int x1, .int x2] none True z z' :=
  zM_of hst hW (by decide +kernel) (Nat.le_of_ble_eq_true rfl) (fun p e s m args below meth c A ls F hA hret hlocks hr hl => bX19_close_0 hst F hA (zEnd_v F hret hlocks) x0 x1 x2 hx0 hr hl h)
