abbrev rmX19_fates : Room := { frames := 1, cells := 0, slots := 0, locals := 22 }
theorem hdX19_fates : yX19_fates.cls ≠ "java/lang/invoke/MethodHandle" ∧ yX19_fates.cls ≠ "java/lang/invoke/VarHandle" ∧ (parseMethodDescriptor yX19_fates.desc).map (fun d => d.parameters.length) = some 3 := by decide +kernel
theorem hroX19_fates_X19_fails : rmX19_fails.frames + 1 ≤ rmX19_fates.frames ∧ 8 + (3 + 11) + rmX19_fails.locals ≤ rmX19_fates.locals := by decide
theorem hroX19_fates_X19_isNet : rmX19_isNet.frames + 1 ≤ rmX19_fates.frames ∧ 8 + (2 + 11) + rmX19_isNet.locals ≤ rmX19_fates.locals := by decide
section SX19_fates
variable {p : Program} {l : Launch} {e : Env} {s : State} {m : MethodId} {args : Array Value} {below : List Frame} {meth : Method} {c : Code} {Q : State → Prop} {D : va_G} {cy : Nat → ClassId} {B : Nat → Nat → Nat} {ids : List (Nat × Nat)} {A : Nat → Prop}
def fX19_fates_76b (N : Nat) (K76 : Int64 → Int32 → Option Nat → Int32 → St → Option (Int32 × St)) (x2 : Int64) (x4 : Int32) (x5 : Option Nat) (x6 : Int32) (z : St) : Option (Int32 × St) := if x4 ≤ x6 then (zd x5 fun a2 => some ((zgI z 16 7 a2), z)) else (zd x5 fun a3 => zk (zgI z 16 7 a3) 64 <| zl (zsA z 165 a3 (Int32.toNatClampNeg (zgI z 16 7 a3)) (Int64.toInt32 ((x2 >>> ((((2 : Int32) * x6)).toInt64 &&& 63)) &&& (3 : Int64)))) fun z5 => zl (zsI z5 16 7 a3 ((zgI z5 16 7 a3) + (1 : Int32))) fun z6 => zl (x6 + 1) fun v7 => K76 x2 x4 (some a3) v7 z6)
def fX19_fates_76 (N : Nat)  : Nat → Int64 → Int32 → Option Nat → Int32 → St → Option (Int32 × St)
  | 0 => fun _ _ _ _ _ => none
  | n + 1 => fX19_fates_76b N (fX19_fates_76 N  n)
set_option maxHeartbeats 4000000 in
set_option maxRecDepth 100000 in
theorem bX19_fates_76 (hst : zSt B ids) (F : zFx p m c cX19_fates 7 s args RX19 D cy B ids A) (hA : ∀ q : Nat, s.heap.size ≤ q → A q) {r : Int32} {z' : St} (E : zEnd p l e rmX19_fates s m args below meth c cX19_fates D cy B ids A Q (some (.int r)) z' .ireturn True) {N : Nat} {K76 : Int64 → Int32 → Option Nat → Int32 → St → Option (Int32 × St)} (hK76 : ∀ (x2 : Int64) (x4 : Int32) (x5 : Option Nat) (x6 : Int32) (hx5 : ∀ t, x5 = some t → (16, t) ∈ ids) {z : St} {H : Heap} {locs : List Loc} {ls : Array Slot} (hr : zRep D cy B ids A s.heap z H locs) (hl : lv_has ls 7 [(2, .long x2), (4, .int x4), (5, va_rf (Option.map (B 16) x5)), (6, .int x6)]), K76 x2 x4 x5 x6 z = some (r, z') → W p l e rmX19_fates s m args below meth c H locs 0 0 Q (F0 m 76 ls [])) (x2 : Int64) (x4 : Int32) (x5 : Option Nat) (x6 : Int32) (hx5 : ∀ t, x5 = some t → (16, t) ∈ ids) {z : St} {H : Heap} {locs : List Loc} {ls : Array Slot} (hr : zRep D cy B ids A s.heap z H locs) (hl : lv_has ls 7 [(2, .long x2), (4, .int x4), (5, va_rf (Option.map (B 16) x5)), (6, .int x6)]) (h : fX19_fates_76b N K76 x2 x4 x5 x6 z = some (r, z')) : W p l e rmX19_fates s m args below meth c H locs 0 0 Q (F0 m 76 ls []) := by
  unfold fX19_fates_76b at h
  refine lv_iload F.1 F.2.1 dX19_fates_76 (lv_at hl 3 rfl) ?_
  refine lv_iload F.1 F.2.1 dX19_fates_78 (lv_at hl 1 rfl) ?_
  refine lv_icmp_ge (tgt := 122) F.1 F.2.1 dX19_fates_80 (by decide) (fun c1 => ?_) (fun c1 => ?_)
  · replace h := zi_t c1 h
    refine zr_aload F.1 F.2.1 dX19_fates_122 (lv_at hl 2 rfl) ?_
    replace h := zd_some h
    obtain ⟨a2, rfl, h⟩ := h
    refine gf19_162 F (hx5 _ rfl) hr dX19_fates_124 ?_
    obtain ⟨rfl, rfl⟩ := zret h
    exact E _ _ _ _ dX19_fates_127 trivial hr
  · replace h := zi_f c1 h
    refine zr_aload F.1 F.2.1 dX19_fates_83 (lv_at hl 2 rfl) ?_
    replace h := zd_some h
    obtain ⟨a3, rfl, h⟩ := h
    refine gf19_165 F (hx5 _ rfl) hr dX19_fates_85 ?_
    refine lv_aload F.1 F.2.1 dX19_fates_88 (lv_at hl 2 rfl) ?_
    refine gf19_162 F (hx5 _ rfl) hr dX19_fates_90 ?_
    refine lv_lload_n F.1 F.2.1 dX19_fates_93 rfl (lv_at hl 0 rfl) ?_
    refine lv_iconst (v := (2 : Int32)) F.1 F.2.1 dX19_fates_94 (by decide) ?_
    refine lv_iload F.1 F.2.1 dX19_fates_95 (lv_at hl 3 rfl) ?_
    refine lv_imul F.1 F.2.1 dX19_fates_97 ?_
    refine lv_lshr F.1 F.2.1 dX19_fates_98 rfl ?_
    refine lv_ldc2 (v := (3)) F.1 F.2.1 F.2.2.2.1 (F.2.2.2.2.1 _ zq_2573) dX19_fates_99 ?_
    refine lv_land F.1 F.2.1 dX19_fates_102 ?_
    refine lv_l2i F.1 F.2.1 dX19_fates_103 rfl ?_
    replace h := zk_some h
    obtain ⟨c4, h⟩ := h
    refine zr_iast (k := 165) (by decide) rfl (by decide) F (zal_a F (hx5 _ rfl) (j := 6) rfl) hr dX19_fates_104 c4 (fun H locs z5 ez5 hr => ?_)
    replace h := zl_sub ez5 h
    clear ez5
    refine lv_aload F.1 F.2.1 dX19_fates_105 (lv_at hl 2 rfl) ?_
    refine lv_dup F.1 F.2.1 dX19_fates_107 rfl ?_
    refine gf19_162 F (hx5 _ rfl) hr dX19_fates_108 ?_
    refine lv_iconst (v := (1 : Int32)) F.1 F.2.1 dX19_fates_111 (by decide) ?_
    refine lv_iadd F.1 F.2.1 dX19_fates_112 ?_
    refine pf19_162 F (hx5 _ rfl) hr dX19_fates_113 ((zgI z5 16 7 a3) + (1 : Int32)) (fun H locs z6 ez6 hr => ?_)
    replace h := zl_sub ez6 h
    clear ez6
    obtain ⟨v7, ev7⟩ : ∃ y : Int32, y = (x6 + 1) := ⟨_, rfl⟩
    replace h := zl_sub ev7 h
    refine lv_iinc (v := v7) (lv' := [(6, .int v7), (2, .long x2), (4, .int x4), (5, .ref (B 16 a3))]) F.1 F.2.1 dX19_fates_116 hl (k := 3) rfl (by rw [ev7]; rfl) (by decide) rfl (fun ls hl => ?_)
    refine lv_goto (tgt := 76) F.1 F.2.1 dX19_fates_119 (by decide) ?_
    exact hK76 x2 x4 (some a3) v7 (zal_s (hx5 _ rfl)) hr (lv_sub hl [1, 2, 3, 0] rfl) h
theorem lX19_fates_76 (hst : zSt B ids) (F : zFx p m c cX19_fates 7 s args RX19 D cy B ids A) (hA : ∀ q : Nat, s.heap.size ≤ q → A q) {r : Int32} {z' : St} (E : zEnd p l e rmX19_fates s m args below meth c cX19_fates D cy B ids A Q (some (.int r)) z' .ireturn True) {N : Nat}  : ∀ (n : Nat) (x2 : Int64) (x4 : Int32) (x5 : Option Nat) (x6 : Int32) (hx5 : ∀ t, x5 = some t → (16, t) ∈ ids) {z : St} {H : Heap} {locs : List Loc} {ls : Array Slot} (hr : zRep D cy B ids A s.heap z H locs) (hl : lv_has ls 7 [(2, .long x2), (4, .int x4), (5, va_rf (Option.map (B 16) x5)), (6, .int x6)]), fX19_fates_76 N  n x2 x4 x5 x6 z = some (r, z') → W p l e rmX19_fates s m args below meth c H locs 0 0 Q (F0 m 76 ls []) := by
  intro n
  induction n with
  | zero => intro x2 x4 x5 x6 hx5 z H locs ls hr hl h; cases h
  | succ n ih => intro x2 x4 x5 x6 hx5 z H locs ls hr hl h; exact bX19_fates_76 hst F hA E ih x2 x4 x5 x6 hx5 hr hl h
def fX19_fates_57 (N : Nat)  (x0 : Nat) (x1 : Int32) (x2 : Int64) (x4 : Int32) (s0 : Nat) (s1 : Int32) (s2 : Int32) (z : St) : Option (Int32 × St) := zc (fX19_fails N s0 s1 s2 z) fun r1 z2 => if r1 = 0 then (zk x1 24 <| zl (zgQ z2 187 x0 (Int32.toNatClampNeg x1)) fun y7 => fX19_fates_76 N N x2 x4 y7 (0 : Int32) z2) else (some ((0 : Int32), z2))
set_option maxHeartbeats 4000000 in
set_option maxRecDepth 100000 in
theorem bX19_fates_57 (hst : zSt B ids) (F : zFx p m c cX19_fates 7 s args RX19 D cy B ids A) (hA : ∀ q : Nat, s.heap.size ≤ q → A q) {r : Int32} {z' : St} (E : zEnd p l e rmX19_fates s m args below meth c cX19_fates D cy B ids A Q (some (.int r)) z' .ireturn True) {N : Nat}  (x0 : Nat) (x1 : Int32) (x2 : Int64) (x4 : Int32) (s0 : Nat) (s1 : Int32) (s2 : Int32) (hx0 : (19, x0) ∈ ids) (hs0 : (19, s0) ∈ ids) {z : St} {H : Heap} {locs : List Loc} {ls : Array Slot} (hr : zRep D cy B ids A s.heap z H locs) (hl : lv_has ls 7 [(0, .ref (B 19 x0)), (1, .int x1), (2, .long x2), (4, .int x4)]) (h : fX19_fates_57 N x0 x1 x2 x4 s0 s1 s2 z = some (r, z')) : W p l e rmX19_fates s m args below meth c H locs 0 0 Q (F0 m 57 ls [.int s2, .int s1, .ref (B 19 s0)]) := by
  unfold fX19_fates_57 at h
  replace h := zc_some h
  obtain ⟨r1, z2, hc3, h⟩ := h
  refine zr_calli (zrun_V (As := [.int s1, .int s2]) (rest := []) zq_2402 zq_2404 zs_X19_fails zq_2405 zq_4 hdX19_fails (by decide) (T := TX19) (N := 32) rfl (okX19_fails l D cy B ids hst N s0 hs0 s1  s2  hr.2.2 hc3) F hr hs0 hl.1 rfl (by decide) dX19_fates_57 rfl rfl hroX19_fates_X19_fails ⟨Nat.zero_le _, Nat.zero_le _⟩) F hA hr (fun H locs hw4 hr => ?_)
  clear hc3
  refine lv_if_eq (tgt := 65) F.1 F.2.1 dX19_fates_60 (by decide) (fun c5 => ?_) (fun c5 => ?_)
  · replace h := zi_t c5 h
    refine lv_aload_n F.1 F.2.1 dX19_fates_65 rfl (lv_at hl 0 rfl) ?_
    refine gf19_120 F hx0 hr dX19_fates_66 ?_
    refine lv_iload_n F.1 F.2.1 dX19_fates_69 rfl (lv_at hl 1 rfl) ?_
    replace h := zk_some h
    obtain ⟨c6, h⟩ := h
    refine zr_aaldv (k := 187) (by decide) rfl rfl (zlen_d (by decide)) F (zal_a F hx0 (j := 20) rfl) hr dX19_fates_70 c6 (fun y7 ey7 => ?_)
    replace h := zl_sub ey7 h
    have hy7 := zal_q hr (zal_a F hx0 (j := 20) rfl) rfl ey7
    clear ey7
    refine zr_astore (lv' := [(5, va_rf (Option.map (B 16) y7)), (0, .ref (B 19 x0)), (1, .int x1), (2, .long x2), (4, .int x4)]) F.1 F.2.1 dX19_fates_71 hl (by decide) rfl (fun ls hl => ?_)
    refine lv_iconst (v := (0 : Int32)) F.1 F.2.1 dX19_fates_73 (by decide) ?_
    refine lv_istore (lv' := [(6, .int (0 : Int32)), (5, va_rf (Option.map (B 16) y7)), (0, .ref (B 19 x0)), (1, .int x1), (2, .long x2), (4, .int x4)]) F.1 F.2.1 dX19_fates_74 hl (by decide) (by simp only [List.filter, zrf_cat]; rfl) (fun ls hl => ?_)
    exact lX19_fates_76 hst F hA E  _ x2 x4 y7 (0 : Int32) hy7 hr (lv_sub hl [4, 5, 1, 0] rfl) h
  · replace h := zi_f c5 h
    refine lv_iconst (v := (0 : Int32)) F.1 F.2.1 dX19_fates_63 (by decide) ?_
    obtain ⟨rfl, rfl⟩ := zret h
    exact E _ _ _ _ dX19_fates_64 trivial hr
def fX19_fates_56 (N : Nat)  (x0 : Nat) (x1 : Int32) (x2 : Int64) (x4 : Int32) (s0 : Nat) (s1 : Int32) (z : St) : Option (Int32 × St) := fX19_fates_57 N x0 x1 x2 x4 s0 s1 (0 : Int32) z
set_option maxHeartbeats 4000000 in
set_option maxRecDepth 100000 in
theorem bX19_fates_56 (hst : zSt B ids) (F : zFx p m c cX19_fates 7 s args RX19 D cy B ids A) (hA : ∀ q : Nat, s.heap.size ≤ q → A q) {r : Int32} {z' : St} (E : zEnd p l e rmX19_fates s m args below meth c cX19_fates D cy B ids A Q (some (.int r)) z' .ireturn True) {N : Nat}  (x0 : Nat) (x1 : Int32) (x2 : Int64) (x4 : Int32) (s0 : Nat) (s1 : Int32) (hx0 : (19, x0) ∈ ids) (hs0 : (19, s0) ∈ ids) {z : St} {H : Heap} {locs : List Loc} {ls : Array Slot} (hr : zRep D cy B ids A s.heap z H locs) (hl : lv_has ls 7 [(0, .ref (B 19 x0)), (1, .int x1), (2, .long x2), (4, .int x4)]) (h : fX19_fates_56 N x0 x1 x2 x4 s0 s1 z = some (r, z')) : W p l e rmX19_fates s m args below meth c H locs 0 0 Q (F0 m 56 ls [.int s1, .ref (B 19 s0)]) := by
  unfold fX19_fates_56 at h
  refine lv_iconst (v := (0 : Int32)) F.1 F.2.1 dX19_fates_56 (by decide) ?_
  exact bX19_fates_57 hst F hA E  x0 x1 x2 x4 s0 s1 (0 : Int32) hx0 hs0 hr (lv_sub hl [0, 1, 2, 3] rfl) h
def fX19_fates_27 (N : Nat)  (x0 : Nat) (x1 : Int32) (x2 : Int64) (x4 : Int32) (s0 : Nat) (s1 : Int32) (z : St) : Option (Int32 × St) := zc (fX19_isNet N x0 x1 z) fun r1 z2 => if r1 = 0 then (fX19_fates_56 N x0 x1 x2 x4 s0 s1 z2) else (zk x1 24 <| zl (zgQ z2 187 x0 (Int32.toNatClampNeg x1)) fun y7 => zd y7 fun a8 => if ((zgI z2 16 7 a8) + x4) ≤ (64 : Int32) then (fX19_fates_56 N x0 x1 x2 x4 s0 s1 z2) else (fX19_fates_57 N x0 x1 x2 x4 s0 s1 (1 : Int32) z2))
set_option maxHeartbeats 4000000 in
set_option maxRecDepth 100000 in
theorem bX19_fates_27 (hst : zSt B ids) (F : zFx p m c cX19_fates 7 s args RX19 D cy B ids A) (hA : ∀ q : Nat, s.heap.size ≤ q → A q) {r : Int32} {z' : St} (E : zEnd p l e rmX19_fates s m args below meth c cX19_fates D cy B ids A Q (some (.int r)) z' .ireturn True) {N : Nat}  (x0 : Nat) (x1 : Int32) (x2 : Int64) (x4 : Int32) (s0 : Nat) (s1 : Int32) (hx0 : (19, x0) ∈ ids) (hs0 : (19, s0) ∈ ids) {z : St} {H : Heap} {locs : List Loc} {ls : Array Slot} (hr : zRep D cy B ids A s.heap z H locs) (hl : lv_has ls 7 [(0, .ref (B 19 x0)), (1, .int x1), (2, .long x2), (4, .int x4)]) (h : fX19_fates_27 N x0 x1 x2 x4 s0 s1 z = some (r, z')) : W p l e rmX19_fates s m args below meth c H locs 0 0 Q (F0 m 27 ls [.int s1, .ref (B 19 s0)]) := by
  unfold fX19_fates_27 at h
  refine lv_aload_n F.1 F.2.1 dX19_fates_27 rfl (lv_at hl 0 rfl) ?_
  refine lv_iload_n F.1 F.2.1 dX19_fates_28 rfl (lv_at hl 1 rfl) ?_
  replace h := zc_some h
  obtain ⟨r1, z2, hc3, h⟩ := h
  refine zr_calli (zrun_V (As := [.int x1]) (rest := [.int s1, .ref (B 19 s0)]) zq_2455 zq_2457 zs_X19_isNet zq_2458 zq_4 hdX19_isNet (by decide) (T := TX19) (N := 32) rfl (okX19_isNet l D cy B ids hst N x0 hx0 x1  hr.2.2 hc3) F hr hx0 hl.1 rfl (Nat.le_of_ble_eq_true rfl) dX19_fates_29 rfl rfl hroX19_fates_X19_isNet ⟨Nat.zero_le _, Nat.zero_le _⟩) F hA hr (fun H locs hw4 hr => ?_)
  clear hc3
  refine lv_if_eq (tgt := 56) F.1 F.2.1 dX19_fates_32 (by decide) (fun c5 => ?_) (fun c5 => ?_)
  · replace h := zi_t c5 h
    exact bX19_fates_56 hst F hA E  x0 x1 x2 x4 s0 s1 hx0 hs0 hr (lv_sub hl [0, 1, 2, 3] rfl) h
  · replace h := zi_f c5 h
    refine lv_aload_n F.1 F.2.1 dX19_fates_35 rfl (lv_at hl 0 rfl) ?_
    refine gf19_120 F hx0 hr dX19_fates_36 ?_
    refine lv_iload_n F.1 F.2.1 dX19_fates_39 rfl (lv_at hl 1 rfl) ?_
    replace h := zk_some h
    obtain ⟨c6, h⟩ := h
    refine zr_aaldv (k := 187) (by decide) rfl rfl (zlen_d (by decide)) F (zal_a F hx0 (j := 20) rfl) hr dX19_fates_40 c6 (fun y7 ey7 => ?_)
    replace h := zl_sub ey7 h
    have hy7 := zal_q hr (zal_a F hx0 (j := 20) rfl) rfl ey7
    clear ey7
    replace h := zd_some h
    obtain ⟨a8, rfl, h⟩ := h
    refine gf19_162 F (hy7 _ rfl) hr dX19_fates_41 ?_
    refine lv_iload F.1 F.2.1 dX19_fates_44 (lv_at hl 3 rfl) ?_
    refine lv_iadd F.1 F.2.1 dX19_fates_46 ?_
    refine lv_bipush (v := (64 : Int32)) F.1 F.2.1 dX19_fates_47 (by decide) ?_
    refine lv_icmp_le (tgt := 56) F.1 F.2.1 dX19_fates_49 (by decide) (fun c9 => ?_) (fun c9 => ?_)
    · replace h := zi_t c9 h
      exact bX19_fates_56 hst F hA E  x0 x1 x2 x4 s0 s1 hx0 hs0 hr (lv_sub hl [0, 1, 2, 3] rfl) h
    · replace h := zi_f c9 h
      refine lv_iconst (v := (1 : Int32)) F.1 F.2.1 dX19_fates_52 (by decide) ?_
      refine lv_goto (tgt := 57) F.1 F.2.1 dX19_fates_53 (by decide) ?_
      exact bX19_fates_57 hst F hA E  x0 x1 x2 x4 s0 s1 (1 : Int32) hx0 hs0 hr (lv_sub hl [0, 1, 2, 3] rfl) h
def fX19_fates_22 (N : Nat)  (x0 : Nat) (x1 : Int32) (x2 : Int64) (x4 : Int32) (s0 : Nat) (z : St) : Option (Int32 × St) := fX19_fates_27 N x0 x1 x2 x4 s0 (1 : Int32) z
set_option maxHeartbeats 4000000 in
set_option maxRecDepth 100000 in
theorem bX19_fates_22 (hst : zSt B ids) (F : zFx p m c cX19_fates 7 s args RX19 D cy B ids A) (hA : ∀ q : Nat, s.heap.size ≤ q → A q) {r : Int32} {z' : St} (E : zEnd p l e rmX19_fates s m args below meth c cX19_fates D cy B ids A Q (some (.int r)) z' .ireturn True) {N : Nat}  (x0 : Nat) (x1 : Int32) (x2 : Int64) (x4 : Int32) (s0 : Nat) (hx0 : (19, x0) ∈ ids) (hs0 : (19, s0) ∈ ids) {z : St} {H : Heap} {locs : List Loc} {ls : Array Slot} (hr : zRep D cy B ids A s.heap z H locs) (hl : lv_has ls 7 [(0, .ref (B 19 x0)), (1, .int x1), (2, .long x2), (4, .int x4)]) (h : fX19_fates_22 N x0 x1 x2 x4 s0 z = some (r, z')) : W p l e rmX19_fates s m args below meth c H locs 0 0 Q (F0 m 22 ls [.ref (B 19 s0)]) := by
  unfold fX19_fates_22 at h
  refine lv_iconst (v := (1 : Int32)) F.1 F.2.1 dX19_fates_22 (by decide) ?_
  refine lv_goto (tgt := 27) F.1 F.2.1 dX19_fates_23 (by decide) ?_
  exact bX19_fates_27 hst F hA E  x0 x1 x2 x4 s0 (1 : Int32) hx0 hs0 hr (lv_sub hl [0, 1, 2, 3] rfl) h
def fX19_fates (N : Nat)  (x0 : Nat) (x1 : Int32) (x2 : Int64) (x4 : Int32) (z : St) : Option (Int32 × St) := zc (fX19_isNet N x0 x1 z) fun r1 z2 => if r1 = 0 then (fX19_fates_22 N x0 x1 x2 x4 x0 z2) else (if x4 < (1 : Int32) then (fX19_fates_22 N x0 x1 x2 x4 x0 z2) else (if x4 ≤ (32 : Int32) then (fX19_fates_27 N x0 x1 x2 x4 x0 (0 : Int32) z2) else (fX19_fates_22 N x0 x1 x2 x4 x0 z2)))
set_option maxHeartbeats 4000000 in
set_option maxRecDepth 100000 in
theorem bX19_fates_0 (hst : zSt B ids) (F : zFx p m c cX19_fates 7 s args RX19 D cy B ids A) (hA : ∀ q : Nat, s.heap.size ≤ q → A q) {r : Int32} {z' : St} (E : zEnd p l e rmX19_fates s m args below meth c cX19_fates D cy B ids A Q (some (.int r)) z' .ireturn True) {N : Nat}  (x0 : Nat) (x1 : Int32) (x2 : Int64) (x4 : Int32) (hx0 : (19, x0) ∈ ids) {z : St} {H : Heap} {locs : List Loc} {ls : Array Slot} (hr : zRep D cy B ids A s.heap z H locs) (hl : lv_has ls 7 [(0, .ref (B 19 x0)), (1, .int x1), (2, .long x2), (4, .int x4)]) (h : fX19_fates N x0 x1 x2 x4 z = some (r, z')) : W p l e rmX19_fates s m args below meth c H locs 0 0 Q (F0 m 0 ls []) := by
  unfold fX19_fates at h
  refine lv_aload_n F.1 F.2.1 dX19_fates_0 rfl (lv_at hl 0 rfl) ?_
  refine lv_aload_n F.1 F.2.1 dX19_fates_1 rfl (lv_at hl 0 rfl) ?_
  refine lv_iload_n F.1 F.2.1 dX19_fates_2 rfl (lv_at hl 1 rfl) ?_
  replace h := zc_some h
  obtain ⟨r1, z2, hc3, h⟩ := h
  refine zr_calli (zrun_V (As := [.int x1]) (rest := [.ref (B 19 x0)]) zq_2455 zq_2457 zs_X19_isNet zq_2458 zq_4 hdX19_isNet (by decide) (T := TX19) (N := 32) rfl (okX19_isNet l D cy B ids hst N x0 hx0 x1  hr.2.2 hc3) F hr hx0 hl.1 rfl (Nat.le_of_ble_eq_true rfl) dX19_fates_3 rfl rfl hroX19_fates_X19_isNet ⟨Nat.zero_le _, Nat.zero_le _⟩) F hA hr (fun H locs hw4 hr => ?_)
  clear hc3
  refine lv_if_eq (tgt := 22) F.1 F.2.1 dX19_fates_6 (by decide) (fun c5 => ?_) (fun c5 => ?_)
  · replace h := zi_t c5 h
    exact bX19_fates_22 hst F hA E  x0 x1 x2 x4 x0 hx0 hx0 hr (lv_sub hl [0, 1, 2, 3] rfl) h
  · replace h := zi_f c5 h
    refine lv_iload F.1 F.2.1 dX19_fates_9 (lv_at hl 3 rfl) ?_
    refine lv_iconst (v := (1 : Int32)) F.1 F.2.1 dX19_fates_11 (by decide) ?_
    refine lv_icmp_lt (tgt := 22) F.1 F.2.1 dX19_fates_12 (by decide) (fun c6 => ?_) (fun c6 => ?_)
    · replace h := zi_t c6 h
      exact bX19_fates_22 hst F hA E  x0 x1 x2 x4 x0 hx0 hx0 hr (lv_sub hl [0, 1, 2, 3] rfl) h
    · replace h := zi_f c6 h
      refine lv_iload F.1 F.2.1 dX19_fates_15 (lv_at hl 3 rfl) ?_
      refine lv_bipush (v := (32 : Int32)) F.1 F.2.1 dX19_fates_17 (by decide) ?_
      refine lv_icmp_le (tgt := 26) F.1 F.2.1 dX19_fates_19 (by decide) (fun c7 => ?_) (fun c7 => ?_)
      · replace h := zi_t c7 h
        refine lv_iconst (v := (0 : Int32)) F.1 F.2.1 dX19_fates_26 (by decide) ?_
        exact bX19_fates_27 hst F hA E  x0 x1 x2 x4 x0 (0 : Int32) hx0 hx0 hr (lv_sub hl [0, 1, 2, 3] rfl) h
      · replace h := zi_f c7 h
        exact bX19_fates_22 hst F hA E  x0 x1 x2 x4 x0 hx0 hx0 hr (lv_sub hl [0, 1, 2, 3] rfl) h
end SX19_fates
set_option maxRecDepth 100000 in
theorem okX19_fates (l : Launch) (D : va_G) (cy : Nat → ClassId) (B : Nat → Nat → Nat) (ids : List (Nat × Nat)) (hst : zSt B ids) (N : Nat) (x0 : Nat) (hx0 : (19, x0) ∈ ids) (x1 : Int32) (x2 : Int64) (x4 : Int32) {z : St} {r : Int32} {z' : St} (hW : zWf ids z) (h : fX19_fates N x0 x1 x2 x4 z = some (r, z')) : zM l yX19_fates (zws yX19_fates cX19_fates 7 (some .int)) rmX19_fates D cy B ids [.ref (B 19 x0), .int x1, .long x2, .int x4] (some (.int r)) True z z' :=
  zM_of hst hW (by decide +kernel) (Nat.le_of_ble_eq_true rfl) (fun p e s m args below meth c A ls F hA hret hlocks hr hl => bX19_fates_0 hst F hA (zEnd_i F hret hlocks) x0 x1 x2 x4 hx0 hr hl h)
abbrev rmX19_run : Room := { frames := 16, cells := 0, slots := 0, locals := 418 }
theorem hdX19_run : yX19_run.cls ≠ "java/lang/invoke/MethodHandle" ∧ yX19_run.cls ≠ "java/lang/invoke/VarHandle" ∧ (parseMethodDescriptor yX19_run.desc).map (fun d => d.parameters.length) = some 1 := by decide +kernel
theorem hroX19_run_X19_fails : rmX19_fails.frames + 1 ≤ rmX19_run.frames ∧ 8 + (3 + 11) + rmX19_fails.locals ≤ rmX19_run.locals := by decide
theorem hroX19_run_X19_tick : rmX19_tick.frames + 1 ≤ rmX19_run.frames ∧ 8 + (4 + 11) + rmX19_tick.locals ≤ rmX19_run.locals := by decide
section SX19_run
variable {p : Program} {l : Launch} {e : Env} {s : State} {m : MethodId} {args : Array Value} {below : List Frame} {meth : Method} {c : Code} {Q : State → Prop} {D : va_G} {cy : Nat → ClassId} {B : Nat → Nat → Nat} {ids : List (Nat × Nat)} {A : Nat → Prop}
def fX19_run_45b (N : Nat) (K45 : Nat → Int32 → Int32 → St → Option (Int32 × St)) (x0 : Nat) (x1 : Int32) (x2 : Int32) (z : St) : Option (Int32 × St) := if x1 ≤ x2 then (some ((zgI z 19 24 x0), z)) else (zc (fX19_tick N x0 z) fun _ z3 => zl (x2 + 1) fun v6 => K45 x0 x1 v6 z3)
def fX19_run_45 (N : Nat)  : Nat → Nat → Int32 → Int32 → St → Option (Int32 × St)
  | 0 => fun _ _ _ _ => none
  | n + 1 => fX19_run_45b N (fX19_run_45 N  n)
set_option maxHeartbeats 4000000 in
set_option maxRecDepth 100000 in
theorem bX19_run_45 (hst : zSt B ids) (F : zFx p m c cX19_run 3 s args RX19 D cy B ids A) (hA : ∀ q : Nat, s.heap.size ≤ q → A q) {r : Int32} {z' : St} (E : zEnd p l e rmX19_run s m args below meth c cX19_run D cy B ids A Q (some (.int r)) z' .ireturn True) {N : Nat} {K45 : Nat → Int32 → Int32 → St → Option (Int32 × St)} (hK45 : ∀ (x0 : Nat) (x1 : Int32) (x2 : Int32) (hx0 : (19, x0) ∈ ids) {z : St} {H : Heap} {locs : List Loc} {ls : Array Slot} (hr : zRep D cy B ids A s.heap z H locs) (hl : lv_has ls 3 [(0, .ref (B 19 x0)), (1, .int x1), (2, .int x2)]), K45 x0 x1 x2 z = some (r, z') → W p l e rmX19_run s m args below meth c H locs 0 0 Q (F0 m 45 ls [])) (x0 : Nat) (x1 : Int32) (x2 : Int32) (hx0 : (19, x0) ∈ ids) {z : St} {H : Heap} {locs : List Loc} {ls : Array Slot} (hr : zRep D cy B ids A s.heap z H locs) (hl : lv_has ls 3 [(0, .ref (B 19 x0)), (1, .int x1), (2, .int x2)]) (h : fX19_run_45b N K45 x0 x1 x2 z = some (r, z')) : W p l e rmX19_run s m args below meth c H locs 0 0 Q (F0 m 45 ls []) := by
  unfold fX19_run_45b at h
  refine lv_iload_n F.1 F.2.1 dX19_run_45 rfl (lv_at hl 2 rfl) ?_
  refine lv_iload_n F.1 F.2.1 dX19_run_46 rfl (lv_at hl 1 rfl) ?_
  refine lv_icmp_ge (tgt := 60) F.1 F.2.1 dX19_run_47 (by decide) (fun c1 => ?_) (fun c1 => ?_)
  · replace h := zi_t c1 h
    refine lv_aload_n F.1 F.2.1 dX19_run_60 rfl (lv_at hl 0 rfl) ?_
    refine gf19_143 F hx0 hr dX19_run_61 ?_
    obtain ⟨rfl, rfl⟩ := zret h
    exact E _ _ _ _ dX19_run_64 trivial hr
  · replace h := zi_f c1 h
    refine lv_aload_n F.1 F.2.1 dX19_run_50 rfl (lv_at hl 0 rfl) ?_
    replace h := zc_some h
    obtain ⟨r2, z3, hc4, h⟩ := h
    refine zr_callv (zrun_V (As := []) (rest := []) zq_2579 zq_2581 zs_X19_tick zq_2582 zq_4 hdX19_tick (by decide) (T := TX19) (N := 32) rfl (okX19_tick l D cy B ids hst N x0 hx0 hr.2.2 hc4) F hr hx0 hl.1 rfl (by decide) dX19_run_51 rfl rfl hroX19_run_X19_tick ⟨Nat.zero_le _, Nat.zero_le _⟩) F hA hr (fun H locs hw5 hr => ?_)
    clear hc4
    obtain ⟨v6, ev6⟩ : ∃ y : Int32, y = (x2 + 1) := ⟨_, rfl⟩
    replace h := zl_sub ev6 h
    refine lv_iinc (v := v6) (lv' := [(2, .int v6), (0, .ref (B 19 x0)), (1, .int x1)]) F.1 F.2.1 dX19_run_54 hl (k := 2) rfl (by rw [ev6]; rfl) (by decide) rfl (fun ls hl => ?_)
    refine lv_goto (tgt := 45) F.1 F.2.1 dX19_run_57 (by decide) ?_
    exact hK45 x0 x1 v6 hx0 hr (lv_sub hl [1, 2, 0] rfl) h
theorem lX19_run_45 (hst : zSt B ids) (F : zFx p m c cX19_run 3 s args RX19 D cy B ids A) (hA : ∀ q : Nat, s.heap.size ≤ q → A q) {r : Int32} {z' : St} (E : zEnd p l e rmX19_run s m args below meth c cX19_run D cy B ids A Q (some (.int r)) z' .ireturn True) {N : Nat}  : ∀ (n : Nat) (x0 : Nat) (x1 : Int32) (x2 : Int32) (hx0 : (19, x0) ∈ ids) {z : St} {H : Heap} {locs : List Loc} {ls : Array Slot} (hr : zRep D cy B ids A s.heap z H locs) (hl : lv_has ls 3 [(0, .ref (B 19 x0)), (1, .int x1), (2, .int x2)]), fX19_run_45 N  n x0 x1 x2 z = some (r, z') → W p l e rmX19_run s m args below meth c H locs 0 0 Q (F0 m 45 ls []) := by
  intro n
  induction n with
  | zero => intro x0 x1 x2 hx0 z H locs ls hr hl h; cases h
  | succ n ih => intro x0 x1 x2 hx0 z H locs ls hr hl h; exact bX19_run_45 hst F hA E ih x0 x1 x2 hx0 hr hl h
def fX19_run_35 (N : Nat)  (x0 : Nat) (x1 : Int32) (s0 : Nat) (s1 : Int32) (s2 : Int32) (z : St) : Option (Int32 × St) := zc (fX19_fails N s0 s1 s2 z) fun r1 z2 => if r1 = 0 then (fX19_run_45 N N x0 x1 (0 : Int32) z2) else (some ((0 : Int32), z2))
set_option maxHeartbeats 4000000 in
set_option maxRecDepth 100000 in
theorem bX19_run_35 (hst : zSt B ids) (F : zFx p m c cX19_run 3 s args RX19 D cy B ids A) (hA : ∀ q : Nat, s.heap.size ≤ q → A q) {r : Int32} {z' : St} (E : zEnd p l e rmX19_run s m args below meth c cX19_run D cy B ids A Q (some (.int r)) z' .ireturn True) {N : Nat}  (x0 : Nat) (x1 : Int32) (s0 : Nat) (s1 : Int32) (s2 : Int32) (hx0 : (19, x0) ∈ ids) (hs0 : (19, s0) ∈ ids) {z : St} {H : Heap} {locs : List Loc} {ls : Array Slot} (hr : zRep D cy B ids A s.heap z H locs) (hl : lv_has ls 3 [(0, .ref (B 19 x0)), (1, .int x1)]) (h : fX19_run_35 N x0 x1 s0 s1 s2 z = some (r, z')) : W p l e rmX19_run s m args below meth c H locs 0 0 Q (F0 m 35 ls [.int s2, .int s1, .ref (B 19 s0)]) := by
  unfold fX19_run_35 at h
  replace h := zc_some h
  obtain ⟨r1, z2, hc3, h⟩ := h
  refine zr_calli (zrun_V (As := [.int s1, .int s2]) (rest := []) zq_2402 zq_2404 zs_X19_fails zq_2405 zq_4 hdX19_fails (by decide) (T := TX19) (N := 32) rfl (okX19_fails l D cy B ids hst N s0 hs0 s1  s2  hr.2.2 hc3) F hr hs0 hl.1 rfl (by decide) dX19_run_35 rfl rfl hroX19_run_X19_fails ⟨Nat.zero_le _, Nat.zero_le _⟩) F hA hr (fun H locs hw4 hr => ?_)
  clear hc3
  refine lv_if_eq (tgt := 43) F.1 F.2.1 dX19_run_38 (by decide) (fun c5 => ?_) (fun c5 => ?_)
  · replace h := zi_t c5 h
    refine lv_iconst (v := (0 : Int32)) F.1 F.2.1 dX19_run_43 (by decide) ?_
    refine lv_istore_n (lv' := [(2, .int (0 : Int32)), (0, .ref (B 19 x0)), (1, .int x1)]) F.1 F.2.1 dX19_run_44 rfl hl (by decide) rfl (fun ls hl => ?_)
    exact lX19_run_45 hst F hA E  _ x0 x1 (0 : Int32) hx0 hr (lv_sub hl [1, 2, 0] rfl) h
  · replace h := zi_f c5 h
    refine lv_iconst (v := (0 : Int32)) F.1 F.2.1 dX19_run_41 (by decide) ?_
    obtain ⟨rfl, rfl⟩ := zret h
    exact E _ _ _ _ dX19_run_42 trivial hr
def fX19_run_18 (N : Nat)  (x0 : Nat) (x1 : Int32) (s0 : Nat) (s1 : Int32) (z : St) : Option (Int32 × St) := if ((zgI z 19 24 x0) + x1) ≤ (400000 : Int32) then (fX19_run_35 N x0 x1 s0 s1 (0 : Int32) z) else (fX19_run_35 N x0 x1 s0 s1 (1 : Int32) z)
set_option maxHeartbeats 4000000 in
set_option maxRecDepth 100000 in
theorem bX19_run_18 (hst : zSt B ids) (F : zFx p m c cX19_run 3 s args RX19 D cy B ids A) (hA : ∀ q : Nat, s.heap.size ≤ q → A q) {r : Int32} {z' : St} (E : zEnd p l e rmX19_run s m args below meth c cX19_run D cy B ids A Q (some (.int r)) z' .ireturn True) {N : Nat}  (x0 : Nat) (x1 : Int32) (s0 : Nat) (s1 : Int32) (hx0 : (19, x0) ∈ ids) (hs0 : (19, s0) ∈ ids) {z : St} {H : Heap} {locs : List Loc} {ls : Array Slot} (hr : zRep D cy B ids A s.heap z H locs) (hl : lv_has ls 3 [(0, .ref (B 19 x0)), (1, .int x1)]) (h : fX19_run_18 N x0 x1 s0 s1 z = some (r, z')) : W p l e rmX19_run s m args below meth c H locs 0 0 Q (F0 m 18 ls [.int s1, .ref (B 19 s0)]) := by
  unfold fX19_run_18 at h
  refine lv_aload_n F.1 F.2.1 dX19_run_18 rfl (lv_at hl 0 rfl) ?_
  refine gf19_143 F hx0 hr dX19_run_19 ?_
  refine lv_iload_n F.1 F.2.1 dX19_run_22 rfl (lv_at hl 1 rfl) ?_
  refine lv_iadd F.1 F.2.1 dX19_run_23 ?_
  refine lv_ldcw (v := (400000)) F.1 F.2.1 F.2.2.2.1 (F.2.2.2.2.1 _ zq_2578) dX19_run_24 ?_
  refine lv_icmp_le (tgt := 34) F.1 F.2.1 dX19_run_27 (by decide) (fun c1 => ?_) (fun c1 => ?_)
  · replace h := zi_t c1 h
    refine lv_iconst (v := (0 : Int32)) F.1 F.2.1 dX19_run_34 (by decide) ?_
    exact bX19_run_35 hst F hA E  x0 x1 s0 s1 (0 : Int32) hx0 hs0 hr (lv_sub hl [0, 1] rfl) h
  · replace h := zi_f c1 h
    refine lv_iconst (v := (1 : Int32)) F.1 F.2.1 dX19_run_30 (by decide) ?_
    refine lv_goto (tgt := 35) F.1 F.2.1 dX19_run_31 (by decide) ?_
    exact bX19_run_35 hst F hA E  x0 x1 s0 s1 (1 : Int32) hx0 hs0 hr (lv_sub hl [0, 1] rfl) h
def fX19_run_13 (N : Nat)  (x0 : Nat) (x1 : Int32) (s0 : Nat) (z : St) : Option (Int32 × St) := fX19_run_18 N x0 x1 s0 (1 : Int32) z
set_option maxHeartbeats 4000000 in
set_option maxRecDepth 100000 in
theorem bX19_run_13 (hst : zSt B ids) (F : zFx p m c cX19_run 3 s args RX19 D cy B ids A) (hA : ∀ q : Nat, s.heap.size ≤ q → A q) {r : Int32} {z' : St} (E : zEnd p l e rmX19_run s m args below meth c cX19_run D cy B ids A Q (some (.int r)) z' .ireturn True) {N : Nat}  (x0 : Nat) (x1 : Int32) (s0 : Nat) (hx0 : (19, x0) ∈ ids) (hs0 : (19, s0) ∈ ids) {z : St} {H : Heap} {locs : List Loc} {ls : Array Slot} (hr : zRep D cy B ids A s.heap z H locs) (hl : lv_has ls 3 [(0, .ref (B 19 x0)), (1, .int x1)]) (h : fX19_run_13 N x0 x1 s0 z = some (r, z')) : W p l e rmX19_run s m args below meth c H locs 0 0 Q (F0 m 13 ls [.ref (B 19 s0)]) := by
  unfold fX19_run_13 at h
  refine lv_iconst (v := (1 : Int32)) F.1 F.2.1 dX19_run_13 (by decide) ?_
  refine lv_goto (tgt := 18) F.1 F.2.1 dX19_run_14 (by decide) ?_
  exact bX19_run_18 hst F hA E  x0 x1 s0 (1 : Int32) hx0 hs0 hr (lv_sub hl [0, 1] rfl) h
def fX19_run (N : Nat)  (x0 : Nat) (x1 : Int32) (z : St) : Option (Int32 × St) := if x1 < (1 : Int32) then (fX19_run_13 N x0 x1 x0 z) else (if x1 ≤ (1000 : Int32) then (fX19_run_18 N x0 x1 x0 (0 : Int32) z) else (fX19_run_13 N x0 x1 x0 z))
set_option maxHeartbeats 4000000 in
set_option maxRecDepth 100000 in
theorem bX19_run_0 (hst : zSt B ids) (F : zFx p m c cX19_run 3 s args RX19 D cy B ids A) (hA : ∀ q : Nat, s.heap.size ≤ q → A q) {r : Int32} {z' : St} (E : zEnd p l e rmX19_run s m args below meth c cX19_run D cy B ids A Q (some (.int r)) z' .ireturn True) {N : Nat}  (x0 : Nat) (x1 : Int32) (hx0 : (19, x0) ∈ ids) {z : St} {H : Heap} {locs : List Loc} {ls : Array Slot} (hr : zRep D cy B ids A s.heap z H locs) (hl : lv_has ls 3 [(0, .ref (B 19 x0)), (1, .int x1)]) (h : fX19_run N x0 x1 z = some (r, z')) : W p l e rmX19_run s m args below meth c H locs 0 0 Q (F0 m 0 ls []) := by
  unfold fX19_run at h
  refine lv_aload_n F.1 F.2.1 dX19_run_0 rfl (lv_at hl 0 rfl) ?_
  refine lv_iload_n F.1 F.2.1 dX19_run_1 rfl (lv_at hl 1 rfl) ?_
  refine lv_iconst (v := (1 : Int32)) F.1 F.2.1 dX19_run_2 (by decide) ?_
  refine lv_icmp_lt (tgt := 13) F.1 F.2.1 dX19_run_3 (by decide) (fun c1 => ?_) (fun c1 => ?_)
  · replace h := zi_t c1 h
    exact bX19_run_13 hst F hA E  x0 x1 x0 hx0 hx0 hr (lv_sub hl [0, 1] rfl) h
  · replace h := zi_f c1 h
    refine lv_iload_n F.1 F.2.1 dX19_run_6 rfl (lv_at hl 1 rfl) ?_
    refine lv_sipush (v := (1000 : Int32)) F.1 F.2.1 dX19_run_7 (by decide) ?_
    refine lv_icmp_le (tgt := 17) F.1 F.2.1 dX19_run_10 (by decide) (fun c2 => ?_) (fun c2 => ?_)
    · replace h := zi_t c2 h
      refine lv_iconst (v := (0 : Int32)) F.1 F.2.1 dX19_run_17 (by decide) ?_
      exact bX19_run_18 hst F hA E  x0 x1 x0 (0 : Int32) hx0 hx0 hr (lv_sub hl [0, 1] rfl) h
    · replace h := zi_f c2 h
      exact bX19_run_13 hst F hA E  x0 x1 x0 hx0 hx0 hr (lv_sub hl [0, 1] rfl) h
end SX19_run
set_option maxRecDepth 100000 in
theorem okX19_run (l : Launch) (D : va_G) (cy : Nat → ClassId) (B : Nat → Nat → Nat) (ids : List (Nat × Nat)) (hst : zSt B ids) (N : Nat) (x0 : Nat) (hx0 : (19, x0) ∈ ids) (x1 : Int32) {z : St} {r : Int32} {z' : St} (hW : zWf ids z) (h : fX19_run N x0 x1 z = some (r, z')) : zM l yX19_run (zws yX19_run cX19_run 3 (some .int)) rmX19_run D cy B ids [.ref (B 19 x0), .int x1] (some (.int r)) True z z' :=
  zM_of hst hW (by decide +kernel) (Nat.le_of_ble_eq_true rfl) (fun p e s m args below meth c A ls F hA hret hlocks hr hl => bX19_run_0 hst F hA (zEnd_i F hret hlocks) x0 x1 hx0 hr hl h)
abbrev rmX19_listen : Room := { frames := 2, cells := 0, slots := 0, locals := 42 }
theorem hdX19_listen : yX19_listen.cls ≠ "java/lang/invoke/MethodHandle" ∧ yX19_listen.cls ≠ "java/lang/invoke/VarHandle" ∧ (parseMethodDescriptor yX19_listen.desc).map (fun d => d.parameters.length) = some 3 := by decide +kernel
theorem hroX19_listen_X19_fails : rmX19_fails.frames + 1 ≤ rmX19_listen.frames ∧ 8 + (3 + 11) + rmX19_fails.locals ≤ rmX19_listen.locals := by decide
theorem hroX19_listen_X19_isHost : rmX19_isHost.frames + 1 ≤ rmX19_listen.frames ∧ 8 + (2 + 11) + rmX19_isHost.locals ≤ rmX19_listen.locals := by decide
theorem hroX19_listen_X19_leastFree : rmX19_leastFree.frames + 1 ≤ rmX19_listen.frames ∧ 8 + (2 + 11) + rmX19_leastFree.locals ≤ rmX19_listen.locals := by decide
theorem hroX19_listen_X19_stir : rmX19_stir.frames + 1 ≤ rmX19_listen.frames ∧ 8 + (1 + 11) + rmX19_stir.locals ≤ rmX19_listen.locals := by decide
section SX19_listen
variable {p : Program} {l : Launch} {e : Env} {s : State} {m : MethodId} {args : Array Value} {below : List Frame} {meth : Method} {c : Code} {Q : State → Prop} {D : va_G} {cy : Nat → ClassId} {B : Nat → Nat → Nat} {ids : List (Nat × Nat)} {A : Nat → Prop}
def fX19_listen_105 (N : Nat) (K59 : Nat → Int32 → Int32 → Option Nat → Int32 → Int32 → St → Option (Int32 × St)) (x0 : Nat) (x2 : Int32) (x3 : Int32) (x4 : Option Nat) (x6 : Int32) (s0 : Int32) (z : St) : Option (Int32 × St) := zl (x6 + 1) fun v1 => K59 x0 x2 x3 x4 s0 v1 z
set_option maxHeartbeats 4000000 in
set_option maxRecDepth 100000 in
theorem bX19_listen_105 (hst : zSt B ids) (F : zFx p m c cX19_listen 7 s args RX19 D cy B ids A) (hA : ∀ q : Nat, s.heap.size ≤ q → A q) {r : Int32} {z' : St} (E : zEnd p l e rmX19_listen s m args below meth c cX19_listen D cy B ids A Q (some (.int r)) z' .ireturn True) {N : Nat} {K59 : Nat → Int32 → Int32 → Option Nat → Int32 → Int32 → St → Option (Int32 × St)} (hK59 : ∀ (x0 : Nat) (x2 : Int32) (x3 : Int32) (x4 : Option Nat) (x5 : Int32) (x6 : Int32) (hx0 : (19, x0) ∈ ids) (hx4 : ∀ t, x4 = some t → (12, t) ∈ ids) {z : St} {H : Heap} {locs : List Loc} {ls : Array Slot} (hr : zRep D cy B ids A s.heap z H locs) (hl : lv_has ls 7 [(0, .ref (B 19 x0)), (2, .int x2), (3, .int x3), (4, va_rf (Option.map (B 12) x4)), (5, .int x5), (6, .int x6)]), K59 x0 x2 x3 x4 x5 x6 z = some (r, z') → W p l e rmX19_listen s m args below meth c H locs 0 0 Q (F0 m 59 ls [])) (x0 : Nat) (x2 : Int32) (x3 : Int32) (x4 : Option Nat) (x6 : Int32) (s0 : Int32) (hx0 : (19, x0) ∈ ids) (hx4 : ∀ t, x4 = some t → (12, t) ∈ ids) {z : St} {H : Heap} {locs : List Loc} {ls : Array Slot} (hr : zRep D cy B ids A s.heap z H locs) (hl : lv_has ls 7 [(0, .ref (B 19 x0)), (2, .int x2), (3, .int x3), (4, va_rf (Option.map (B 12) x4)), (6, .int x6)]) (h : fX19_listen_105 N K59 x0 x2 x3 x4 x6 s0 z = some (r, z')) : W p l e rmX19_listen s m args below meth c H locs 0 0 Q (F0 m 105 ls [.int s0]) := by
  unfold fX19_listen_105 at h
  refine lv_istore (lv' := [(5, .int s0), (0, .ref (B 19 x0)), (2, .int x2), (3, .int x3), (4, va_rf (Option.map (B 12) x4)), (6, .int x6)]) F.1 F.2.1 dX19_listen_105 hl (by decide) (by simp only [List.filter, zrf_cat]; rfl) (fun ls hl => ?_)
  obtain ⟨v1, ev1⟩ : ∃ y : Int32, y = (x6 + 1) := ⟨_, rfl⟩
  replace h := zl_sub ev1 h
  refine lv_iinc (v := v1) (lv' := [(6, .int v1), (5, .int s0), (0, .ref (B 19 x0)), (2, .int x2), (3, .int x3), (4, va_rf (Option.map (B 12) x4))]) F.1 F.2.1 dX19_listen_107 hl (k := 5) rfl (by rw [ev1]; rfl) (by decide) rfl (fun ls hl => ?_)
  refine lv_goto (tgt := 59) F.1 F.2.1 dX19_listen_110 (by decide) ?_
  exact hK59 x0 x2 x3 x4 s0 v1 hx0 hx4 hr (lv_sub hl [2, 3, 4, 5, 1, 0] rfl) h
def fX19_listen_100 (N : Nat) (K59 : Nat → Int32 → Int32 → Option Nat → Int32 → Int32 → St → Option (Int32 × St)) (x0 : Nat) (x2 : Int32) (x3 : Int32) (x4 : Option Nat) (x6 : Int32) (z : St) : Option (Int32 × St) := fX19_listen_105 N K59 x0 x2 x3 x4 x6 (1 : Int32) z
set_option maxHeartbeats 4000000 in
set_option maxRecDepth 100000 in
theorem bX19_listen_100 (hst : zSt B ids) (F : zFx p m c cX19_listen 7 s args RX19 D cy B ids A) (hA : ∀ q : Nat, s.heap.size ≤ q → A q) {r : Int32} {z' : St} (E : zEnd p l e rmX19_listen s m args below meth c cX19_listen D cy B ids A Q (some (.int r)) z' .ireturn True) {N : Nat} {K59 : Nat → Int32 → Int32 → Option Nat → Int32 → Int32 → St → Option (Int32 × St)} (hK59 : ∀ (x0 : Nat) (x2 : Int32) (x3 : Int32) (x4 : Option Nat) (x5 : Int32) (x6 : Int32) (hx0 : (19, x0) ∈ ids) (hx4 : ∀ t, x4 = some t → (12, t) ∈ ids) {z : St} {H : Heap} {locs : List Loc} {ls : Array Slot} (hr : zRep D cy B ids A s.heap z H locs) (hl : lv_has ls 7 [(0, .ref (B 19 x0)), (2, .int x2), (3, .int x3), (4, va_rf (Option.map (B 12) x4)), (5, .int x5), (6, .int x6)]), K59 x0 x2 x3 x4 x5 x6 z = some (r, z') → W p l e rmX19_listen s m args below meth c H locs 0 0 Q (F0 m 59 ls [])) (x0 : Nat) (x2 : Int32) (x3 : Int32) (x4 : Option Nat) (x6 : Int32) (hx0 : (19, x0) ∈ ids) (hx4 : ∀ t, x4 = some t → (12, t) ∈ ids) {z : St} {H : Heap} {locs : List Loc} {ls : Array Slot} (hr : zRep D cy B ids A s.heap z H locs) (hl : lv_has ls 7 [(0, .ref (B 19 x0)), (2, .int x2), (3, .int x3), (4, va_rf (Option.map (B 12) x4)), (6, .int x6)]) (h : fX19_listen_100 N K59 x0 x2 x3 x4 x6 z = some (r, z')) : W p l e rmX19_listen s m args below meth c H locs 0 0 Q (F0 m 100 ls []) := by
  unfold fX19_listen_100 at h
  refine lv_iconst (v := (1 : Int32)) F.1 F.2.1 dX19_listen_100 (by decide) ?_
  refine lv_goto (tgt := 105) F.1 F.2.1 dX19_listen_101 (by decide) ?_
  exact bX19_listen_105 hst F hA E hK59 x0 x2 x3 x4 x6 (1 : Int32) hx0 hx4 hr (lv_sub hl [0, 1, 2, 3, 4] rfl) h
def fX19_listen_104 (N : Nat) (K59 : Nat → Int32 → Int32 → Option Nat → Int32 → Int32 → St → Option (Int32 × St)) (x0 : Nat) (x2 : Int32) (x3 : Int32) (x4 : Nat) (x6 : Int32) (z : St) : Option (Int32 × St) := fX19_listen_105 N K59 x0 x2 x3 (some x4) x6 (0 : Int32) z
set_option maxHeartbeats 4000000 in
set_option maxRecDepth 100000 in
theorem bX19_listen_104 (hst : zSt B ids) (F : zFx p m c cX19_listen 7 s args RX19 D cy B ids A) (hA : ∀ q : Nat, s.heap.size ≤ q → A q) {r : Int32} {z' : St} (E : zEnd p l e rmX19_listen s m args below meth c cX19_listen D cy B ids A Q (some (.int r)) z' .ireturn True) {N : Nat} {K59 : Nat → Int32 → Int32 → Option Nat → Int32 → Int32 → St → Option (Int32 × St)} (hK59 : ∀ (x0 : Nat) (x2 : Int32) (x3 : Int32) (x4 : Option Nat) (x5 : Int32) (x6 : Int32) (hx0 : (19, x0) ∈ ids) (hx4 : ∀ t, x4 = some t → (12, t) ∈ ids) {z : St} {H : Heap} {locs : List Loc} {ls : Array Slot} (hr : zRep D cy B ids A s.heap z H locs) (hl : lv_has ls 7 [(0, .ref (B 19 x0)), (2, .int x2), (3, .int x3), (4, va_rf (Option.map (B 12) x4)), (5, .int x5), (6, .int x6)]), K59 x0 x2 x3 x4 x5 x6 z = some (r, z') → W p l e rmX19_listen s m args below meth c H locs 0 0 Q (F0 m 59 ls [])) (x0 : Nat) (x2 : Int32) (x3 : Int32) (x4 : Nat) (x6 : Int32) (hx0 : (19, x0) ∈ ids) (hx4 : (12, x4) ∈ ids) {z : St} {H : Heap} {locs : List Loc} {ls : Array Slot} (hr : zRep D cy B ids A s.heap z H locs) (hl : lv_has ls 7 [(0, .ref (B 19 x0)), (2, .int x2), (3, .int x3), (4, .ref (B 12 x4)), (6, .int x6)]) (h : fX19_listen_104 N K59 x0 x2 x3 x4 x6 z = some (r, z')) : W p l e rmX19_listen s m args below meth c H locs 0 0 Q (F0 m 104 ls []) := by
  unfold fX19_listen_104 at h
  refine lv_iconst (v := (0 : Int32)) F.1 F.2.1 dX19_listen_104 (by decide) ?_
  exact bX19_listen_105 hst F hA E hK59 x0 x2 x3 (some x4) x6 (0 : Int32) hx0 (zal_s hx4) hr (lv_sub hl [0, 1, 2, 3, 4] rfl) h
def fX19_listen_138 (N : Nat)  (x0 : Nat) (x2 : Int32) (x3 : Int32) (x4 : Nat) (x6 : Int32) (s0 : Nat) (s1 : Int32) (s2 : Int32) (z : St) : Option (Int32 × St) := zc (fX19_fails N s0 s1 s2 z) fun r1 z2 => if r1 = 0 then (zk x6 6 <| zl (zgQ z2 158 x4 (Int32.toNatClampNeg x6)) fun y7 => zd y7 fun a8 => zl (zsI z2 13 0 a8 (1 : Int32)) fun z9 => zk x6 6 <| zl (zgQ z9 158 x4 (Int32.toNatClampNeg x6)) fun y11 => zd y11 fun a12 => zl (zsI z9 13 1 a12 x2) fun z13 => zk x6 6 <| zl (zgQ z13 158 x4 (Int32.toNatClampNeg x6)) fun y15 => zd y15 fun a16 => zl (zsI z13 13 2 a16 x3) fun z17 => zc (fX19_stir N x0 z17) fun _ z19 => some (x6, z19)) else (some ((0 : Int32), z2))
set_option maxHeartbeats 4000000 in
set_option maxRecDepth 100000 in
theorem bX19_listen_138 (hst : zSt B ids) (F : zFx p m c cX19_listen 7 s args RX19 D cy B ids A) (hA : ∀ q : Nat, s.heap.size ≤ q → A q) {r : Int32} {z' : St} (E : zEnd p l e rmX19_listen s m args below meth c cX19_listen D cy B ids A Q (some (.int r)) z' .ireturn True) {N : Nat}  (x0 : Nat) (x2 : Int32) (x3 : Int32) (x4 : Nat) (x6 : Int32) (s0 : Nat) (s1 : Int32) (s2 : Int32) (hx0 : (19, x0) ∈ ids) (hx4 : (12, x4) ∈ ids) (hs0 : (19, s0) ∈ ids) {z : St} {H : Heap} {locs : List Loc} {ls : Array Slot} (hr : zRep D cy B ids A s.heap z H locs) (hl : lv_has ls 7 [(0, .ref (B 19 x0)), (2, .int x2), (3, .int x3), (4, .ref (B 12 x4)), (6, .int x6)]) (h : fX19_listen_138 N x0 x2 x3 x4 x6 s0 s1 s2 z = some (r, z')) : W p l e rmX19_listen s m args below meth c H locs 0 0 Q (F0 m 138 ls [.int s2, .int s1, .ref (B 19 s0)]) := by
  unfold fX19_listen_138 at h
  replace h := zc_some h
  obtain ⟨r1, z2, hc3, h⟩ := h
  refine zr_calli (zrun_V (As := [.int s1, .int s2]) (rest := []) zq_2402 zq_2404 zs_X19_fails zq_2405 zq_4 hdX19_fails (by decide) (T := TX19) (N := 32) rfl (okX19_fails l D cy B ids hst N s0 hs0 s1  s2  hr.2.2 hc3) F hr hs0 hl.1 rfl (by decide) dX19_listen_138 rfl rfl hroX19_listen_X19_fails ⟨Nat.zero_le _, Nat.zero_le _⟩) F hA hr (fun H locs hw4 hr => ?_)
  clear hc3
  refine lv_if_eq (tgt := 146) F.1 F.2.1 dX19_listen_141 (by decide) (fun c5 => ?_) (fun c5 => ?_)
  · replace h := zi_t c5 h
    refine lv_aload F.1 F.2.1 dX19_listen_146 (lv_at hl 3 rfl) ?_
    refine gf19_340 F hx4 hr dX19_listen_148 ?_
    refine lv_iload F.1 F.2.1 dX19_listen_151 (lv_at hl 4 rfl) ?_
    replace h := zk_some h
    obtain ⟨c6, h⟩ := h
    refine zr_aaldv (k := 158) (by decide) rfl rfl (zlen_d (by decide)) F (zal_a F hx4 (j := 28) rfl) hr dX19_listen_153 c6 (fun y7 ey7 => ?_)
    replace h := zl_sub ey7 h
    have hy7 := zal_q hr (zal_a F hx4 (j := 28) rfl) rfl ey7
    clear ey7
    refine lv_iconst (v := (1 : Int32)) F.1 F.2.1 dX19_listen_154 (by decide) ?_
    replace h := zd_some h
    obtain ⟨a8, rfl, h⟩ := h
    refine pf19_747 F (hy7 _ rfl) hr dX19_listen_155 (1 : Int32) (by decide) (fun H locs z9 ez9 hr => ?_)
    replace h := zl_sub ez9 h
    clear ez9
    refine lv_aload F.1 F.2.1 dX19_listen_158 (lv_at hl 3 rfl) ?_
    refine gf19_340 F hx4 hr dX19_listen_160 ?_
    refine lv_iload F.1 F.2.1 dX19_listen_163 (lv_at hl 4 rfl) ?_
    replace h := zk_some h
    obtain ⟨c10, h⟩ := h
    refine zr_aaldv (k := 158) (by decide) rfl rfl (zlen_d (by decide)) F (zal_a F hx4 (j := 28) rfl) hr dX19_listen_165 c10 (fun y11 ey11 => ?_)
    replace h := zl_sub ey11 h
    have hy11 := zal_q hr (zal_a F hx4 (j := 28) rfl) rfl ey11
    clear ey11
    refine lv_iload_n F.1 F.2.1 dX19_listen_166 rfl (lv_at hl 1 rfl) ?_
    replace h := zd_some h
    obtain ⟨a12, rfl, h⟩ := h
    refine pf19_783 F (hy11 _ rfl) hr dX19_listen_167 x2 (fun H locs z13 ez13 hr => ?_)
    replace h := zl_sub ez13 h
    clear ez13
    refine lv_aload F.1 F.2.1 dX19_listen_170 (lv_at hl 3 rfl) ?_
    refine gf19_340 F hx4 hr dX19_listen_172 ?_
    refine lv_iload F.1 F.2.1 dX19_listen_175 (lv_at hl 4 rfl) ?_
    replace h := zk_some h
    obtain ⟨c14, h⟩ := h
    refine zr_aaldv (k := 158) (by decide) rfl rfl (zlen_d (by decide)) F (zal_a F hx4 (j := 28) rfl) hr dX19_listen_177 c14 (fun y15 ey15 => ?_)
    replace h := zl_sub ey15 h
    have hy15 := zal_q hr (zal_a F hx4 (j := 28) rfl) rfl ey15
    clear ey15
    refine lv_iload_n F.1 F.2.1 dX19_listen_178 rfl (lv_at hl 2 rfl) ?_
    replace h := zd_some h
    obtain ⟨a16, rfl, h⟩ := h
    refine pf19_794 F (hy15 _ rfl) hr dX19_listen_179 x3 (fun H locs z17 ez17 hr => ?_)
    replace h := zl_sub ez17 h
    clear ez17
    refine lv_aload_n F.1 F.2.1 dX19_listen_182 rfl (lv_at hl 0 rfl) ?_
    replace h := zc_some h
    obtain ⟨r18, z19, hc20, h⟩ := h
    refine zr_callv (zrun_V (As := []) (rest := []) zq_2394 zq_2396 zs_X19_stir zq_2397 zq_4 hdX19_stir (by decide) (T := TX19) (N := 32) rfl (okX19_stir l D cy B ids hst N x0 hx0 hr.2.2 hc20) F hr hx0 hl.1 rfl (by decide) dX19_listen_183 rfl rfl hroX19_listen_X19_stir ⟨Nat.zero_le _, Nat.zero_le _⟩) F hA hr (fun H locs hw21 hr => ?_)
    clear hc20
    refine lv_iload F.1 F.2.1 dX19_listen_186 (lv_at hl 4 rfl) ?_
    obtain ⟨rfl, rfl⟩ := zret h
    exact E _ _ _ _ dX19_listen_188 trivial hr
  · replace h := zi_f c5 h
    refine lv_iconst (v := (0 : Int32)) F.1 F.2.1 dX19_listen_144 (by decide) ?_
    obtain ⟨rfl, rfl⟩ := zret h
    exact E _ _ _ _ dX19_listen_145 trivial hr
def fX19_listen_133 (N : Nat)  (x0 : Nat) (x2 : Int32) (x3 : Int32) (x4 : Nat) (x6 : Int32) (s0 : Nat) (s1 : Int32) (z : St) : Option (Int32 × St) := fX19_listen_138 N x0 x2 x3 x4 x6 s0 s1 (1 : Int32) z
set_option maxHeartbeats 4000000 in
set_option maxRecDepth 100000 in
theorem bX19_listen_133 (hst : zSt B ids) (F : zFx p m c cX19_listen 7 s args RX19 D cy B ids A) (hA : ∀ q : Nat, s.heap.size ≤ q → A q) {r : Int32} {z' : St} (E : zEnd p l e rmX19_listen s m args below meth c cX19_listen D cy B ids A Q (some (.int r)) z' .ireturn True) {N : Nat}  (x0 : Nat) (x2 : Int32) (x3 : Int32) (x4 : Nat) (x6 : Int32) (s0 : Nat) (s1 : Int32) (hx0 : (19, x0) ∈ ids) (hx4 : (12, x4) ∈ ids) (hs0 : (19, s0) ∈ ids) {z : St} {H : Heap} {locs : List Loc} {ls : Array Slot} (hr : zRep D cy B ids A s.heap z H locs) (hl : lv_has ls 7 [(0, .ref (B 19 x0)), (2, .int x2), (3, .int x3), (4, .ref (B 12 x4)), (6, .int x6)]) (h : fX19_listen_133 N x0 x2 x3 x4 x6 s0 s1 z = some (r, z')) : W p l e rmX19_listen s m args below meth c H locs 0 0 Q (F0 m 133 ls [.int s1, .ref (B 19 s0)]) := by
  unfold fX19_listen_133 at h
  refine lv_iconst (v := (1 : Int32)) F.1 F.2.1 dX19_listen_133 (by decide) ?_
  refine lv_goto (tgt := 138) F.1 F.2.1 dX19_listen_134 (by decide) ?_
  exact bX19_listen_138 hst F hA E  x0 x2 x3 x4 x6 s0 s1 (1 : Int32) hx0 hx4 hs0 hr (lv_sub hl [0, 1, 2, 3, 4] rfl) h
def fX19_listen_59b (N : Nat) (K59 : Nat → Int32 → Int32 → Option Nat → Int32 → Int32 → St → Option (Int32 × St)) (x0 : Nat) (x2 : Int32) (x3 : Int32) (x4 : Option Nat) (x5 : Int32) (x6 : Int32) (z : St) : Option (Int32 × St) := if (6 : Int32) ≤ x6 then (zd x4 fun a2 => zc (fX19_leastFree N a2 z) fun r3 z4 => if r3 = (-1 : Int32) then (fX19_listen_133 N x0 x2 x3 a2 r3 x0 (0 : Int32) z4) else (if x5 = 0 then (fX19_listen_138 N x0 x2 x3 a2 r3 x0 (0 : Int32) (0 : Int32) z4) else (fX19_listen_133 N x0 x2 x3 a2 r3 x0 (0 : Int32) z4))) else (if ¬ x5 = 0 then (fX19_listen_100 N K59 x0 x2 x3 x4 x6 z) else (zd x4 fun a10 => zk x6 6 <| zl (zgQ z 158 a10 (Int32.toNatClampNeg x6)) fun y12 => zd y12 fun a13 => if (zgI z 13 0 a13) = 0 then (fX19_listen_104 N K59 x0 x2 x3 a10 x6 z) else (zk x6 6 <| zl (zgQ z 158 a10 (Int32.toNatClampNeg x6)) fun y16 => zd y16 fun a17 => if ¬ (zgI z 13 1 a17) = x2 then (fX19_listen_104 N K59 x0 x2 x3 a10 x6 z) else (fX19_listen_100 N K59 x0 x2 x3 (some a10) x6 z))))
def fX19_listen_59 (N : Nat)  : Nat → Nat → Int32 → Int32 → Option Nat → Int32 → Int32 → St → Option (Int32 × St)
  | 0 => fun _ _ _ _ _ _ _ => none
  | n + 1 => fX19_listen_59b N (fX19_listen_59 N  n)
set_option maxHeartbeats 4000000 in
set_option maxRecDepth 100000 in
theorem bX19_listen_59 (hst : zSt B ids) (F : zFx p m c cX19_listen 7 s args RX19 D cy B ids A) (hA : ∀ q : Nat, s.heap.size ≤ q → A q) {r : Int32} {z' : St} (E : zEnd p l e rmX19_listen s m args below meth c cX19_listen D cy B ids A Q (some (.int r)) z' .ireturn True) {N : Nat} {K59 : Nat → Int32 → Int32 → Option Nat → Int32 → Int32 → St → Option (Int32 × St)} (hK59 : ∀ (x0 : Nat) (x2 : Int32) (x3 : Int32) (x4 : Option Nat) (x5 : Int32) (x6 : Int32) (hx0 : (19, x0) ∈ ids) (hx4 : ∀ t, x4 = some t → (12, t) ∈ ids) {z : St} {H : Heap} {locs : List Loc} {ls : Array Slot} (hr : zRep D cy B ids A s.heap z H locs) (hl : lv_has ls 7 [(0, .ref (B 19 x0)), (2, .int x2), (3, .int x3), (4, va_rf (Option.map (B 12) x4)), (5, .int x5), (6, .int x6)]), K59 x0 x2 x3 x4 x5 x6 z = some (r, z') → W p l e rmX19_listen s m args below meth c H locs 0 0 Q (F0 m 59 ls [])) (x0 : Nat) (x2 : Int32) (x3 : Int32) (x4 : Option Nat) (x5 : Int32) (x6 : Int32) (hx0 : (19, x0) ∈ ids) (hx4 : ∀ t, x4 = some t → (12, t) ∈ ids) {z : St} {H : Heap} {locs : List Loc} {ls : Array Slot} (hr : zRep D cy B ids A s.heap z H locs) (hl : lv_has ls 7 [(0, .ref (B 19 x0)), (2, .int x2), (3, .int x3), (4, va_rf (Option.map (B 12) x4)), (5, .int x5), (6, .int x6)]) (h : fX19_listen_59b N K59 x0 x2 x3 x4 x5 x6 z = some (r, z')) : W p l e rmX19_listen s m args below meth c H locs 0 0 Q (F0 m 59 ls []) := by
  unfold fX19_listen_59b at h
  refine lv_iload F.1 F.2.1 dX19_listen_59 (lv_at hl 5 rfl) ?_
  refine lv_bipush (v := (6 : Int32)) F.1 F.2.1 dX19_listen_61 (by decide) ?_
  refine lv_icmp_ge (tgt := 113) F.1 F.2.1 dX19_listen_63 (by decide) (fun c1 => ?_) (fun c1 => ?_)
  · replace h := zi_t c1 h
    refine zr_aload F.1 F.2.1 dX19_listen_113 (lv_at hl 3 rfl) ?_
    replace h := zd_some h
    obtain ⟨a2, rfl, h⟩ := h
    replace h := zc_some h
    obtain ⟨r3, z4, hc5, h⟩ := h
    refine zr_calli (zrun_S (As := [.ref (B 12 a2)]) (rest := []) zq_2737 zq_2738 zq_2739 zq_4 hdX19_leastFree (okX19_leastFree l D cy B ids hst N a2 (hx4 _ rfl) hr.2.2 hc5) F hr hl.1 rfl (by decide) dX19_listen_115 rfl rfl hroX19_listen_X19_leastFree ⟨Nat.zero_le _, Nat.zero_le _⟩) F hA hr (fun H locs hw6 hr => ?_)
    clear hc5
    refine lv_istore (lv' := [(6, .int r3), (0, .ref (B 19 x0)), (2, .int x2), (3, .int x3), (4, .ref (B 12 a2)), (5, .int x5)]) F.1 F.2.1 dX19_listen_118 hl (by decide) rfl (fun ls hl => ?_)
    refine lv_aload_n F.1 F.2.1 dX19_listen_120 rfl (lv_at hl 1 rfl) ?_
    refine lv_iconst (v := (0 : Int32)) F.1 F.2.1 dX19_listen_121 (by decide) ?_
    refine lv_iload F.1 F.2.1 dX19_listen_122 (lv_at hl 0 rfl) ?_
    refine lv_iconst (v := (-1 : Int32)) F.1 F.2.1 dX19_listen_124 (by decide) ?_
    refine lv_icmp_eq (tgt := 133) F.1 F.2.1 dX19_listen_125 (by decide) (fun c7 => ?_) (fun c7 => ?_)
    · replace h := zi_t c7 h
      exact bX19_listen_133 hst F hA E  x0 x2 x3 a2 r3 x0 (0 : Int32) hx0 (hx4 _ rfl) hx0 hr (lv_sub hl [1, 2, 3, 4, 0] rfl) h
    · replace h := zi_f c7 h
      refine lv_iload F.1 F.2.1 dX19_listen_128 (lv_at hl 5 rfl) ?_
      refine lv_if_eq (tgt := 137) F.1 F.2.1 dX19_listen_130 (by decide) (fun c8 => ?_) (fun c8 => ?_)
      · replace h := zi_t c8 h
        refine lv_iconst (v := (0 : Int32)) F.1 F.2.1 dX19_listen_137 (by decide) ?_
        exact bX19_listen_138 hst F hA E  x0 x2 x3 a2 r3 x0 (0 : Int32) (0 : Int32) hx0 (hx4 _ rfl) hx0 hr (lv_sub hl [1, 2, 3, 4, 0] rfl) h
      · replace h := zi_f c8 h
        exact bX19_listen_133 hst F hA E  x0 x2 x3 a2 r3 x0 (0 : Int32) hx0 (hx4 _ rfl) hx0 hr (lv_sub hl [1, 2, 3, 4, 0] rfl) h
  · replace h := zi_f c1 h
    refine lv_iload F.1 F.2.1 dX19_listen_66 (lv_at hl 4 rfl) ?_
    refine lv_if_ne (tgt := 100) F.1 F.2.1 dX19_listen_68 (by decide) (fun c9 => ?_) (fun c9 => ?_)
    · replace h := zi_t c9 h
      exact bX19_listen_100 hst F hA E hK59 x0 x2 x3 x4 x6 hx0 hx4 hr (lv_sub hl [0, 1, 2, 3, 5] rfl) h
    · replace h := zi_f (fun q => q c9) h
      refine zr_aload F.1 F.2.1 dX19_listen_71 (lv_at hl 3 rfl) ?_
      replace h := zd_some h
      obtain ⟨a10, rfl, h⟩ := h
      refine gf19_340 F (hx4 _ rfl) hr dX19_listen_73 ?_
      refine lv_iload F.1 F.2.1 dX19_listen_76 (lv_at hl 5 rfl) ?_
      replace h := zk_some h
      obtain ⟨c11, h⟩ := h
      refine zr_aaldv (k := 158) (by decide) rfl rfl (zlen_d (by decide)) F (zal_a F (hx4 _ rfl) (j := 28) rfl) hr dX19_listen_78 c11 (fun y12 ey12 => ?_)
      replace h := zl_sub ey12 h
      have hy12 := zal_q hr (zal_a F (hx4 _ rfl) (j := 28) rfl) rfl ey12
      clear ey12
      replace h := zd_some h
      obtain ⟨a13, rfl, h⟩ := h
      refine gf19_747 F (hy12 _ rfl) hr dX19_listen_79 ?_
      refine lv_if_eq (tgt := 104) F.1 F.2.1 dX19_listen_82 (by decide) (fun c14 => ?_) (fun c14 => ?_)
      · replace h := zi_t c14 h
        exact bX19_listen_104 hst F hA E hK59 x0 x2 x3 a10 x6 hx0 (hx4 _ rfl) hr (lv_sub hl [0, 1, 2, 3, 5] rfl) h
      · replace h := zi_f c14 h
        refine lv_aload F.1 F.2.1 dX19_listen_85 (lv_at hl 3 rfl) ?_
        refine gf19_340 F (hx4 _ rfl) hr dX19_listen_87 ?_
        refine lv_iload F.1 F.2.1 dX19_listen_90 (lv_at hl 5 rfl) ?_
        replace h := zk_some h
        obtain ⟨c15, h⟩ := h
        refine zr_aaldv (k := 158) (by decide) rfl rfl (zlen_d (by decide)) F (zal_a F (hx4 _ rfl) (j := 28) rfl) hr dX19_listen_92 c15 (fun y16 ey16 => ?_)
        replace h := zl_sub ey16 h
        have hy16 := zal_q hr (zal_a F (hx4 _ rfl) (j := 28) rfl) rfl ey16
        clear ey16
        replace h := zd_some h
        obtain ⟨a17, rfl, h⟩ := h
        refine gf19_783 F (hy16 _ rfl) hr dX19_listen_93 ?_
        refine lv_iload_n F.1 F.2.1 dX19_listen_96 rfl (lv_at hl 1 rfl) ?_
        refine lv_icmp_ne (tgt := 104) F.1 F.2.1 dX19_listen_97 (by decide) (fun c18 => ?_) (fun c18 => ?_)
        · replace h := zi_t c18 h
          exact bX19_listen_104 hst F hA E hK59 x0 x2 x3 a10 x6 hx0 (hx4 _ rfl) hr (lv_sub hl [0, 1, 2, 3, 5] rfl) h
        · replace h := zi_f (fun q => q c18) h
          exact bX19_listen_100 hst F hA E hK59 x0 x2 x3 (some a10) x6 hx0 (zal_s (hx4 _ rfl)) hr (lv_sub hl [0, 1, 2, 3, 5] rfl) h
theorem lX19_listen_59 (hst : zSt B ids) (F : zFx p m c cX19_listen 7 s args RX19 D cy B ids A) (hA : ∀ q : Nat, s.heap.size ≤ q → A q) {r : Int32} {z' : St} (E : zEnd p l e rmX19_listen s m args below meth c cX19_listen D cy B ids A Q (some (.int r)) z' .ireturn True) {N : Nat}  : ∀ (n : Nat) (x0 : Nat) (x2 : Int32) (x3 : Int32) (x4 : Option Nat) (x5 : Int32) (x6 : Int32) (hx0 : (19, x0) ∈ ids) (hx4 : ∀ t, x4 = some t → (12, t) ∈ ids) {z : St} {H : Heap} {locs : List Loc} {ls : Array Slot} (hr : zRep D cy B ids A s.heap z H locs) (hl : lv_has ls 7 [(0, .ref (B 19 x0)), (2, .int x2), (3, .int x3), (4, va_rf (Option.map (B 12) x4)), (5, .int x5), (6, .int x6)]), fX19_listen_59 N  n x0 x2 x3 x4 x5 x6 z = some (r, z') → W p l e rmX19_listen s m args below meth c H locs 0 0 Q (F0 m 59 ls []) := by
  intro n
  induction n with
  | zero => intro x0 x2 x3 x4 x5 x6 hx0 hx4 z H locs ls hr hl h; cases h
  | succ n ih => intro x0 x2 x3 x4 x5 x6 hx0 hx4 z H locs ls hr hl h; exact bX19_listen_59 hst F hA E ih x0 x2 x3 x4 x5 x6 hx0 hx4 hr hl h
def fX19_listen_36 (N : Nat)  (x0 : Nat) (x1 : Int32) (x2 : Int32) (x3 : Int32) (s0 : Nat) (s1 : Int32) (z : St) : Option (Int32 × St) := zc (fX19_fails N s0 s1 (0 : Int32) z) fun r1 z2 => if r1 = 0 then (zk x1 16 <| zl (zgQ z2 186 x0 (Int32.toNatClampNeg x1)) fun y7 => fX19_listen_59 N N x0 x2 x3 y7 (0 : Int32) (0 : Int32) z2) else (some ((0 : Int32), z2))
set_option maxHeartbeats 4000000 in
set_option maxRecDepth 100000 in
theorem bX19_listen_36 (hst : zSt B ids) (F : zFx p m c cX19_listen 7 s args RX19 D cy B ids A) (hA : ∀ q : Nat, s.heap.size ≤ q → A q) {r : Int32} {z' : St} (E : zEnd p l e rmX19_listen s m args below meth c cX19_listen D cy B ids A Q (some (.int r)) z' .ireturn True) {N : Nat}  (x0 : Nat) (x1 : Int32) (x2 : Int32) (x3 : Int32) (s0 : Nat) (s1 : Int32) (hx0 : (19, x0) ∈ ids) (hs0 : (19, s0) ∈ ids) {z : St} {H : Heap} {locs : List Loc} {ls : Array Slot} (hr : zRep D cy B ids A s.heap z H locs) (hl : lv_has ls 7 [(0, .ref (B 19 x0)), (1, .int x1), (2, .int x2), (3, .int x3)]) (h : fX19_listen_36 N x0 x1 x2 x3 s0 s1 z = some (r, z')) : W p l e rmX19_listen s m args below meth c H locs 0 0 Q (F0 m 36 ls [.int s1, .ref (B 19 s0)]) := by
  unfold fX19_listen_36 at h
  refine lv_iconst (v := (0 : Int32)) F.1 F.2.1 dX19_listen_36 (by decide) ?_
  replace h := zc_some h
  obtain ⟨r1, z2, hc3, h⟩ := h
  refine zr_calli (zrun_V (As := [.int s1, .int (0 : Int32)]) (rest := []) zq_2402 zq_2404 zs_X19_fails zq_2405 zq_4 hdX19_fails (by decide) (T := TX19) (N := 32) rfl (okX19_fails l D cy B ids hst N s0 hs0 s1  (0 : Int32)  hr.2.2 hc3) F hr hs0 hl.1 rfl (by decide) dX19_listen_37 rfl rfl hroX19_listen_X19_fails ⟨Nat.zero_le _, Nat.zero_le _⟩) F hA hr (fun H locs hw4 hr => ?_)
  clear hc3
  refine lv_if_eq (tgt := 45) F.1 F.2.1 dX19_listen_40 (by decide) (fun c5 => ?_) (fun c5 => ?_)
  · replace h := zi_t c5 h
    refine lv_aload_n F.1 F.2.1 dX19_listen_45 rfl (lv_at hl 0 rfl) ?_
    refine gf19_114 F hx0 hr dX19_listen_46 ?_
    refine lv_iload_n F.1 F.2.1 dX19_listen_49 rfl (lv_at hl 1 rfl) ?_
    replace h := zk_some h
    obtain ⟨c6, h⟩ := h
    refine zr_aaldv (k := 186) (by decide) rfl rfl (zlen_d (by decide)) F (zal_a F hx0 (j := 18) rfl) hr dX19_listen_50 c6 (fun y7 ey7 => ?_)
    replace h := zl_sub ey7 h
    have hy7 := zal_q hr (zal_a F hx0 (j := 18) rfl) rfl ey7
    clear ey7
    refine zr_astore (lv' := [(4, va_rf (Option.map (B 12) y7)), (0, .ref (B 19 x0)), (1, .int x1), (2, .int x2), (3, .int x3)]) F.1 F.2.1 dX19_listen_51 hl (by decide) rfl (fun ls hl => ?_)
    refine lv_iconst (v := (0 : Int32)) F.1 F.2.1 dX19_listen_53 (by decide) ?_
    refine lv_istore (lv' := [(5, .int (0 : Int32)), (4, va_rf (Option.map (B 12) y7)), (0, .ref (B 19 x0)), (1, .int x1), (2, .int x2), (3, .int x3)]) F.1 F.2.1 dX19_listen_54 hl (by decide) (by simp only [List.filter, zrf_cat]; rfl) (fun ls hl => ?_)
    refine lv_iconst (v := (0 : Int32)) F.1 F.2.1 dX19_listen_56 (by decide) ?_
    refine lv_istore (lv' := [(6, .int (0 : Int32)), (5, .int (0 : Int32)), (4, va_rf (Option.map (B 12) y7)), (0, .ref (B 19 x0)), (1, .int x1), (2, .int x2), (3, .int x3)]) F.1 F.2.1 dX19_listen_57 hl (by decide) rfl (fun ls hl => ?_)
    exact lX19_listen_59 hst F hA E  _ x0 x2 x3 y7 (0 : Int32) (0 : Int32) hx0 hy7 hr (lv_sub hl [3, 5, 6, 2, 1, 0] rfl) h
  · replace h := zi_f c5 h
    refine lv_iconst (v := (0 : Int32)) F.1 F.2.1 dX19_listen_43 (by decide) ?_
    obtain ⟨rfl, rfl⟩ := zret h
    exact E _ _ _ _ dX19_listen_44 trivial hr
def fX19_listen_31 (N : Nat)  (x0 : Nat) (x1 : Int32) (x2 : Int32) (x3 : Int32) (s0 : Nat) (z : St) : Option (Int32 × St) := fX19_listen_36 N x0 x1 x2 x3 s0 (1 : Int32) z
set_option maxHeartbeats 4000000 in
set_option maxRecDepth 100000 in
theorem bX19_listen_31 (hst : zSt B ids) (F : zFx p m c cX19_listen 7 s args RX19 D cy B ids A) (hA : ∀ q : Nat, s.heap.size ≤ q → A q) {r : Int32} {z' : St} (E : zEnd p l e rmX19_listen s m args below meth c cX19_listen D cy B ids A Q (some (.int r)) z' .ireturn True) {N : Nat}  (x0 : Nat) (x1 : Int32) (x2 : Int32) (x3 : Int32) (s0 : Nat) (hx0 : (19, x0) ∈ ids) (hs0 : (19, s0) ∈ ids) {z : St} {H : Heap} {locs : List Loc} {ls : Array Slot} (hr : zRep D cy B ids A s.heap z H locs) (hl : lv_has ls 7 [(0, .ref (B 19 x0)), (1, .int x1), (2, .int x2), (3, .int x3)]) (h : fX19_listen_31 N x0 x1 x2 x3 s0 z = some (r, z')) : W p l e rmX19_listen s m args below meth c H locs 0 0 Q (F0 m 31 ls [.ref (B 19 s0)]) := by
  unfold fX19_listen_31 at h
  refine lv_iconst (v := (1 : Int32)) F.1 F.2.1 dX19_listen_31 (by decide) ?_
  refine lv_goto (tgt := 36) F.1 F.2.1 dX19_listen_32 (by decide) ?_
  exact bX19_listen_36 hst F hA E  x0 x1 x2 x3 s0 (1 : Int32) hx0 hs0 hr (lv_sub hl [0, 1, 2, 3] rfl) h
def fX19_listen (N : Nat)  (x0 : Nat) (x1 : Int32) (x2 : Int32) (x3 : Int32) (z : St) : Option (Int32 × St) := zc (fX19_isHost N x0 x1 z) fun r1 z2 => if r1 = 0 then (fX19_listen_31 N x0 x1 x2 x3 x0 z2) else (if x2 < (1 : Int32) then (fX19_listen_31 N x0 x1 x2 x3 x0 z2) else (if (49999 : Int32) < x2 then (fX19_listen_31 N x0 x1 x2 x3 x0 z2) else (if x3 < (1 : Int32) then (fX19_listen_31 N x0 x1 x2 x3 x0 z2) else (if x3 ≤ (5 : Int32) then (fX19_listen_36 N x0 x1 x2 x3 x0 (0 : Int32) z2) else (fX19_listen_31 N x0 x1 x2 x3 x0 z2)))))
set_option maxHeartbeats 4000000 in
set_option maxRecDepth 100000 in
theorem bX19_listen_0 (hst : zSt B ids) (F : zFx p m c cX19_listen 7 s args RX19 D cy B ids A) (hA : ∀ q : Nat, s.heap.size ≤ q → A q) {r : Int32} {z' : St} (E : zEnd p l e rmX19_listen s m args below meth c cX19_listen D cy B ids A Q (some (.int r)) z' .ireturn True) {N : Nat}  (x0 : Nat) (x1 : Int32) (x2 : Int32) (x3 : Int32) (hx0 : (19, x0) ∈ ids) {z : St} {H : Heap} {locs : List Loc} {ls : Array Slot} (hr : zRep D cy B ids A s.heap z H locs) (hl : lv_has ls 7 [(0, .ref (B 19 x0)), (1, .int x1), (2, .int x2), (3, .int x3)]) (h : fX19_listen N x0 x1 x2 x3 z = some (r, z')) : W p l e rmX19_listen s m args below meth c H locs 0 0 Q (F0 m 0 ls []) := by
  unfold fX19_listen at h
  refine lv_aload_n F.1 F.2.1 dX19_listen_0 rfl (lv_at hl 0 rfl) ?_
  refine lv_aload_n F.1 F.2.1 dX19_listen_1 rfl (lv_at hl 0 rfl) ?_
  refine lv_iload_n F.1 F.2.1 dX19_listen_2 rfl (lv_at hl 1 rfl) ?_
  replace h := zc_some h
  obtain ⟨r1, z2, hc3, h⟩ := h
  refine zr_calli (zrun_V (As := [.int x1]) (rest := [.ref (B 19 x0)]) zq_2998 zq_3000 zs_X19_isHost zq_3001 zq_4 hdX19_isHost (by decide) (T := TX19) (N := 32) rfl (okX19_isHost l D cy B ids hst N x0 hx0 x1  hr.2.2 hc3) F hr hx0 hl.1 rfl (Nat.le_of_ble_eq_true rfl) dX19_listen_3 rfl rfl hroX19_listen_X19_isHost ⟨Nat.zero_le _, Nat.zero_le _⟩) F hA hr (fun H locs hw4 hr => ?_)
  clear hc3
  refine lv_if_eq (tgt := 31) F.1 F.2.1 dX19_listen_6 (by decide) (fun c5 => ?_) (fun c5 => ?_)
  · replace h := zi_t c5 h
    exact bX19_listen_31 hst F hA E  x0 x1 x2 x3 x0 hx0 hx0 hr (lv_sub hl [0, 1, 2, 3] rfl) h
  · replace h := zi_f c5 h
    refine lv_iload_n F.1 F.2.1 dX19_listen_9 rfl (lv_at hl 2 rfl) ?_
    refine lv_iconst (v := (1 : Int32)) F.1 F.2.1 dX19_listen_10 (by decide) ?_
    refine lv_icmp_lt (tgt := 31) F.1 F.2.1 dX19_listen_11 (by decide) (fun c6 => ?_) (fun c6 => ?_)
    · replace h := zi_t c6 h
      exact bX19_listen_31 hst F hA E  x0 x1 x2 x3 x0 hx0 hx0 hr (lv_sub hl [0, 1, 2, 3] rfl) h
    · replace h := zi_f c6 h
      refine lv_iload_n F.1 F.2.1 dX19_listen_14 rfl (lv_at hl 2 rfl) ?_
      refine lv_ldcw (v := (49999)) F.1 F.2.1 F.2.2.2.1 (F.2.2.2.2.1 _ zq_3002) dX19_listen_15 ?_
      refine lv_icmp_gt (tgt := 31) F.1 F.2.1 dX19_listen_18 (by decide) (fun c7 => ?_) (fun c7 => ?_)
      · replace h := zi_t c7 h
        exact bX19_listen_31 hst F hA E  x0 x1 x2 x3 x0 hx0 hx0 hr (lv_sub hl [0, 1, 2, 3] rfl) h
      · replace h := zi_f c7 h
        refine lv_iload_n F.1 F.2.1 dX19_listen_21 rfl (lv_at hl 3 rfl) ?_
        refine lv_iconst (v := (1 : Int32)) F.1 F.2.1 dX19_listen_22 (by decide) ?_
        refine lv_icmp_lt (tgt := 31) F.1 F.2.1 dX19_listen_23 (by decide) (fun c8 => ?_) (fun c8 => ?_)
        · replace h := zi_t c8 h
          exact bX19_listen_31 hst F hA E  x0 x1 x2 x3 x0 hx0 hx0 hr (lv_sub hl [0, 1, 2, 3] rfl) h
        · replace h := zi_f c8 h
          refine lv_iload_n F.1 F.2.1 dX19_listen_26 rfl (lv_at hl 3 rfl) ?_
          refine lv_iconst (v := (5 : Int32)) F.1 F.2.1 dX19_listen_27 (by decide) ?_
          refine lv_icmp_le (tgt := 35) F.1 F.2.1 dX19_listen_28 (by decide) (fun c9 => ?_) (fun c9 => ?_)
          · replace h := zi_t c9 h
            refine lv_iconst (v := (0 : Int32)) F.1 F.2.1 dX19_listen_35 (by decide) ?_
            exact bX19_listen_36 hst F hA E  x0 x1 x2 x3 x0 (0 : Int32) hx0 hx0 hr (lv_sub hl [0, 1, 2, 3] rfl) h
          · replace h := zi_f c9 h
            exact bX19_listen_31 hst F hA E  x0 x1 x2 x3 x0 hx0 hx0 hr (lv_sub hl [0, 1, 2, 3] rfl) h
end SX19_listen
set_option maxRecDepth 100000 in
theorem okX19_listen (l : Launch) (D : va_G) (cy : Nat → ClassId) (B : Nat → Nat → Nat) (ids : List (Nat × Nat)) (hst : zSt B ids) (N : Nat) (x0 : Nat) (hx0 : (19, x0) ∈ ids) (x1 : Int32) (x2 : Int32) (x3 : Int32) {z : St} {r : Int32} {z' : St} (hW : zWf ids z) (h : fX19_listen N x0 x1 x2 x3 z = some (r, z')) : zM l yX19_listen (zws yX19_listen cX19_listen 7 (some .int)) rmX19_listen D cy B ids [.ref (B 19 x0), .int x1, .int x2, .int x3] (some (.int r)) True z z' :=
  zM_of hst hW (by decide +kernel) (Nat.le_of_ble_eq_true rfl) (fun p e s m args below meth c A ls F hA hret hlocks hr hl => bX19_listen_0 hst F hA (zEnd_i F hret hlocks) x0 x1 x2 x3 hx0 hr hl h)
abbrev rmX19_open : Room := { frames := 3, cells := 0, slots := 0, locals := 68 }
theorem hdX19_open : yX19_open.cls ≠ "java/lang/invoke/MethodHandle" ∧ yX19_open.cls ≠ "java/lang/invoke/VarHandle" ∧ (parseMethodDescriptor yX19_open.desc).map (fun d => d.parameters.length) = some 3 := by decide +kernel
theorem hroX19_open_X19_fails : rmX19_fails.frames + 1 ≤ rmX19_open.frames ∧ 8 + (3 + 11) + rmX19_fails.locals ≤ rmX19_open.locals := by decide
theorem hroX19_open_X19_giveEnd : rmX19_giveEnd.frames + 1 ≤ rmX19_open.frames ∧ 8 + (7 + 11) + rmX19_giveEnd.locals ≤ rmX19_open.locals := by decide
theorem hroX19_open_X19_isHost : rmX19_isHost.frames + 1 ≤ rmX19_open.frames ∧ 8 + (2 + 11) + rmX19_isHost.locals ≤ rmX19_open.locals := by decide
theorem hroX19_open_X19_isOwn : rmX19_isOwn.frames + 1 ≤ rmX19_open.frames ∧ 8 + (4 + 11) + rmX19_isOwn.locals ≤ rmX19_open.locals := by decide
theorem hroX19_open_X19_leastFree : rmX19_leastFree.frames + 1 ≤ rmX19_open.frames ∧ 8 + (2 + 11) + rmX19_leastFree.locals ≤ rmX19_open.locals := by decide
theorem hroX19_open_X19_stir : rmX19_stir.frames + 1 ≤ rmX19_open.frames ∧ 8 + (1 + 11) + rmX19_stir.locals ≤ rmX19_open.locals := by decide
section SX19_open
variable {p : Program} {l : Launch} {e : Env} {s : State} {m : MethodId} {args : Array Value} {below : List Frame} {meth : Method} {c : Code} {Q : State → Prop} {D : va_G} {cy : Nat → ClassId} {B : Nat → Nat → Nat} {ids : List (Nat × Nat)} {A : Nat → Prop}
def fX19_open_96 (N : Nat)  (x0 : Nat) (x2 : Int32) (x3 : Int32) (x4 : Nat) (x5 : Int32) (s0 : Nat) (s1 : Int32) (s2 : Int32) (z : St) : Option (Int32 × St) := zc (fX19_fails N s0 s1 s2 z) fun r1 z2 => if r1 = 0 then (zk x5 6 <| zl (zgQ z2 158 x4 (Int32.toNatClampNeg x5)) fun y7 => zd y7 fun a8 => zc (fX19_giveEnd N x0 x4 a8 ((50000 : Int32) + (zgI z2 12 29 x4)) x2 x3 z2) fun _ z10 => zl (zsI z10 12 29 x4 ((zgI z10 12 29 x4) + (1 : Int32))) fun z13 => zk x5 6 <| zl (zgQ z13 158 x4 (Int32.toNatClampNeg x5)) fun y15 => zd y15 fun a16 => zl (zgR z13 13 4 a16) fun y17 => zd y17 fun a18 => zl (zsI z13 14 0 a18 (2 : Int32)) fun z19 => zl (zsI z19 14 7 a18 ((zgI z19 14 5 a18) + (1 : Int32))) fun z20 => zl (zsI z20 14 28 a18 (1 : Int32)) fun z21 => zc (fX19_stir N x0 z21) fun _ z23 => some (x5, z23)) else (some ((0 : Int32), z2))
set_option maxHeartbeats 4000000 in
set_option maxRecDepth 100000 in
theorem bX19_open_96 (hst : zSt B ids) (F : zFx p m c cX19_open 7 s args RX19 D cy B ids A) (hA : ∀ q : Nat, s.heap.size ≤ q → A q) {r : Int32} {z' : St} (E : zEnd p l e rmX19_open s m args below meth c cX19_open D cy B ids A Q (some (.int r)) z' .ireturn True) {N : Nat}  (x0 : Nat) (x2 : Int32) (x3 : Int32) (x4 : Nat) (x5 : Int32) (s0 : Nat) (s1 : Int32) (s2 : Int32) (hx0 : (19, x0) ∈ ids) (hx4 : (12, x4) ∈ ids) (hs0 : (19, s0) ∈ ids) {z : St} {H : Heap} {locs : List Loc} {ls : Array Slot} (hr : zRep D cy B ids A s.heap z H locs) (hl : lv_has ls 7 [(0, .ref (B 19 x0)), (2, .int x2), (3, .int x3), (4, .ref (B 12 x4)), (5, .int x5)]) (h : fX19_open_96 N x0 x2 x3 x4 x5 s0 s1 s2 z = some (r, z')) : W p l e rmX19_open s m args below meth c H locs 0 0 Q (F0 m 96 ls [.int s2, .int s1, .ref (B 19 s0)]) := by
  unfold fX19_open_96 at h
  replace h := zc_some h
  obtain ⟨r1, z2, hc3, h⟩ := h
  refine zr_calli (zrun_V (As := [.int s1, .int s2]) (rest := []) zq_2402 zq_2404 zs_X19_fails zq_2405 zq_4 hdX19_fails (by decide) (T := TX19) (N := 32) rfl (okX19_fails l D cy B ids hst N s0 hs0 s1  s2  hr.2.2 hc3) F hr hs0 hl.1 rfl (by decide) dX19_open_96 rfl rfl hroX19_open_X19_fails ⟨Nat.zero_le _, Nat.zero_le _⟩) F hA hr (fun H locs hw4 hr => ?_)
  clear hc3
  refine lv_if_eq (tgt := 104) F.1 F.2.1 dX19_open_99 (by decide) (fun c5 => ?_) (fun c5 => ?_)
  · replace h := zi_t c5 h
    refine lv_aload_n F.1 F.2.1 dX19_open_104 rfl (lv_at hl 0 rfl) ?_
    refine lv_aload F.1 F.2.1 dX19_open_105 (lv_at hl 3 rfl) ?_
    refine lv_aload F.1 F.2.1 dX19_open_107 (lv_at hl 3 rfl) ?_
    refine gf19_340 F hx4 hr dX19_open_109 ?_
    refine lv_iload F.1 F.2.1 dX19_open_112 (lv_at hl 4 rfl) ?_
    replace h := zk_some h
    obtain ⟨c6, h⟩ := h
    refine zr_aaldv (k := 158) (by decide) rfl rfl (zlen_d (by decide)) F (zal_a F hx4 (j := 28) rfl) hr dX19_open_114 c6 (fun y7 ey7 => ?_)
    replace h := zl_sub ey7 h
    have hy7 := zal_q hr (zal_a F hx4 (j := 28) rfl) rfl ey7
    clear ey7
    refine lv_ldcw (v := (50000)) F.1 F.2.1 F.2.2.2.1 (F.2.2.2.2.1 _ zq_3007) dX19_open_115 ?_
    refine lv_aload F.1 F.2.1 dX19_open_118 (lv_at hl 3 rfl) ?_
    refine gf19_888 F hx4 hr dX19_open_120 ?_
    refine lv_iadd F.1 F.2.1 dX19_open_123 ?_
    refine lv_iload_n F.1 F.2.1 dX19_open_124 rfl (lv_at hl 1 rfl) ?_
    refine lv_iload_n F.1 F.2.1 dX19_open_125 rfl (lv_at hl 2 rfl) ?_
    replace h := zd_some h
    obtain ⟨a8, rfl, h⟩ := h
    replace h := zc_some h
    obtain ⟨r9, z10, hc11, h⟩ := h
    refine zr_callv (zrun_V (As := [.ref (B 12 x4), .ref (B 13 a8), .int ((50000 : Int32) + (zgI z2 12 29 x4)), .int x2, .int x3]) (rest := []) zq_2740 zq_2742 zs_X19_giveEnd zq_2743 zq_4 hdX19_giveEnd (by decide) (T := TX19) (N := 32) rfl (okX19_giveEnd l D cy B ids hst N x0 hx0 x4 hx4 a8 (hy7 _ rfl) ((50000 : Int32) + (zgI z2 12 29 x4))  x2  x3  hr.2.2 hc11) F hr hx0 hl.1 rfl (by decide) dX19_open_126 rfl rfl hroX19_open_X19_giveEnd ⟨Nat.zero_le _, Nat.zero_le _⟩) F hA hr (fun H locs hw12 hr => ?_)
    clear hc11
    refine lv_aload F.1 F.2.1 dX19_open_129 (lv_at hl 3 rfl) ?_
    refine lv_dup F.1 F.2.1 dX19_open_131 rfl ?_
    refine gf19_888 F hx4 hr dX19_open_132 ?_
    refine lv_iconst (v := (1 : Int32)) F.1 F.2.1 dX19_open_135 (by decide) ?_
    refine lv_iadd F.1 F.2.1 dX19_open_136 ?_
    refine pf19_888 F hx4 hr dX19_open_137 ((zgI z10 12 29 x4) + (1 : Int32)) (fun H locs z13 ez13 hr => ?_)
    replace h := zl_sub ez13 h
    clear ez13
    refine lv_aload F.1 F.2.1 dX19_open_140 (lv_at hl 3 rfl) ?_
    refine gf19_340 F hx4 hr dX19_open_142 ?_
    refine lv_iload F.1 F.2.1 dX19_open_145 (lv_at hl 4 rfl) ?_
    replace h := zk_some h
    obtain ⟨c14, h⟩ := h
    refine zr_aaldv (k := 158) (by decide) rfl rfl (zlen_d (by decide)) F (zal_a F hx4 (j := 28) rfl) hr dX19_open_147 c14 (fun y15 ey15 => ?_)
    replace h := zl_sub ey15 h
    have hy15 := zal_q hr (zal_a F hx4 (j := 28) rfl) rfl ey15
    clear ey15
    replace h := zd_some h
    obtain ⟨a16, rfl, h⟩ := h
    refine gf19_344 F (hy15 _ rfl) hr dX19_open_148 (fun y17 ey17 => ?_)
    replace h := zl_sub ey17 h
    have hy17 := zal_g hr (hy15 _ rfl) (j := 4) rfl ey17
    clear ey17
    refine zr_astore (lv' := [(6, va_rf (Option.map (B 14) y17)), (0, .ref (B 19 x0)), (2, .int x2), (3, .int x3), (4, .ref (B 12 x4)), (5, .int x5)]) F.1 F.2.1 dX19_open_151 hl (by decide) rfl (fun ls hl => ?_)
    refine zr_aload F.1 F.2.1 dX19_open_153 (lv_at hl 0 rfl) ?_
    refine lv_iconst (v := (2 : Int32)) F.1 F.2.1 dX19_open_155 (by decide) ?_
    replace h := zd_some h
    obtain ⟨a18, rfl, h⟩ := h
    refine pf19_353 F (hy17 _ rfl) hr dX19_open_156 (2 : Int32) (fun H locs z19 ez19 hr => ?_)
    replace h := zl_sub ez19 h
    clear ez19
    refine lv_aload F.1 F.2.1 dX19_open_159 (lv_at hl 0 rfl) ?_
    refine lv_aload F.1 F.2.1 dX19_open_161 (lv_at hl 0 rfl) ?_
    refine gf19_588 F (hy17 _ rfl) hr dX19_open_163 ?_
    refine lv_iconst (v := (1 : Int32)) F.1 F.2.1 dX19_open_166 (by decide) ?_
    refine lv_iadd F.1 F.2.1 dX19_open_167 ?_
    refine pf19_600 F (hy17 _ rfl) hr dX19_open_168 ((zgI z19 14 5 a18) + (1 : Int32)) (fun H locs z20 ez20 hr => ?_)
    replace h := zl_sub ez20 h
    clear ez20
    refine lv_aload F.1 F.2.1 dX19_open_171 (lv_at hl 0 rfl) ?_
    refine lv_iconst (v := (1 : Int32)) F.1 F.2.1 dX19_open_173 (by decide) ?_
    refine pf19_613 F (hy17 _ rfl) hr dX19_open_174 (1 : Int32) (by decide) (fun H locs z21 ez21 hr => ?_)
    replace h := zl_sub ez21 h
    clear ez21
    refine lv_aload_n F.1 F.2.1 dX19_open_177 rfl (lv_at hl 1 rfl) ?_
    replace h := zc_some h
    obtain ⟨r22, z23, hc24, h⟩ := h
    refine zr_callv (zrun_V (As := []) (rest := []) zq_2394 zq_2396 zs_X19_stir zq_2397 zq_4 hdX19_stir (by decide) (T := TX19) (N := 32) rfl (okX19_stir l D cy B ids hst N x0 hx0 hr.2.2 hc24) F hr hx0 hl.1 rfl (by decide) dX19_open_178 rfl rfl hroX19_open_X19_stir ⟨Nat.zero_le _, Nat.zero_le _⟩) F hA hr (fun H locs hw25 hr => ?_)
    clear hc24
    refine lv_iload F.1 F.2.1 dX19_open_181 (lv_at hl 5 rfl) ?_
    obtain ⟨rfl, rfl⟩ := zret h
    exact E _ _ _ _ dX19_open_183 trivial hr
  · replace h := zi_f c5 h
    refine lv_iconst (v := (0 : Int32)) F.1 F.2.1 dX19_open_102 (by decide) ?_
    obtain ⟨rfl, rfl⟩ := zret h
    exact E _ _ _ _ dX19_open_103 trivial hr
def fX19_open_91 (N : Nat)  (x0 : Nat) (x2 : Int32) (x3 : Int32) (x4 : Nat) (x5 : Int32) (s0 : Nat) (s1 : Int32) (z : St) : Option (Int32 × St) := fX19_open_96 N x0 x2 x3 x4 x5 s0 s1 (1 : Int32) z
set_option maxHeartbeats 4000000 in
set_option maxRecDepth 100000 in
theorem bX19_open_91 (hst : zSt B ids) (F : zFx p m c cX19_open 7 s args RX19 D cy B ids A) (hA : ∀ q : Nat, s.heap.size ≤ q → A q) {r : Int32} {z' : St} (E : zEnd p l e rmX19_open s m args below meth c cX19_open D cy B ids A Q (some (.int r)) z' .ireturn True) {N : Nat}  (x0 : Nat) (x2 : Int32) (x3 : Int32) (x4 : Nat) (x5 : Int32) (s0 : Nat) (s1 : Int32) (hx0 : (19, x0) ∈ ids) (hx4 : (12, x4) ∈ ids) (hs0 : (19, s0) ∈ ids) {z : St} {H : Heap} {locs : List Loc} {ls : Array Slot} (hr : zRep D cy B ids A s.heap z H locs) (hl : lv_has ls 7 [(0, .ref (B 19 x0)), (2, .int x2), (3, .int x3), (4, .ref (B 12 x4)), (5, .int x5)]) (h : fX19_open_91 N x0 x2 x3 x4 x5 s0 s1 z = some (r, z')) : W p l e rmX19_open s m args below meth c H locs 0 0 Q (F0 m 91 ls [.int s1, .ref (B 19 s0)]) := by
  unfold fX19_open_91 at h
  refine lv_iconst (v := (1 : Int32)) F.1 F.2.1 dX19_open_91 (by decide) ?_
  refine lv_goto (tgt := 96) F.1 F.2.1 dX19_open_92 (by decide) ?_
  exact bX19_open_96 hst F hA E  x0 x2 x3 x4 x5 s0 s1 (1 : Int32) hx0 hx4 hs0 hr (lv_sub hl [0, 1, 2, 3, 4] rfl) h
def fX19_open_40 (N : Nat)  (x0 : Nat) (x1 : Int32) (x2 : Int32) (x3 : Int32) (s0 : Nat) (s1 : Int32) (z : St) : Option (Int32 × St) := zc (fX19_fails N s0 s1 (0 : Int32) z) fun r1 z2 => if r1 = 0 then (zk x1 16 <| zl (zgQ z2 186 x0 (Int32.toNatClampNeg x1)) fun y7 => zd y7 fun a8 => zc (fX19_leastFree N a8 z2) fun r9 z10 => if r9 = (-1 : Int32) then (fX19_open_91 N x0 x2 x3 a8 r9 x0 (0 : Int32) z10) else (if (zgI z10 12 3 a8) = 0 then (fX19_open_91 N x0 x2 x3 a8 r9 x0 (0 : Int32) z10) else (if (zgI z10 12 29 a8) ≤ (15535 : Int32) then (fX19_open_96 N x0 x2 x3 a8 r9 x0 (0 : Int32) (0 : Int32) z10) else (fX19_open_91 N x0 x2 x3 a8 r9 x0 (0 : Int32) z10)))) else (some ((0 : Int32), z2))
set_option maxHeartbeats 4000000 in
set_option maxRecDepth 100000 in
theorem bX19_open_40 (hst : zSt B ids) (F : zFx p m c cX19_open 7 s args RX19 D cy B ids A) (hA : ∀ q : Nat, s.heap.size ≤ q → A q) {r : Int32} {z' : St} (E : zEnd p l e rmX19_open s m args below meth c cX19_open D cy B ids A Q (some (.int r)) z' .ireturn True) {N : Nat}  (x0 : Nat) (x1 : Int32) (x2 : Int32) (x3 : Int32) (s0 : Nat) (s1 : Int32) (hx0 : (19, x0) ∈ ids) (hs0 : (19, s0) ∈ ids) {z : St} {H : Heap} {locs : List Loc} {ls : Array Slot} (hr : zRep D cy B ids A s.heap z H locs) (hl : lv_has ls 7 [(0, .ref (B 19 x0)), (1, .int x1), (2, .int x2), (3, .int x3)]) (h : fX19_open_40 N x0 x1 x2 x3 s0 s1 z = some (r, z')) : W p l e rmX19_open s m args below meth c H locs 0 0 Q (F0 m 40 ls [.int s1, .ref (B 19 s0)]) := by
  unfold fX19_open_40 at h
  refine lv_iconst (v := (0 : Int32)) F.1 F.2.1 dX19_open_40 (by decide) ?_
  replace h := zc_some h
  obtain ⟨r1, z2, hc3, h⟩ := h
  refine zr_calli (zrun_V (As := [.int s1, .int (0 : Int32)]) (rest := []) zq_2402 zq_2404 zs_X19_fails zq_2405 zq_4 hdX19_fails (by decide) (T := TX19) (N := 32) rfl (okX19_fails l D cy B ids hst N s0 hs0 s1  (0 : Int32)  hr.2.2 hc3) F hr hs0 hl.1 rfl (by decide) dX19_open_41 rfl rfl hroX19_open_X19_fails ⟨Nat.zero_le _, Nat.zero_le _⟩) F hA hr (fun H locs hw4 hr => ?_)
  clear hc3
  refine lv_if_eq (tgt := 49) F.1 F.2.1 dX19_open_44 (by decide) (fun c5 => ?_) (fun c5 => ?_)
  · replace h := zi_t c5 h
    refine lv_aload_n F.1 F.2.1 dX19_open_49 rfl (lv_at hl 0 rfl) ?_
    refine gf19_114 F hx0 hr dX19_open_50 ?_
    refine lv_iload_n F.1 F.2.1 dX19_open_53 rfl (lv_at hl 1 rfl) ?_
    replace h := zk_some h
    obtain ⟨c6, h⟩ := h
    refine zr_aaldv (k := 186) (by decide) rfl rfl (zlen_d (by decide)) F (zal_a F hx0 (j := 18) rfl) hr dX19_open_54 c6 (fun y7 ey7 => ?_)
    replace h := zl_sub ey7 h
    have hy7 := zal_q hr (zal_a F hx0 (j := 18) rfl) rfl ey7
    clear ey7
    refine zr_astore (lv' := [(4, va_rf (Option.map (B 12) y7)), (0, .ref (B 19 x0)), (1, .int x1), (2, .int x2), (3, .int x3)]) F.1 F.2.1 dX19_open_55 hl (by decide) rfl (fun ls hl => ?_)
    refine zr_aload F.1 F.2.1 dX19_open_57 (lv_at hl 0 rfl) ?_
    replace h := zd_some h
    obtain ⟨a8, rfl, h⟩ := h
    replace h := zc_some h
    obtain ⟨r9, z10, hc11, h⟩ := h
    refine zr_calli (zrun_S (As := [.ref (B 12 a8)]) (rest := []) zq_2737 zq_2738 zq_2739 zq_4 hdX19_leastFree (okX19_leastFree l D cy B ids hst N a8 (hy7 _ rfl) hr.2.2 hc11) F hr hl.1 rfl (by decide) dX19_open_59 rfl rfl hroX19_open_X19_leastFree ⟨Nat.zero_le _, Nat.zero_le _⟩) F hA hr (fun H locs hw12 hr => ?_)
    clear hc11
    refine lv_istore (lv' := [(5, .int r9), (4, .ref (B 12 a8)), (0, .ref (B 19 x0)), (1, .int x1), (2, .int x2), (3, .int x3)]) F.1 F.2.1 dX19_open_62 hl (by decide) rfl (fun ls hl => ?_)
    refine lv_aload_n F.1 F.2.1 dX19_open_64 rfl (lv_at hl 2 rfl) ?_
    refine lv_iconst (v := (0 : Int32)) F.1 F.2.1 dX19_open_65 (by decide) ?_
    refine lv_iload F.1 F.2.1 dX19_open_66 (lv_at hl 0 rfl) ?_
    refine lv_iconst (v := (-1 : Int32)) F.1 F.2.1 dX19_open_68 (by decide) ?_
    refine lv_icmp_eq (tgt := 91) F.1 F.2.1 dX19_open_69 (by decide) (fun c13 => ?_) (fun c13 => ?_)
    · replace h := zi_t c13 h
      exact bX19_open_91 hst F hA E  x0 x2 x3 a8 r9 x0 (0 : Int32) hx0 (hy7 _ rfl) hx0 hr (lv_sub hl [2, 4, 5, 1, 0] rfl) h
    · replace h := zi_f c13 h
      refine lv_aload F.1 F.2.1 dX19_open_72 (lv_at hl 1 rfl) ?_
      refine gf19_273 F (hy7 _ rfl) hr dX19_open_74 ?_
      refine lv_if_eq (tgt := 91) F.1 F.2.1 dX19_open_77 (by decide) (fun c14 => ?_) (fun c14 => ?_)
      · replace h := zi_t c14 h
        exact bX19_open_91 hst F hA E  x0 x2 x3 a8 r9 x0 (0 : Int32) hx0 (hy7 _ rfl) hx0 hr (lv_sub hl [2, 4, 5, 1, 0] rfl) h
      · replace h := zi_f c14 h
        refine lv_aload F.1 F.2.1 dX19_open_80 (lv_at hl 1 rfl) ?_
        refine gf19_888 F (hy7 _ rfl) hr dX19_open_82 ?_
        refine lv_sipush (v := (15535 : Int32)) F.1 F.2.1 dX19_open_85 (by decide) ?_
        refine lv_icmp_le (tgt := 95) F.1 F.2.1 dX19_open_88 (by decide) (fun c15 => ?_) (fun c15 => ?_)
        · replace h := zi_t c15 h
          refine lv_iconst (v := (0 : Int32)) F.1 F.2.1 dX19_open_95 (by decide) ?_
          exact bX19_open_96 hst F hA E  x0 x2 x3 a8 r9 x0 (0 : Int32) (0 : Int32) hx0 (hy7 _ rfl) hx0 hr (lv_sub hl [2, 4, 5, 1, 0] rfl) h
        · replace h := zi_f c15 h
          exact bX19_open_91 hst F hA E  x0 x2 x3 a8 r9 x0 (0 : Int32) hx0 (hy7 _ rfl) hx0 hr (lv_sub hl [2, 4, 5, 1, 0] rfl) h
  · replace h := zi_f c5 h
    refine lv_iconst (v := (0 : Int32)) F.1 F.2.1 dX19_open_47 (by decide) ?_
    obtain ⟨rfl, rfl⟩ := zret h
    exact E _ _ _ _ dX19_open_48 trivial hr
def fX19_open_35 (N : Nat)  (x0 : Nat) (x1 : Int32) (x2 : Int32) (x3 : Int32) (s0 : Nat) (z : St) : Option (Int32 × St) := fX19_open_40 N x0 x1 x2 x3 s0 (1 : Int32) z
set_option maxHeartbeats 4000000 in
set_option maxRecDepth 100000 in
theorem bX19_open_35 (hst : zSt B ids) (F : zFx p m c cX19_open 7 s args RX19 D cy B ids A) (hA : ∀ q : Nat, s.heap.size ≤ q → A q) {r : Int32} {z' : St} (E : zEnd p l e rmX19_open s m args below meth c cX19_open D cy B ids A Q (some (.int r)) z' .ireturn True) {N : Nat}  (x0 : Nat) (x1 : Int32) (x2 : Int32) (x3 : Int32) (s0 : Nat) (hx0 : (19, x0) ∈ ids) (hs0 : (19, s0) ∈ ids) {z : St} {H : Heap} {locs : List Loc} {ls : Array Slot} (hr : zRep D cy B ids A s.heap z H locs) (hl : lv_has ls 7 [(0, .ref (B 19 x0)), (1, .int x1), (2, .int x2), (3, .int x3)]) (h : fX19_open_35 N x0 x1 x2 x3 s0 z = some (r, z')) : W p l e rmX19_open s m args below meth c H locs 0 0 Q (F0 m 35 ls [.ref (B 19 s0)]) := by
  unfold fX19_open_35 at h
  refine lv_iconst (v := (1 : Int32)) F.1 F.2.1 dX19_open_35 (by decide) ?_
  refine lv_goto (tgt := 40) F.1 F.2.1 dX19_open_36 (by decide) ?_
  exact bX19_open_40 hst F hA E  x0 x1 x2 x3 s0 (1 : Int32) hx0 hs0 hr (lv_sub hl [0, 1, 2, 3] rfl) h
def fX19_open (N : Nat)  (x0 : Nat) (x1 : Int32) (x2 : Int32) (x3 : Int32) (z : St) : Option (Int32 × St) := zc (fX19_isHost N x0 x1 z) fun r1 z2 => if r1 = 0 then (fX19_open_35 N x0 x1 x2 x3 x0 z2) else (if x3 < (1 : Int32) then (fX19_open_35 N x0 x1 x2 x3 x0 z2) else (if (65535 : Int32) < x3 then (fX19_open_35 N x0 x1 x2 x3 x0 z2) else (zk x1 16 <| zl (zgQ z2 186 x0 (Int32.toNatClampNeg x1)) fun y9 => zd y9 fun a10 => zc (fX19_isOwn N x0 a10 x2 z2) fun r11 z12 => if r11 = 0 then (fX19_open_40 N x0 x1 x2 x3 x0 (0 : Int32) z12) else (fX19_open_35 N x0 x1 x2 x3 x0 z12))))
set_option maxHeartbeats 4000000 in
set_option maxRecDepth 100000 in
theorem bX19_open_0 (hst : zSt B ids) (F : zFx p m c cX19_open 7 s args RX19 D cy B ids A) (hA : ∀ q : Nat, s.heap.size ≤ q → A q) {r : Int32} {z' : St} (E : zEnd p l e rmX19_open s m args below meth c cX19_open D cy B ids A Q (some (.int r)) z' .ireturn True) {N : Nat}  (x0 : Nat) (x1 : Int32) (x2 : Int32) (x3 : Int32) (hx0 : (19, x0) ∈ ids) {z : St} {H : Heap} {locs : List Loc} {ls : Array Slot} (hr : zRep D cy B ids A s.heap z H locs) (hl : lv_has ls 7 [(0, .ref (B 19 x0)), (1, .int x1), (2, .int x2), (3, .int x3)]) (h : fX19_open N x0 x1 x2 x3 z = some (r, z')) : W p l e rmX19_open s m args below meth c H locs 0 0 Q (F0 m 0 ls []) := by
  unfold fX19_open at h
  refine lv_aload_n F.1 F.2.1 dX19_open_0 rfl (lv_at hl 0 rfl) ?_
  refine lv_aload_n F.1 F.2.1 dX19_open_1 rfl (lv_at hl 0 rfl) ?_
  refine lv_iload_n F.1 F.2.1 dX19_open_2 rfl (lv_at hl 1 rfl) ?_
  replace h := zc_some h
  obtain ⟨r1, z2, hc3, h⟩ := h
  refine zr_calli (zrun_V (As := [.int x1]) (rest := [.ref (B 19 x0)]) zq_2998 zq_3000 zs_X19_isHost zq_3001 zq_4 hdX19_isHost (by decide) (T := TX19) (N := 32) rfl (okX19_isHost l D cy B ids hst N x0 hx0 x1  hr.2.2 hc3) F hr hx0 hl.1 rfl (Nat.le_of_ble_eq_true rfl) dX19_open_3 rfl rfl hroX19_open_X19_isHost ⟨Nat.zero_le _, Nat.zero_le _⟩) F hA hr (fun H locs hw4 hr => ?_)
  clear hc3
  refine lv_if_eq (tgt := 35) F.1 F.2.1 dX19_open_6 (by decide) (fun c5 => ?_) (fun c5 => ?_)
  · replace h := zi_t c5 h
    exact bX19_open_35 hst F hA E  x0 x1 x2 x3 x0 hx0 hx0 hr (lv_sub hl [0, 1, 2, 3] rfl) h
  · replace h := zi_f c5 h
    refine lv_iload_n F.1 F.2.1 dX19_open_9 rfl (lv_at hl 3 rfl) ?_
    refine lv_iconst (v := (1 : Int32)) F.1 F.2.1 dX19_open_10 (by decide) ?_
    refine lv_icmp_lt (tgt := 35) F.1 F.2.1 dX19_open_11 (by decide) (fun c6 => ?_) (fun c6 => ?_)
    · replace h := zi_t c6 h
      exact bX19_open_35 hst F hA E  x0 x1 x2 x3 x0 hx0 hx0 hr (lv_sub hl [0, 1, 2, 3] rfl) h
    · replace h := zi_f c6 h
      refine lv_iload_n F.1 F.2.1 dX19_open_14 rfl (lv_at hl 3 rfl) ?_
      refine lv_ldcw (v := (65535)) F.1 F.2.1 F.2.2.2.1 (F.2.2.2.2.1 _ zq_2784) dX19_open_15 ?_
      refine lv_icmp_gt (tgt := 35) F.1 F.2.1 dX19_open_18 (by decide) (fun c7 => ?_) (fun c7 => ?_)
      · replace h := zi_t c7 h
        exact bX19_open_35 hst F hA E  x0 x1 x2 x3 x0 hx0 hx0 hr (lv_sub hl [0, 1, 2, 3] rfl) h
      · replace h := zi_f c7 h
        refine lv_aload_n F.1 F.2.1 dX19_open_21 rfl (lv_at hl 0 rfl) ?_
        refine lv_aload_n F.1 F.2.1 dX19_open_22 rfl (lv_at hl 0 rfl) ?_
        refine gf19_114 F hx0 hr dX19_open_23 ?_
        refine lv_iload_n F.1 F.2.1 dX19_open_26 rfl (lv_at hl 1 rfl) ?_
        replace h := zk_some h
        obtain ⟨c8, h⟩ := h
        refine zr_aaldv (k := 186) (by decide) rfl rfl (zlen_d (by decide)) F (zal_a F hx0 (j := 18) rfl) hr dX19_open_27 c8 (fun y9 ey9 => ?_)
        replace h := zl_sub ey9 h
        have hy9 := zal_q hr (zal_a F hx0 (j := 18) rfl) rfl ey9
        clear ey9
        refine lv_iload_n F.1 F.2.1 dX19_open_28 rfl (lv_at hl 2 rfl) ?_
        replace h := zd_some h
        obtain ⟨a10, rfl, h⟩ := h
        replace h := zc_some h
        obtain ⟨r11, z12, hc13, h⟩ := h
        refine zr_calli (zrun_V (As := [.ref (B 12 a10), .int x2]) (rest := [.ref (B 19 x0)]) zq_2627 zq_2629 zs_X19_isOwn zq_2630 zq_4 hdX19_isOwn (by decide) (T := TX19) (N := 32) rfl (okX19_isOwn l D cy B ids hst N x0 hx0 a10 (hy9 _ rfl) x2  hr.2.2 hc13) F hr hx0 hl.1 rfl (Nat.le_of_ble_eq_true rfl) dX19_open_29 rfl rfl hroX19_open_X19_isOwn ⟨Nat.zero_le _, Nat.zero_le _⟩) F hA hr (fun H locs hw14 hr => ?_)
        clear hc13
        refine lv_if_eq (tgt := 39) F.1 F.2.1 dX19_open_32 (by decide) (fun c15 => ?_) (fun c15 => ?_)
        · replace h := zi_t c15 h
          refine lv_iconst (v := (0 : Int32)) F.1 F.2.1 dX19_open_39 (by decide) ?_
          exact bX19_open_40 hst F hA E  x0 x1 x2 x3 x0 (0 : Int32) hx0 hx0 hr (lv_sub hl [0, 1, 2, 3] rfl) h
        · replace h := zi_f c15 h
          exact bX19_open_35 hst F hA E  x0 x1 x2 x3 x0 hx0 hx0 hr (lv_sub hl [0, 1, 2, 3] rfl) h
end SX19_open
set_option maxRecDepth 100000 in
theorem okX19_open (l : Launch) (D : va_G) (cy : Nat → ClassId) (B : Nat → Nat → Nat) (ids : List (Nat × Nat)) (hst : zSt B ids) (N : Nat) (x0 : Nat) (hx0 : (19, x0) ∈ ids) (x1 : Int32) (x2 : Int32) (x3 : Int32) {z : St} {r : Int32} {z' : St} (hW : zWf ids z) (h : fX19_open N x0 x1 x2 x3 z = some (r, z')) : zM l yX19_open (zws yX19_open cX19_open 7 (some .int)) rmX19_open D cy B ids [.ref (B 19 x0), .int x1, .int x2, .int x3] (some (.int r)) True z z' :=
  zM_of hst hW (by decide +kernel) (Nat.le_of_ble_eq_true rfl) (fun p e s m args below meth c A ls F hA hret hlocks hr hl => bX19_open_0 hst F hA (zEnd_i F hret hlocks) x0 x1 x2 x3 hx0 hr hl h)
abbrev rmX19_accept : Room := { frames := 3, cells := 0, slots := 0, locals := 64 }
theorem hdX19_accept : yX19_accept.cls ≠ "java/lang/invoke/MethodHandle" ∧ yX19_accept.cls ≠ "java/lang/invoke/VarHandle" ∧ (parseMethodDescriptor yX19_accept.desc).map (fun d => d.parameters.length) = some 2 := by decide +kernel
theorem hroX19_accept_X19_fails : rmX19_fails.frames + 1 ≤ rmX19_accept.frames ∧ 8 + (3 + 11) + rmX19_fails.locals ≤ rmX19_accept.locals := by decide
theorem hroX19_accept_X19_isDoor : rmX19_isDoor.frames + 1 ≤ rmX19_accept.frames ∧ 8 + (3 + 11) + rmX19_isDoor.locals ≤ rmX19_accept.locals := by decide
section SX19_accept
variable {p : Program} {l : Launch} {e : Env} {s : State} {m : MethodId} {args : Array Value} {below : List Frame} {meth : Method} {c : Code} {Q : State → Prop} {D : va_G} {cy : Nat → ClassId} {B : Nat → Nat → Nat} {ids : List (Nat × Nat)} {A : Nat → Prop}
def fX19_accept_133 (N : Nat) (K56 : Nat → Int32 → Int32 → Int32 → St → Option (Int32 × St)) (x0 : Nat) (x1 : Int32) (x2 : Int32) (x3 : Int32) (z : St) : Option (Int32 × St) := zl (x3 + 1) fun v1 => K56 x0 x1 x2 v1 z
set_option maxHeartbeats 4000000 in
set_option maxRecDepth 100000 in
theorem bX19_accept_133 (hst : zSt B ids) (F : zFx p m c cX19_accept 5 s args RX19 D cy B ids A) (hA : ∀ q : Nat, s.heap.size ≤ q → A q) {r : Int32} {z' : St} (E : zEnd p l e rmX19_accept s m args below meth c cX19_accept D cy B ids A Q (some (.int r)) z' .ireturn True) {N : Nat} {K56 : Nat → Int32 → Int32 → Int32 → St → Option (Int32 × St)} (hK56 : ∀ (x0 : Nat) (x1 : Int32) (x2 : Int32) (x3 : Int32) (hx0 : (19, x0) ∈ ids) {z : St} {H : Heap} {locs : List Loc} {ls : Array Slot} (hr : zRep D cy B ids A s.heap z H locs) (hl : lv_has ls 5 [(0, .ref (B 19 x0)), (1, .int x1), (2, .int x2), (3, .int x3)]), K56 x0 x1 x2 x3 z = some (r, z') → W p l e rmX19_accept s m args below meth c H locs 0 0 Q (F0 m 56 ls [])) (x0 : Nat) (x1 : Int32) (x2 : Int32) (x3 : Int32) (hx0 : (19, x0) ∈ ids) {z : St} {H : Heap} {locs : List Loc} {ls : Array Slot} (hr : zRep D cy B ids A s.heap z H locs) (hl : lv_has ls 5 [(0, .ref (B 19 x0)), (1, .int x1), (2, .int x2), (3, .int x3)]) (h : fX19_accept_133 N K56 x0 x1 x2 x3 z = some (r, z')) : W p l e rmX19_accept s m args below meth c H locs 0 0 Q (F0 m 133 ls []) := by
  unfold fX19_accept_133 at h
  obtain ⟨v1, ev1⟩ : ∃ y : Int32, y = (x3 + 1) := ⟨_, rfl⟩
  replace h := zl_sub ev1 h
  refine lv_iinc (v := v1) (lv' := [(3, .int v1), (0, .ref (B 19 x0)), (1, .int x1), (2, .int x2)]) F.1 F.2.1 dX19_accept_133 hl (k := 3) rfl (by rw [ev1]; rfl) (by decide) rfl (fun ls hl => ?_)
  refine lv_goto (tgt := 56) F.1 F.2.1 dX19_accept_136 (by decide) ?_
  exact hK56 x0 x1 x2 v1 hx0 hr (lv_sub hl [1, 2, 3, 0] rfl) h
def fX19_accept_56b (N : Nat) (K56 : Nat → Int32 → Int32 → Int32 → St → Option (Int32 × St)) (x0 : Nat) (x1 : Int32) (x2 : Int32) (x3 : Int32) (z : St) : Option (Int32 × St) := if (6 : Int32) ≤ x3 then (some ((-1 : Int32), z)) else (zk x1 16 <| zl (zgQ z 186 x0 (Int32.toNatClampNeg x1)) fun y3 => zd y3 fun a4 => zk x3 6 <| zl (zgQ z 158 a4 (Int32.toNatClampNeg x3)) fun y6 => zd y6 fun a7 => if (zgI z 13 3 a7) = 0 then (fX19_accept_133 N K56 x0 x1 x2 x3 z) else (if ¬ (zgI z 13 5 a7) = x2 then (fX19_accept_133 N K56 x0 x1 x2 x3 z) else (if ¬ (zgI z 13 7 a7) = 0 then (fX19_accept_133 N K56 x0 x1 x2 x3 z) else (zl (zgR z 13 4 a7) fun y11 => zd y11 fun a12 => if (zgI z 14 0 a12) < (4 : Int32) then (fX19_accept_133 N K56 x0 x1 x2 x3 z) else (zl (zgR z 13 4 a7) fun y14 => zd y14 fun a15 => if (10 : Int32) < (zgI z 14 0 a15) then (fX19_accept_133 N K56 x0 x1 x2 x3 z) else (zl (zsI z 13 7 a7 (1 : Int32)) fun z17 => some (x3, z17)))))))
def fX19_accept_56 (N : Nat)  : Nat → Nat → Int32 → Int32 → Int32 → St → Option (Int32 × St)
  | 0 => fun _ _ _ _ _ => none
  | n + 1 => fX19_accept_56b N (fX19_accept_56 N  n)
set_option maxHeartbeats 4000000 in
set_option maxRecDepth 100000 in
theorem bX19_accept_56 (hst : zSt B ids) (F : zFx p m c cX19_accept 5 s args RX19 D cy B ids A) (hA : ∀ q : Nat, s.heap.size ≤ q → A q) {r : Int32} {z' : St} (E : zEnd p l e rmX19_accept s m args below meth c cX19_accept D cy B ids A Q (some (.int r)) z' .ireturn True) {N : Nat} {K56 : Nat → Int32 → Int32 → Int32 → St → Option (Int32 × St)} (hK56 : ∀ (x0 : Nat) (x1 : Int32) (x2 : Int32) (x3 : Int32) (hx0 : (19, x0) ∈ ids) {z : St} {H : Heap} {locs : List Loc} {ls : Array Slot} (hr : zRep D cy B ids A s.heap z H locs) (hl : lv_has ls 5 [(0, .ref (B 19 x0)), (1, .int x1), (2, .int x2), (3, .int x3)]), K56 x0 x1 x2 x3 z = some (r, z') → W p l e rmX19_accept s m args below meth c H locs 0 0 Q (F0 m 56 ls [])) (x0 : Nat) (x1 : Int32) (x2 : Int32) (x3 : Int32) (hx0 : (19, x0) ∈ ids) {z : St} {H : Heap} {locs : List Loc} {ls : Array Slot} (hr : zRep D cy B ids A s.heap z H locs) (hl : lv_has ls 5 [(0, .ref (B 19 x0)), (1, .int x1), (2, .int x2), (3, .int x3)]) (h : fX19_accept_56b N K56 x0 x1 x2 x3 z = some (r, z')) : W p l e rmX19_accept s m args below meth c H locs 0 0 Q (F0 m 56 ls []) := by
  unfold fX19_accept_56b at h
  refine lv_iload_n F.1 F.2.1 dX19_accept_56 rfl (lv_at hl 3 rfl) ?_
  refine lv_bipush (v := (6 : Int32)) F.1 F.2.1 dX19_accept_57 (by decide) ?_
  refine lv_icmp_ge (tgt := 139) F.1 F.2.1 dX19_accept_59 (by decide) (fun c1 => ?_) (fun c1 => ?_)
  · replace h := zi_t c1 h
    refine lv_iconst (v := (-1 : Int32)) F.1 F.2.1 dX19_accept_139 (by decide) ?_
    obtain ⟨rfl, rfl⟩ := zret h
    exact E _ _ _ _ dX19_accept_140 trivial hr
  · replace h := zi_f c1 h
    refine lv_aload_n F.1 F.2.1 dX19_accept_62 rfl (lv_at hl 0 rfl) ?_
    refine gf19_114 F hx0 hr dX19_accept_63 ?_
    refine lv_iload_n F.1 F.2.1 dX19_accept_66 rfl (lv_at hl 1 rfl) ?_
    replace h := zk_some h
    obtain ⟨c2, h⟩ := h
    refine zr_aaldv (k := 186) (by decide) rfl rfl (zlen_d (by decide)) F (zal_a F hx0 (j := 18) rfl) hr dX19_accept_67 c2 (fun y3 ey3 => ?_)
    replace h := zl_sub ey3 h
    have hy3 := zal_q hr (zal_a F hx0 (j := 18) rfl) rfl ey3
    clear ey3
    replace h := zd_some h
    obtain ⟨a4, rfl, h⟩ := h
    refine gf19_340 F (hy3 _ rfl) hr dX19_accept_68 ?_
    refine lv_iload_n F.1 F.2.1 dX19_accept_71 rfl (lv_at hl 3 rfl) ?_
    replace h := zk_some h
    obtain ⟨c5, h⟩ := h
    refine zr_aaldv (k := 158) (by decide) rfl rfl (zlen_d (by decide)) F (zal_a F (hy3 _ rfl) (j := 28) rfl) hr dX19_accept_72 c5 (fun y6 ey6 => ?_)
    replace h := zl_sub ey6 h
    have hy6 := zal_q hr (zal_a F (hy3 _ rfl) (j := 28) rfl) rfl ey6
    clear ey6
    refine zr_astore (lv' := [(4, va_rf (Option.map (B 13) y6)), (0, .ref (B 19 x0)), (1, .int x1), (2, .int x2), (3, .int x3)]) F.1 F.2.1 dX19_accept_73 hl (by decide) rfl (fun ls hl => ?_)
    refine zr_aload F.1 F.2.1 dX19_accept_75 (lv_at hl 0 rfl) ?_
    replace h := zd_some h
    obtain ⟨a7, rfl, h⟩ := h
    refine gf19_350 F (hy6 _ rfl) hr dX19_accept_77 ?_
    refine lv_if_eq (tgt := 133) F.1 F.2.1 dX19_accept_80 (by decide) (fun c8 => ?_) (fun c8 => ?_)
    · replace h := zi_t c8 h
      exact bX19_accept_133 hst F hA E hK56 x0 x1 x2 x3 hx0 hr (lv_sub hl [1, 2, 3, 4] rfl) h
    · replace h := zi_f c8 h
      refine lv_aload F.1 F.2.1 dX19_accept_83 (lv_at hl 0 rfl) ?_
      refine gf19_761 F (hy6 _ rfl) hr dX19_accept_85 ?_
      refine lv_iload_n F.1 F.2.1 dX19_accept_88 rfl (lv_at hl 3 rfl) ?_
      refine lv_icmp_ne (tgt := 133) F.1 F.2.1 dX19_accept_89 (by decide) (fun c9 => ?_) (fun c9 => ?_)
      · replace h := zi_t c9 h
        exact bX19_accept_133 hst F hA E hK56 x0 x1 x2 x3 hx0 hr (lv_sub hl [1, 2, 3, 4] rfl) h
      · replace h := zi_f (fun q => q c9) h
        refine lv_aload F.1 F.2.1 dX19_accept_92 (lv_at hl 0 rfl) ?_
        refine gf19_767 F (hy6 _ rfl) hr dX19_accept_94 ?_
        refine lv_if_ne (tgt := 133) F.1 F.2.1 dX19_accept_97 (by decide) (fun c10 => ?_) (fun c10 => ?_)
        · replace h := zi_t c10 h
          exact bX19_accept_133 hst F hA E hK56 x0 x1 x2 x3 hx0 hr (lv_sub hl [1, 2, 3, 4] rfl) h
        · replace h := zi_f (fun q => q c10) h
          refine lv_aload F.1 F.2.1 dX19_accept_100 (lv_at hl 0 rfl) ?_
          refine gf19_344 F (hy6 _ rfl) hr dX19_accept_102 (fun y11 ey11 => ?_)
          replace h := zl_sub ey11 h
          have hy11 := zal_g hr (hy6 _ rfl) (j := 4) rfl ey11
          clear ey11
          replace h := zd_some h
          obtain ⟨a12, rfl, h⟩ := h
          refine gf19_353 F (hy11 _ rfl) hr dX19_accept_105 ?_
          refine lv_iconst (v := (4 : Int32)) F.1 F.2.1 dX19_accept_108 (by decide) ?_
          refine lv_icmp_lt (tgt := 133) F.1 F.2.1 dX19_accept_109 (by decide) (fun c13 => ?_) (fun c13 => ?_)
          · replace h := zi_t c13 h
            exact bX19_accept_133 hst F hA E hK56 x0 x1 x2 x3 hx0 hr (lv_sub hl [1, 2, 3, 4] rfl) h
          · replace h := zi_f c13 h
            refine lv_aload F.1 F.2.1 dX19_accept_112 (lv_at hl 0 rfl) ?_
            refine gf19_344 F (hy6 _ rfl) hr dX19_accept_114 (fun y14 ey14 => ?_)
            replace h := zl_sub ey14 h
            have hy14 := zal_g hr (hy6 _ rfl) (j := 4) rfl ey14
            clear ey14
            replace h := zd_some h
            obtain ⟨a15, rfl, h⟩ := h
            refine gf19_353 F (hy14 _ rfl) hr dX19_accept_117 ?_
            refine lv_bipush (v := (10 : Int32)) F.1 F.2.1 dX19_accept_120 (by decide) ?_
            refine lv_icmp_gt (tgt := 133) F.1 F.2.1 dX19_accept_122 (by decide) (fun c16 => ?_) (fun c16 => ?_)
            · replace h := zi_t c16 h
              exact bX19_accept_133 hst F hA E hK56 x0 x1 x2 x3 hx0 hr (lv_sub hl [1, 2, 3, 4] rfl) h
            · replace h := zi_f c16 h
              refine lv_aload F.1 F.2.1 dX19_accept_125 (lv_at hl 0 rfl) ?_
              refine lv_iconst (v := (1 : Int32)) F.1 F.2.1 dX19_accept_127 (by decide) ?_
              refine pf19_767 F (hy6 _ rfl) hr dX19_accept_128 (1 : Int32) (by decide) (fun H locs z17 ez17 hr => ?_)
              replace h := zl_sub ez17 h
              clear ez17
              refine lv_iload_n F.1 F.2.1 dX19_accept_131 rfl (lv_at hl 4 rfl) ?_
              obtain ⟨rfl, rfl⟩ := zret h
              exact E _ _ _ _ dX19_accept_132 trivial hr
theorem lX19_accept_56 (hst : zSt B ids) (F : zFx p m c cX19_accept 5 s args RX19 D cy B ids A) (hA : ∀ q : Nat, s.heap.size ≤ q → A q) {r : Int32} {z' : St} (E : zEnd p l e rmX19_accept s m args below meth c cX19_accept D cy B ids A Q (some (.int r)) z' .ireturn True) {N : Nat}  : ∀ (n : Nat) (x0 : Nat) (x1 : Int32) (x2 : Int32) (x3 : Int32) (hx0 : (19, x0) ∈ ids) {z : St} {H : Heap} {locs : List Loc} {ls : Array Slot} (hr : zRep D cy B ids A s.heap z H locs) (hl : lv_has ls 5 [(0, .ref (B 19 x0)), (1, .int x1), (2, .int x2), (3, .int x3)]), fX19_accept_56 N  n x0 x1 x2 x3 z = some (r, z') → W p l e rmX19_accept s m args below meth c H locs 0 0 Q (F0 m 56 ls []) := by
  intro n
  induction n with
  | zero => intro x0 x1 x2 x3 hx0 z H locs ls hr hl h; cases h
  | succ n ih => intro x0 x1 x2 x3 hx0 z H locs ls hr hl h; exact bX19_accept_56 hst F hA E ih x0 x1 x2 x3 hx0 hr hl h
def fX19_accept_46 (N : Nat)  (x0 : Nat) (x1 : Int32) (x2 : Int32) (s0 : Nat) (s1 : Int32) (s2 : Int32) (z : St) : Option (Int32 × St) := zc (fX19_fails N s0 s1 s2 z) fun r1 z2 => if r1 = 0 then (fX19_accept_56 N N x0 x1 x2 (0 : Int32) z2) else (some ((0 : Int32), z2))
set_option maxHeartbeats 4000000 in
set_option maxRecDepth 100000 in
theorem bX19_accept_46 (hst : zSt B ids) (F : zFx p m c cX19_accept 5 s args RX19 D cy B ids A) (hA : ∀ q : Nat, s.heap.size ≤ q → A q) {r : Int32} {z' : St} (E : zEnd p l e rmX19_accept s m args below meth c cX19_accept D cy B ids A Q (some (.int r)) z' .ireturn True) {N : Nat}  (x0 : Nat) (x1 : Int32) (x2 : Int32) (s0 : Nat) (s1 : Int32) (s2 : Int32) (hx0 : (19, x0) ∈ ids) (hs0 : (19, s0) ∈ ids) {z : St} {H : Heap} {locs : List Loc} {ls : Array Slot} (hr : zRep D cy B ids A s.heap z H locs) (hl : lv_has ls 5 [(0, .ref (B 19 x0)), (1, .int x1), (2, .int x2)]) (h : fX19_accept_46 N x0 x1 x2 s0 s1 s2 z = some (r, z')) : W p l e rmX19_accept s m args below meth c H locs 0 0 Q (F0 m 46 ls [.int s2, .int s1, .ref (B 19 s0)]) := by
  unfold fX19_accept_46 at h
  replace h := zc_some h
  obtain ⟨r1, z2, hc3, h⟩ := h
  refine zr_calli (zrun_V (As := [.int s1, .int s2]) (rest := []) zq_2402 zq_2404 zs_X19_fails zq_2405 zq_4 hdX19_fails (by decide) (T := TX19) (N := 32) rfl (okX19_fails l D cy B ids hst N s0 hs0 s1  s2  hr.2.2 hc3) F hr hs0 hl.1 rfl (by decide) dX19_accept_46 rfl rfl hroX19_accept_X19_fails ⟨Nat.zero_le _, Nat.zero_le _⟩) F hA hr (fun H locs hw4 hr => ?_)
  clear hc3
  refine lv_if_eq (tgt := 54) F.1 F.2.1 dX19_accept_49 (by decide) (fun c5 => ?_) (fun c5 => ?_)
  · replace h := zi_t c5 h
    refine lv_iconst (v := (0 : Int32)) F.1 F.2.1 dX19_accept_54 (by decide) ?_
    refine lv_istore_n (lv' := [(3, .int (0 : Int32)), (0, .ref (B 19 x0)), (1, .int x1), (2, .int x2)]) F.1 F.2.1 dX19_accept_55 rfl hl (by decide) rfl (fun ls hl => ?_)
    exact lX19_accept_56 hst F hA E  _ x0 x1 x2 (0 : Int32) hx0 hr (lv_sub hl [1, 2, 3, 0] rfl) h
  · replace h := zi_f c5 h
    refine lv_iconst (v := (0 : Int32)) F.1 F.2.1 dX19_accept_52 (by decide) ?_
    obtain ⟨rfl, rfl⟩ := zret h
    exact E _ _ _ _ dX19_accept_53 trivial hr
def fX19_accept_45 (N : Nat)  (x0 : Nat) (x1 : Int32) (x2 : Int32) (s0 : Nat) (s1 : Int32) (z : St) : Option (Int32 × St) := fX19_accept_46 N x0 x1 x2 s0 s1 (0 : Int32) z
set_option maxHeartbeats 4000000 in
set_option maxRecDepth 100000 in
theorem bX19_accept_45 (hst : zSt B ids) (F : zFx p m c cX19_accept 5 s args RX19 D cy B ids A) (hA : ∀ q : Nat, s.heap.size ≤ q → A q) {r : Int32} {z' : St} (E : zEnd p l e rmX19_accept s m args below meth c cX19_accept D cy B ids A Q (some (.int r)) z' .ireturn True) {N : Nat}  (x0 : Nat) (x1 : Int32) (x2 : Int32) (s0 : Nat) (s1 : Int32) (hx0 : (19, x0) ∈ ids) (hs0 : (19, s0) ∈ ids) {z : St} {H : Heap} {locs : List Loc} {ls : Array Slot} (hr : zRep D cy B ids A s.heap z H locs) (hl : lv_has ls 5 [(0, .ref (B 19 x0)), (1, .int x1), (2, .int x2)]) (h : fX19_accept_45 N x0 x1 x2 s0 s1 z = some (r, z')) : W p l e rmX19_accept s m args below meth c H locs 0 0 Q (F0 m 45 ls [.int s1, .ref (B 19 s0)]) := by
  unfold fX19_accept_45 at h
  refine lv_iconst (v := (0 : Int32)) F.1 F.2.1 dX19_accept_45 (by decide) ?_
  exact bX19_accept_46 hst F hA E  x0 x1 x2 s0 s1 (0 : Int32) hx0 hs0 hr (lv_sub hl [0, 1, 2] rfl) h
def fX19_accept_15 (N : Nat)  (x0 : Nat) (x1 : Int32) (x2 : Int32) (s0 : Nat) (s1 : Int32) (z : St) : Option (Int32 × St) := zc (fX19_isDoor N x0 x1 x2 z) fun r1 z2 => if r1 = 0 then (fX19_accept_45 N x0 x1 x2 s0 s1 z2) else (zk x1 16 <| zl (zgQ z2 186 x0 (Int32.toNatClampNeg x1)) fun y7 => zd y7 fun a8 => zk x2 6 <| zl (zgQ z2 158 a8 (Int32.toNatClampNeg x2)) fun y10 => zd y10 fun a11 => if ¬ (zgI z2 13 0 a11) = 0 then (fX19_accept_45 N x0 x1 x2 s0 s1 z2) else (fX19_accept_46 N x0 x1 x2 s0 s1 (1 : Int32) z2))
set_option maxHeartbeats 4000000 in
set_option maxRecDepth 100000 in
theorem bX19_accept_15 (hst : zSt B ids) (F : zFx p m c cX19_accept 5 s args RX19 D cy B ids A) (hA : ∀ q : Nat, s.heap.size ≤ q → A q) {r : Int32} {z' : St} (E : zEnd p l e rmX19_accept s m args below meth c cX19_accept D cy B ids A Q (some (.int r)) z' .ireturn True) {N : Nat}  (x0 : Nat) (x1 : Int32) (x2 : Int32) (s0 : Nat) (s1 : Int32) (hx0 : (19, x0) ∈ ids) (hs0 : (19, s0) ∈ ids) {z : St} {H : Heap} {locs : List Loc} {ls : Array Slot} (hr : zRep D cy B ids A s.heap z H locs) (hl : lv_has ls 5 [(0, .ref (B 19 x0)), (1, .int x1), (2, .int x2)]) (h : fX19_accept_15 N x0 x1 x2 s0 s1 z = some (r, z')) : W p l e rmX19_accept s m args below meth c H locs 0 0 Q (F0 m 15 ls [.int s1, .ref (B 19 s0)]) := by
  unfold fX19_accept_15 at h
  refine lv_aload_n F.1 F.2.1 dX19_accept_15 rfl (lv_at hl 0 rfl) ?_
  refine lv_iload_n F.1 F.2.1 dX19_accept_16 rfl (lv_at hl 1 rfl) ?_
  refine lv_iload_n F.1 F.2.1 dX19_accept_17 rfl (lv_at hl 2 rfl) ?_
  replace h := zc_some h
  obtain ⟨r1, z2, hc3, h⟩ := h
  refine zr_calli (zrun_V (As := [.int x1, .int x2]) (rest := [.int s1, .ref (B 19 s0)]) zq_3012 zq_3014 zs_X19_isDoor zq_3015 zq_4 hdX19_isDoor (by decide) (T := TX19) (N := 32) rfl (okX19_isDoor l D cy B ids hst N x0 hx0 x1  x2  hr.2.2 hc3) F hr hx0 hl.1 rfl (Nat.le_of_ble_eq_true rfl) dX19_accept_18 rfl rfl hroX19_accept_X19_isDoor ⟨Nat.zero_le _, Nat.zero_le _⟩) F hA hr (fun H locs hw4 hr => ?_)
  clear hc3
  refine lv_if_eq (tgt := 45) F.1 F.2.1 dX19_accept_21 (by decide) (fun c5 => ?_) (fun c5 => ?_)
  · replace h := zi_t c5 h
    exact bX19_accept_45 hst F hA E  x0 x1 x2 s0 s1 hx0 hs0 hr (lv_sub hl [0, 1, 2] rfl) h
  · replace h := zi_f c5 h
    refine lv_aload_n F.1 F.2.1 dX19_accept_24 rfl (lv_at hl 0 rfl) ?_
    refine gf19_114 F hx0 hr dX19_accept_25 ?_
    refine lv_iload_n F.1 F.2.1 dX19_accept_28 rfl (lv_at hl 1 rfl) ?_
    replace h := zk_some h
    obtain ⟨c6, h⟩ := h
    refine zr_aaldv (k := 186) (by decide) rfl rfl (zlen_d (by decide)) F (zal_a F hx0 (j := 18) rfl) hr dX19_accept_29 c6 (fun y7 ey7 => ?_)
    replace h := zl_sub ey7 h
    have hy7 := zal_q hr (zal_a F hx0 (j := 18) rfl) rfl ey7
    clear ey7
    replace h := zd_some h
    obtain ⟨a8, rfl, h⟩ := h
    refine gf19_340 F (hy7 _ rfl) hr dX19_accept_30 ?_
    refine lv_iload_n F.1 F.2.1 dX19_accept_33 rfl (lv_at hl 2 rfl) ?_
    replace h := zk_some h
    obtain ⟨c9, h⟩ := h
    refine zr_aaldv (k := 158) (by decide) rfl rfl (zlen_d (by decide)) F (zal_a F (hy7 _ rfl) (j := 28) rfl) hr dX19_accept_34 c9 (fun y10 ey10 => ?_)
    replace h := zl_sub ey10 h
    have hy10 := zal_q hr (zal_a F (hy7 _ rfl) (j := 28) rfl) rfl ey10
    clear ey10
    replace h := zd_some h
    obtain ⟨a11, rfl, h⟩ := h
    refine gf19_747 F (hy10 _ rfl) hr dX19_accept_35 ?_
    refine lv_if_ne (tgt := 45) F.1 F.2.1 dX19_accept_38 (by decide) (fun c12 => ?_) (fun c12 => ?_)
    · replace h := zi_t c12 h
      exact bX19_accept_45 hst F hA E  x0 x1 x2 s0 s1 hx0 hs0 hr (lv_sub hl [0, 1, 2] rfl) h
    · replace h := zi_f (fun q => q c12) h
      refine lv_iconst (v := (1 : Int32)) F.1 F.2.1 dX19_accept_41 (by decide) ?_
      refine lv_goto (tgt := 46) F.1 F.2.1 dX19_accept_42 (by decide) ?_
      exact bX19_accept_46 hst F hA E  x0 x1 x2 s0 s1 (1 : Int32) hx0 hs0 hr (lv_sub hl [0, 1, 2] rfl) h
def fX19_accept (N : Nat)  (x0 : Nat) (x1 : Int32) (x2 : Int32) (z : St) : Option (Int32 × St) := zc (fX19_isDoor N x0 x1 x2 z) fun r1 z2 => if ¬ r1 = 0 then (fX19_accept_15 N x0 x1 x2 x0 (0 : Int32) z2) else (fX19_accept_15 N x0 x1 x2 x0 (1 : Int32) z2)
set_option maxHeartbeats 4000000 in
set_option maxRecDepth 100000 in
theorem bX19_accept_0 (hst : zSt B ids) (F : zFx p m c cX19_accept 5 s args RX19 D cy B ids A) (hA : ∀ q : Nat, s.heap.size ≤ q → A q) {r : Int32} {z' : St} (E : zEnd p l e rmX19_accept s m args below meth c cX19_accept D cy B ids A Q (some (.int r)) z' .ireturn True) {N : Nat}  (x0 : Nat) (x1 : Int32) (x2 : Int32) (hx0 : (19, x0) ∈ ids) {z : St} {H : Heap} {locs : List Loc} {ls : Array Slot} (hr : zRep D cy B ids A s.heap z H locs) (hl : lv_has ls 5 [(0, .ref (B 19 x0)), (1, .int x1), (2, .int x2)]) (h : fX19_accept N x0 x1 x2 z = some (r, z')) : W p l e rmX19_accept s m args below meth c H locs 0 0 Q (F0 m 0 ls []) := by
  unfold fX19_accept at h
  refine lv_aload_n F.1 F.2.1 dX19_accept_0 rfl (lv_at hl 0 rfl) ?_
  refine lv_aload_n F.1 F.2.1 dX19_accept_1 rfl (lv_at hl 0 rfl) ?_
  refine lv_iload_n F.1 F.2.1 dX19_accept_2 rfl (lv_at hl 1 rfl) ?_
  refine lv_iload_n F.1 F.2.1 dX19_accept_3 rfl (lv_at hl 2 rfl) ?_
  replace h := zc_some h
  obtain ⟨r1, z2, hc3, h⟩ := h
  refine zr_calli (zrun_V (As := [.int x1, .int x2]) (rest := [.ref (B 19 x0)]) zq_3012 zq_3014 zs_X19_isDoor zq_3015 zq_4 hdX19_isDoor (by decide) (T := TX19) (N := 32) rfl (okX19_isDoor l D cy B ids hst N x0 hx0 x1  x2  hr.2.2 hc3) F hr hx0 hl.1 rfl (Nat.le_of_ble_eq_true rfl) dX19_accept_4 rfl rfl hroX19_accept_X19_isDoor ⟨Nat.zero_le _, Nat.zero_le _⟩) F hA hr (fun H locs hw4 hr => ?_)
  clear hc3
  refine lv_if_ne (tgt := 14) F.1 F.2.1 dX19_accept_7 (by decide) (fun c5 => ?_) (fun c5 => ?_)
  · replace h := zi_t c5 h
    refine lv_iconst (v := (0 : Int32)) F.1 F.2.1 dX19_accept_14 (by decide) ?_
    exact bX19_accept_15 hst F hA E  x0 x1 x2 x0 (0 : Int32) hx0 hx0 hr (lv_sub hl [0, 1, 2] rfl) h
  · replace h := zi_f (fun q => q c5) h
    refine lv_iconst (v := (1 : Int32)) F.1 F.2.1 dX19_accept_10 (by decide) ?_
    refine lv_goto (tgt := 15) F.1 F.2.1 dX19_accept_11 (by decide) ?_
    exact bX19_accept_15 hst F hA E  x0 x1 x2 x0 (1 : Int32) hx0 hx0 hr (lv_sub hl [0, 1, 2] rfl) h
end SX19_accept
set_option maxRecDepth 100000 in
theorem okX19_accept (l : Launch) (D : va_G) (cy : Nat → ClassId) (B : Nat → Nat → Nat) (ids : List (Nat × Nat)) (hst : zSt B ids) (N : Nat) (x0 : Nat) (hx0 : (19, x0) ∈ ids) (x1 : Int32) (x2 : Int32) {z : St} {r : Int32} {z' : St} (hW : zWf ids z) (h : fX19_accept N x0 x1 x2 z = some (r, z')) : zM l yX19_accept (zws yX19_accept cX19_accept 5 (some .int)) rmX19_accept D cy B ids [.ref (B 19 x0), .int x1, .int x2] (some (.int r)) True z z' :=
  zM_of hst hW (by decide +kernel) (Nat.le_of_ble_eq_true rfl) (fun p e s m args below meth c A ls F hA hret hlocks hr hl => bX19_accept_0 hst F hA (zEnd_i F hret hlocks) x0 x1 x2 hx0 hr hl h)
