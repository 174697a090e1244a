abbrev rmX19_open : Room := { frames := 3, cells := 0, slots := 0, locals := 68 }
theorem hdX19_open : yX19_open.cls ≠ "java/lang/invoke/MethodHandle" ∧ yX19_open.cls ≠ "java/lang/invoke/VarHandle" ∧ (parseMethodDescriptor yX19_open.desc).map (fun d => d.parameters.length) = some 3 := by decide +kernel
theorem hroX19_open_X19_fails : rmX19_fails.frames + 1 ≤ rmX19_open.frames ∧ 8 + (3 + 11) + rmX19_fails.locals ≤ rmX19_open.locals := by decide
theorem hroX19_open_X19_giveEnd : rmX19_giveEnd.frames + 1 ≤ rmX19_open.frames ∧ 8 + (7 + 11) + rmX19_giveEnd.locals ≤ rmX19_open.locals := by decide
theorem hroX19_open_X19_isHost : rmX19_isHost.frames + 1 ≤ rmX19_open.frames ∧ 8 + (2 + 11) + rmX19_isHost.locals ≤ rmX19_open.locals := by decide
theorem hroX19_open_X19_isOwn : rmX19_isOwn.frames + 1 ≤ rmX19_open.frames ∧ 8 + (4 + 11) + rmX19_isOwn.locals ≤ rmX19_open.locals := by decide
theorem hroX19_open_X19_leastFree : rmX19_leastFree.frames + 1 ≤ rmX19_open.frames ∧ 8 + (2 + 11) + rmX19_leastFree.locals ≤ rmX19_open.locals := by decide
theorem hroX19_open_X19_stir : rmX19_stir.frames + 1 ≤ rmX19_open.frames ∧ 8 + (1 + 11) + rmX19_stir.locals ≤ rmX19_open.locals := by decide
section SX19_open
variable {p : Program} {l : Launch} {e : Env} {s : State} {m : MethodId} {args : Array Value} {below : List Frame} {meth : Method} {c : Code} {Q : State → Prop} {D : va_G} {cy : Nat → ClassId} {B : Nat → Nat → Nat} {ids : List (Nat × Nat)} {A : Nat → Prop}
def fX19_open_96 (N : Nat)  (x0 : Nat) (x2 : Int32) (x3 : Int32) (x4 : Nat) (x5 : Int32) (s0 : Nat) (s1 : Int32) (s2 : Int32) (z : St) : Option (Int32 × St) := zc (fX19_fails N s0 s1 s2 z) fun r1 z2 => if r1 = 0 then (zk x5 6 <| zl (zgQ z2 158 x4 (Int32.toNatClampNeg x5)) fun y7 => zd y7 fun a8 => zc (fX19_giveEnd N x0 x4 a8 ((50000 : Int32) + (zgI z2 12 29 x4)) x2 x3 z2) fun _ z10 => zl (zsI z10 12 29 x4 ((zgI z10 12 29 x4) + (1 : Int32))) fun z13 => zk x5 6 <| zl (zgQ z13 158 x4 (Int32.toNatClampNeg x5)) fun y15 => zd y15 fun a16 => zl (zgR z13 13 4 a16) fun y17 => zd y17 fun a18 => zl (zsI z13 14 0 a18 (2 : Int32)) fun z19 => zl (zsI z19 14 7 a18 ((zgI z19 14 5 a18) + (1 : Int32))) fun z20 => zl (zsI z20 14 28 a18 (1 : Int32)) fun z21 => zc (fX19_stir N x0 z21) fun _ z23 => some (x5, z23)) else (some ((0 : Int32), z2))
set_option maxHeartbeats 4000000 in
set_option maxRecDepth 100000 in
theorem bX19_open_96 (hst : zSt B ids) (F : zFx p m c cX19_open 7 s args RX19 D cy B ids A) (hA : ∀ q : Nat, s.heap.size ≤ q → A q) {r : Int32} {z' : St} (E : zEnd p l e rmX19_open s m args below meth c cX19_open D cy B ids A Q (some (.int r)) z' .ireturn True) {N : Nat}  (x0 : Nat) (x2 : Int32) (x3 : Int32) (x4 : Nat) (x5 : Int32) (s0 : Nat) (s1 : Int32) (s2 : Int32) (hx0 : (19, x0) ∈ ids) (hx4 : (12, x4) ∈ ids) (hs0 : (19, s0) ∈ ids) {z : St} {H : Heap} {locs : List Loc} {ls : Array Slot} (hr : zRep D cy B ids A s.heap z H locs) (hl : lv_has ls 7 [(0, .ref (B 19 x0)), (2, .int x2), (3, .int x3), (4, .ref (B 12 x4)), (5, .int x5)]) (h : fX19_open_96 N x0 x2 x3 x4 x5 s0 s1 s2 z = some (r, z')) : W p l e rmX19_open s m args below meth c H locs 0 0 Q (F0 m 96 ls [.int s2, .int s1, .ref (B 19 s0)]) := by
  unfold fX19_open_96 at h
  replace h := zc_some h
  obtain ⟨r1, z2, hc3, h⟩ := h
  refine zr_calli (zrun_V (As := [.int s1, .int s2]) (rest := []) zq_2402 zq_2404 zs_X19_fails zq_2405 zq_4 hdX19_fails (by decide) (T := TX19) (N := 32) rfl (okX19_fails l D cy B ids hst N s0 hs0 s1  s2  hr.2.2 hc3) F hr hs0 hl.1 rfl (by decide) dX19_open_96 rfl rfl hroX19_open_X19_fails ⟨Nat.zero_le _, Nat.zero_le _⟩) F hA hr (fun H locs hw4 hr => ?_)
  clear hc3
  refine lv_if_eq (tgt := 104) F.1 F.2.1 dX19_open_99 (by decide) (fun c5 => ?_) (fun c5 => ?_)
  · replace h := zi_t c5 h
    refine lv_aload_n F.1 F.2.1 dX19_open_104 rfl (lv_at hl 0 rfl) ?_
    refine lv_aload F.1 F.2.1 dX19_open_105 (lv_at hl 3 rfl) ?_
    refine lv_aload F.1 F.2.1 dX19_open_107 (lv_at hl 3 rfl) ?_
    refine gf19_340 F hx4 hr dX19_open_109 ?_
    refine lv_iload F.1 F.2.1 dX19_open_112 (lv_at hl 4 rfl) ?_
    replace h := zk_some h
    obtain ⟨c6, h⟩ := h
    refine zr_aaldv (k := 158) (by decide) rfl rfl (zlen_d (by decide)) F (zal_a F hx4 (j := 28) rfl) hr dX19_open_114 c6 (fun y7 ey7 => ?_)
    replace h := zl_sub ey7 h
    have hy7 := zal_q hr (zal_a F hx4 (j := 28) rfl) rfl ey7
    clear ey7
    refine lv_ldcw (v := (50000)) F.1 F.2.1 F.2.2.2.1 (F.2.2.2.2.1 _ zq_3007) dX19_open_115 ?_
    refine lv_aload F.1 F.2.1 dX19_open_118 (lv_at hl 3 rfl) ?_
    refine gf19_888 F hx4 hr dX19_open_120 ?_
    refine lv_iadd F.1 F.2.1 dX19_open_123 ?_
    refine lv_iload_n F.1 F.2.1 dX19_open_124 rfl (lv_at hl 1 rfl) ?_
    refine lv_iload_n F.1 F.2.1 dX19_open_125 rfl (lv_at hl 2 rfl) ?_
    replace h := zd_some h
    obtain ⟨a8, rfl, h⟩ := h
    replace h := zc_some h
    obtain ⟨r9, z10, hc11, h⟩ := h
    refine zr_callv (zrun_V (As := [.ref (B 12 x4), .ref (B 13 a8), .int ((50000 : Int32) + (zgI z2 12 29 x4)), .int x2, .int x3]) (rest := []) zq_2740 zq_2742 zs_X19_giveEnd zq_2743 zq_4 hdX19_giveEnd (by decide) (T := TX19) (N := 32) rfl (okX19_giveEnd l D cy B ids hst N x0 hx0 x4 hx4 a8 (hy7 _ rfl) ((50000 : Int32) + (zgI z2 12 29 x4))  x2  x3  hr.2.2 hc11) F hr hx0 hl.1 rfl (by decide) dX19_open_126 rfl rfl hroX19_open_X19_giveEnd ⟨Nat.zero_le _, Nat.zero_le _⟩) F hA hr (fun H locs hw12 hr => ?_)
    clear hc11
    refine lv_aload F.1 F.2.1 dX19_open_129 (lv_at hl 3 rfl) ?_
    refine lv_dup F.1 F.2.1 dX19_open_131 rfl ?_
    refine gf19_888 F hx4 hr dX19_open_132 ?_
    refine lv_iconst (v := (1 : Int32)) F.1 F.2.1 dX19_open_135 (by decide) ?_
    refine lv_iadd F.1 F.2.1 dX19_open_136 ?_
    refine pf19_888 F hx4 hr dX19_open_137 ((zgI z10 12 29 x4) + (1 : Int32)) (fun H locs z13 ez13 hr => ?_)
    replace h := zl_sub ez13 h
    clear ez13
    refine lv_aload F.1 F.2.1 dX19_open_140 (lv_at hl 3 rfl) ?_
    refine gf19_340 F hx4 hr dX19_open_142 ?_
    refine lv_iload F.1 F.2.1 dX19_open_145 (lv_at hl 4 rfl) ?_
    replace h := zk_some h
    obtain ⟨c14, h⟩ := h
    refine zr_aaldv (k := 158) (by decide) rfl rfl (zlen_d (by decide)) F (zal_a F hx4 (j := 28) rfl) hr dX19_open_147 c14 (fun y15 ey15 => ?_)
    replace h := zl_sub ey15 h
    have hy15 := zal_q hr (zal_a F hx4 (j := 28) rfl) rfl ey15
    clear ey15
    replace h := zd_some h
    obtain ⟨a16, rfl, h⟩ := h
    refine gf19_344 F (hy15 _ rfl) hr dX19_open_148 (fun y17 ey17 => ?_)
    replace h := zl_sub ey17 h
    have hy17 := zal_g hr (hy15 _ rfl) (j := 4) rfl ey17
    clear ey17
    refine zr_astore (lv' := [(6, va_rf (Option.map (B 14) y17)), (0, .ref (B 19 x0)), (2, .int x2), (3, .int x3), (4, .ref (B 12 x4)), (5, .int x5)]) F.1 F.2.1 dX19_open_151 hl (by decide) rfl (fun ls hl => ?_)
    refine zr_aload F.1 F.2.1 dX19_open_153 (lv_at hl 0 rfl) ?_
    refine lv_iconst (v := (2 : Int32)) F.1 F.2.1 dX19_open_155 (by decide) ?_
    replace h := zd_some h
    obtain ⟨a18, rfl, h⟩ := h
    refine pf19_353 F (hy17 _ rfl) hr dX19_open_156 (2 : Int32) (fun H locs z19 ez19 hr => ?_)
    replace h := zl_sub ez19 h
    clear ez19
    refine lv_aload F.1 F.2.1 dX19_open_159 (lv_at hl 0 rfl) ?_
    refine lv_aload F.1 F.2.1 dX19_open_161 (lv_at hl 0 rfl) ?_
    refine gf19_588 F (hy17 _ rfl) hr dX19_open_163 ?_
    refine lv_iconst (v := (1 : Int32)) F.1 F.2.1 dX19_open_166 (by decide) ?_
    refine lv_iadd F.1 F.2.1 dX19_open_167 ?_
    refine pf19_600 F (hy17 _ rfl) hr dX19_open_168 ((zgI z19 14 5 a18) + (1 : Int32)) (fun H locs z20 ez20 hr => ?_)
    replace h := zl_sub ez20 h
    clear ez20
    refine lv_aload F.1 F.2.1 dX19_open_171 (lv_at hl 0 rfl) ?_
    refine lv_iconst (v := (1 : Int32)) F.1 F.2.1 dX19_open_173 (by decide) ?_
    refine pf19_613 F (hy17 _ rfl) hr dX19_open_174 (1 : Int32) (by decide) (fun H locs z21 ez21 hr => ?_)
    replace h := zl_sub ez21 h
    clear ez21
    refine lv_aload_n F.1 F.2.1 dX19_open_177 rfl (lv_at hl 1 rfl) ?_
    replace h := zc_some h
    obtain ⟨r22, z23, hc24, h⟩ := h
    refine zr_callv (zrun_V (As := []) (rest := []) zq_2394 zq_2396 zs_X19_stir zq_2397 zq_4 hdX19_stir (by decide) (T := TX19) (N := 32) rfl (okX19_stir l D cy B ids hst N x0 hx0 hr.2.2 hc24) F hr hx0 hl.1 rfl (by decide) dX19_open_178 rfl rfl hroX19_open_X19_stir ⟨Nat.zero_le _, Nat.zero_le _⟩) F hA hr (fun H locs hw25 hr => ?_)
    clear hc24
    refine lv_iload F.1 F.2.1 dX19_open_181 (lv_at hl 5 rfl) ?_
    obtain ⟨rfl, rfl⟩ := zret h
    exact E _ _ _ _ dX19_open_183 trivial hr
  · replace h := zi_f c5 h
    refine lv_iconst (v := (0 : Int32)) F.1 F.2.1 dX19_open_102 (by decide) ?_
    obtain ⟨rfl, rfl⟩ := zret h
    exact E _ _ _ _ dX19_open_103 trivial hr
def fX19_open_91 (N : Nat)  (x0 : Nat) (x2 : Int32) (x3 : Int32) (x4 : Nat) (x5 : Int32) (s0 : Nat) (s1 : Int32) (z : St) : Option (Int32 × St) := fX19_open_96 N x0 x2 x3 x4 x5 s0 s1 (1 : Int32) z
set_option maxHeartbeats 4000000 in
set_option maxRecDepth 100000 in
theorem bX19_open_91 (hst : zSt B ids) (F : zFx p m c cX19_open 7 s args RX19 D cy B ids A) (hA : ∀ q : Nat, s.heap.size ≤ q → A q) {r : Int32} {z' : St} (E : zEnd p l e rmX19_open s m args below meth c cX19_open D cy B ids A Q (some (.int r)) z' .ireturn True) {N : Nat}  (x0 : Nat) (x2 : Int32) (x3 : Int32) (x4 : Nat) (x5 : Int32) (s0 : Nat) (s1 : Int32) (hx0 : (19, x0) ∈ ids) (hx4 : (12, x4) ∈ ids) (hs0 : (19, s0) ∈ ids) {z : St} {H : Heap} {locs : List Loc} {ls : Array Slot} (hr : zRep D cy B ids A s.heap z H locs) (hl : lv_has ls 7 [(0, .ref (B 19 x0)), (2, .int x2), (3, .int x3), (4, .ref (B 12 x4)), (5, .int x5)]) (h : fX19_open_91 N x0 x2 x3 x4 x5 s0 s1 z = some (r, z')) : W p l e rmX19_open s m args below meth c H locs 0 0 Q (F0 m 91 ls [.int s1, .ref (B 19 s0)]) := by
  unfold fX19_open_91 at h
  refine lv_iconst (v := (1 : Int32)) F.1 F.2.1 dX19_open_91 (by decide) ?_
  refine lv_goto (tgt := 96) F.1 F.2.1 dX19_open_92 (by decide) ?_
  exact bX19_open_96 hst F hA E  x0 x2 x3 x4 x5 s0 s1 (1 : Int32) hx0 hx4 hs0 hr (lv_sub hl [0, 1, 2, 3, 4] rfl) h
def fX19_open_40 (N : Nat)  (x0 : Nat) (x1 : Int32) (x2 : Int32) (x3 : Int32) (s0 : Nat) (s1 : Int32) (z : St) : Option (Int32 × St) := zc (fX19_fails N s0 s1 (0 : Int32) z) fun r1 z2 => if r1 = 0 then (zk x1 16 <| zl (zgQ z2 186 x0 (Int32.toNatClampNeg x1)) fun y7 => zd y7 fun a8 => zc (fX19_leastFree N a8 z2) fun r9 z10 => if r9 = (-1 : Int32) then (fX19_open_91 N x0 x2 x3 a8 r9 x0 (0 : Int32) z10) else (if (zgI z10 12 3 a8) = 0 then (fX19_open_91 N x0 x2 x3 a8 r9 x0 (0 : Int32) z10) else (if (zgI z10 12 29 a8) ≤ (15535 : Int32) then (fX19_open_96 N x0 x2 x3 a8 r9 x0 (0 : Int32) (0 : Int32) z10) else (fX19_open_91 N x0 x2 x3 a8 r9 x0 (0 : Int32) z10)))) else (some ((0 : Int32), z2))
set_option maxHeartbeats 4000000 in
set_option maxRecDepth 100000 in
theorem bX19_open_40 (hst : zSt B ids) (F : zFx p m c cX19_open 7 s args RX19 D cy B ids A) (hA : ∀ q : Nat, s.heap.size ≤ q → A q) {r : Int32} {z' : St} (E : zEnd p l e rmX19_open s m args below meth c cX19_open D cy B ids A Q (some (.int r)) z' .ireturn True) {N : Nat}  (x0 : Nat) (x1 : Int32) (x2 : Int32) (x3 : Int32) (s0 : Nat) (s1 : Int32) (hx0 : (19, x0) ∈ ids) (hs0 : (19, s0) ∈ ids) {z : St} {H : Heap} {locs : List Loc} {ls : Array Slot} (hr : zRep D cy B ids A s.heap z H locs) (hl : lv_has ls 7 [(0, .ref (B 19 x0)), (1, .int x1), (2, .int x2), (3, .int x3)]) (h : fX19_open_40 N x0 x1 x2 x3 s0 s1 z = some (r, z')) : W p l e rmX19_open s m args below meth c H locs 0 0 Q (F0 m 40 ls [.int s1, .ref (B 19 s0)]) := by
  unfold fX19_open_40 at h
  refine lv_iconst (v := (0 : Int32)) F.1 F.2.1 dX19_open_40 (by decide) ?_
  replace h := zc_some h
  obtain ⟨r1, z2, hc3, h⟩ := h
  refine zr_calli (zrun_V (As := [.int s1, .int (0 : Int32)]) (rest := []) zq_2402 zq_2404 zs_X19_fails zq_2405 zq_4 hdX19_fails (by decide) (T := TX19) (N := 32) rfl (okX19_fails l D cy B ids hst N s0 hs0 s1  (0 : Int32)  hr.2.2 hc3) F hr hs0 hl.1 rfl (by decide) dX19_open_41 rfl rfl hroX19_open_X19_fails ⟨Nat.zero_le _, Nat.zero_le _⟩) F hA hr (fun H locs hw4 hr => ?_)
  clear hc3
  refine lv_if_eq (tgt := 49) F.1 F.2.1 dX19_open_44 (by decide) (fun c5 => ?_) (fun c5 => ?_)
  · replace h := zi_t c5 h
    refine lv_aload_n F.1 F.2.1 dX19_open_49 rfl (lv_at hl 0 rfl) ?_
    refine gf19_114 F hx0 hr dX19_open_50 ?_
    refine lv_iload_n F.1 F.2.1 dX19_open_53 rfl (lv_at hl 1 rfl) ?_
    replace h := zk_some h
    obtain ⟨c6, h⟩ := h
    refine zr_aaldv (k := 186) (by decide) rfl rfl (zlen_d (by decide)) F (zal_a F hx0 (j := 18) rfl) hr dX19_open_54 c6 (fun y7 ey7 => ?_)
    replace h := zl_sub ey7 h
    have hy7 := zal_q hr (zal_a F hx0 (j := 18) rfl) rfl ey7
    clear ey7
    refine zr_astore (lv' := [(4, va_rf (Option.map (B 12) y7)), (0, .ref (B 19 x0)), (1, .int x1), (2, .int x2), (3, .int x3)]) F.1 F.2.1 dX19_open_55 hl (by decide) rfl (fun ls hl => ?_)
    refine zr_aload F.1 F.2.1 dX19_open_57 (lv_at hl 0 rfl) ?_
    replace h := zd_some h
    obtain ⟨a8, rfl, h⟩ := h
    replace h := zc_some h
    obtain ⟨r9, z10, hc11, h⟩ := h
    refine zr_calli (zrun_S (As := [.ref (B 12 a8)]) (rest := []) zq_2737 zq_2738 zq_2739 zq_4 hdX19_leastFree (okX19_leastFree l D cy B ids hst N a8 (hy7 _ rfl) hr.2.2 hc11) F hr hl.1 rfl (by decide) dX19_open_59 rfl rfl hroX19_open_X19_leastFree ⟨Nat.zero_le _, Nat.zero_le _⟩) F hA hr (fun H locs hw12 hr => ?_)
    clear hc11
    refine lv_istore (lv' := [(5, .int r9), (4, .ref (B 12 a8)), (0, .ref (B 19 x0)), (1, .int x1), (2, .int x2), (3, .int x3)]) F.1 F.2.1 dX19_open_62 hl (by decide) rfl (fun ls hl => ?_)
    refine lv_aload_n F.1 F.2.1 dX19_open_64 rfl (lv_at hl 2 rfl) ?_
    refine lv_iconst (v := (0 : Int32)) F.1 F.2.1 dX19_open_65 (by decide) ?_
    refine lv_iload F.1 F.2.1 dX19_open_66 (lv_at hl 0 rfl) ?_
    refine lv_iconst (v := (-1 : Int32)) F.1 F.2.1 dX19_open_68 (by decide) ?_
    refine lv_icmp_eq (tgt := 91) F.1 F.2.1 dX19_open_69 (by decide) (fun c13 => ?_) (fun c13 => ?_)
    · replace h := zi_t c13 h
      exact bX19_open_91 hst F hA E  x0 x2 x3 a8 r9 x0 (0 : Int32) hx0 (hy7 _ rfl) hx0 hr (lv_sub hl [2, 4, 5, 1, 0] rfl) h
    · replace h := zi_f c13 h
      refine lv_aload F.1 F.2.1 dX19_open_72 (lv_at hl 1 rfl) ?_
      refine gf19_273 F (hy7 _ rfl) hr dX19_open_74 ?_
      refine lv_if_eq (tgt := 91) F.1 F.2.1 dX19_open_77 (by decide) (fun c14 => ?_) (fun c14 => ?_)
      · replace h := zi_t c14 h
        exact bX19_open_91 hst F hA E  x0 x2 x3 a8 r9 x0 (0 : Int32) hx0 (hy7 _ rfl) hx0 hr (lv_sub hl [2, 4, 5, 1, 0] rfl) h
      · replace h := zi_f c14 h
        refine lv_aload F.1 F.2.1 dX19_open_80 (lv_at hl 1 rfl) ?_
        refine gf19_888 F (hy7 _ rfl) hr dX19_open_82 ?_
        refine lv_sipush (v := (15535 : Int32)) F.1 F.2.1 dX19_open_85 (by decide) ?_
        refine lv_icmp_le (tgt := 95) F.1 F.2.1 dX19_open_88 (by decide) (fun c15 => ?_) (fun c15 => ?_)
        · replace h := zi_t c15 h
          refine lv_iconst (v := (0 : Int32)) F.1 F.2.1 dX19_open_95 (by decide) ?_
          exact bX19_open_96 hst F hA E  x0 x2 x3 a8 r9 x0 (0 : Int32) (0 : Int32) hx0 (hy7 _ rfl) hx0 hr (lv_sub hl [2, 4, 5, 1, 0] rfl) h
        · replace h := zi_f c15 h
          exact bX19_open_91 hst F hA E  x0 x2 x3 a8 r9 x0 (0 : Int32) hx0 (hy7 _ rfl) hx0 hr (lv_sub hl [2, 4, 5, 1, 0] rfl) h
  · replace h := zi_f c5 h
    refine lv_iconst (v := (0 : Int32)) F.1 F.2.1 dX19_open_47 (by decide) ?_
    obtain ⟨rfl, rfl⟩ := zret h
    exact E _ _ _ _ dX19_open_48 trivial hr
def fX19_open_35 (N : Nat)  (x0 : Nat) (x1 : Int32) (x2 : Int32) (x3 : Int32) (s0 : Nat) (z : St) : Option (Int32 × St) := fX19_open_40 N x0 x1 x2 x3 s0 (1 : Int32) z
set_option maxHeartbeats 4000000 in
set_option maxRecDepth 100000 in
theorem bX19_open_35 (hst : zSt B ids) (F : zFx p m c cX19_open 7 s args RX19 D cy B ids A) (hA : ∀ q : Nat, s.heap.size ≤ q → A q) {r : Int32} {z' : St} (E : zEnd p l e rmX19_open s m args below meth c cX19_open D cy B ids A Q (some (.int r)) z' .ireturn True) {N : Nat}  (x0 : Nat) (x1 : Int32) (x2 : Int32) (x3 : Int32) (s0 : Nat) (hx0 : (19, x0) ∈ ids) (hs0 : (19, s0) ∈ ids) {z : St} {H : Heap} {locs : List Loc} {ls : Array Slot} (hr : zRep D cy B ids A s.heap z H locs) (hl : lv_has ls 7 [(0, .ref (B 19 x0)), (1, .int x1), (2, .int x2), (3, .int x3)]) (h : fX19_open_35 N x0 x1 x2 x3 s0 z = some (r, z')) : W p l e rmX19_open s m args below meth c H locs 0 0 Q (F0 m 35 ls [.ref (B 19 s0)]) := by
  unfold fX19_open_35 at h
  refine lv_iconst (v := (1 : Int32)) F.1 F.2.1 dX19_open_35 (by decide) ?_
  refine lv_goto (tgt := 40) F.1 F.2.1 dX19_open_36 (by decide) ?_
  exact bX19_open_40 hst F hA E  x0 x1 x2 x3 s0 (1 : Int32) hx0 hs0 hr (lv_sub hl [0, 1, 2, 3] rfl) h
def fX19_open (N : Nat)  (x0 : Nat) (x1 : Int32) (x2 : Int32) (x3 : Int32) (z : St) : Option (Int32 × St) := zc (fX19_isHost N x0 x1 z) fun r1 z2 => if r1 = 0 then (fX19_open_35 N x0 x1 x2 x3 x0 z2) else (if x3 < (1 : Int32) then (fX19_open_35 N x0 x1 x2 x3 x0 z2) else (if (65535 : Int32) < x3 then (fX19_open_35 N x0 x1 x2 x3 x0 z2) else (zk x1 16 <| zl (zgQ z2 186 x0 (Int32.toNatClampNeg x1)) fun y9 => zd y9 fun a10 => zc (fX19_isOwn N x0 a10 x2 z2) fun r11 z12 => if r11 = 0 then (fX19_open_40 N x0 x1 x2 x3 x0 (0 : Int32) z12) else (fX19_open_35 N x0 x1 x2 x3 x0 z12))))
set_option maxHeartbeats 4000000 in
set_option maxRecDepth 100000 in
theorem bX19_open_0 (hst : zSt B ids) (F : zFx p m c cX19_open 7 s args RX19 D cy B ids A) (hA : ∀ q : Nat, s.heap.size ≤ q → A q) {r : Int32} {z' : St} (E : zEnd p l e rmX19_open s m args below meth c cX19_open D cy B ids A Q (some (.int r)) z' .ireturn True) {N : Nat}  (x0 : Nat) (x1 : Int32) (x2 : Int32) (x3 : Int32) (hx0 : (19, x0) ∈ ids) {z : St} {H : Heap} {locs : List Loc} {ls : Array Slot} (hr : zRep D cy B ids A s.heap z H locs) (hl : lv_has ls 7 [(0, .ref (B 19 x0)), (1, .int x1), (2, .int x2), (3, .int x3)]) (h : fX19_open N x0 x1 x2 x3 z = some (r, z')) : W p l e rmX19_open s m args below meth c H locs 0 0 Q (F0 m 0 ls []) := by
  unfold fX19_open at h
  refine lv_aload_n F.1 F.2.1 dX19_open_0 rfl (lv_at hl 0 rfl) ?_
  refine lv_aload_n F.1 F.2.1 dX19_open_1 rfl (lv_at hl 0 rfl) ?_
  refine lv_iload_n F.1 F.2.1 dX19_open_2 rfl (lv_at hl 1 rfl) ?_
  replace h := zc_some h
  obtain ⟨r1, z2, hc3, h⟩ := h
  refine zr_calli (zrun_V (As := [.int x1]) (rest := [.ref (B 19 x0)]) zq_2998 zq_3000 zs_X19_isHost zq_3001 zq_4 hdX19_isHost (by decide) (T := TX19) (N := 32) rfl (okX19_isHost l D cy B ids hst N x0 hx0 x1  hr.2.2 hc3) F hr hx0 hl.1 rfl (Nat.le_of_ble_eq_true rfl) dX19_open_3 rfl rfl hroX19_open_X19_isHost ⟨Nat.zero_le _, Nat.zero_le _⟩) F hA hr (fun H locs hw4 hr => ?_)
  clear hc3
  refine lv_if_eq (tgt := 35) F.1 F.2.1 dX19_open_6 (by decide) (fun c5 => ?_) (fun c5 => ?_)
  · replace h := zi_t c5 h
    exact bX19_open_35 hst F hA E  x0 x1 x2 x3 x0 hx0 hx0 hr (lv_sub hl [0, 1, 2, 3] rfl) h
  · replace h := zi_f c5 h
    refine lv_iload_n F.1 F.2.1 dX19_open_9 rfl (lv_at hl 3 rfl) ?_
    refine lv_iconst (v := (1 : Int32)) F.1 F.2.1 dX19_open_10 (by decide) ?_
    refine lv_icmp_lt (tgt := 35) F.1 F.2.1 dX19_open_11 (by decide) (fun c6 => ?_) (fun c6 => ?_)
    · replace h := zi_t c6 h
      exact bX19_open_35 hst F hA E  x0 x1 x2 x3 x0 hx0 hx0 hr (lv_sub hl [0, 1, 2, 3] rfl) h
    · replace h := zi_f c6 h
      refine lv_iload_n F.1 F.2.1 dX19_open_14 rfl (lv_at hl 3 rfl) ?_
      refine lv_ldcw (v := (65535)) F.1 F.2.1 F.2.2.2.1 (F.2.2.2.2.1 _ zq_2784) dX19_open_15 ?_
      refine lv_icmp_gt (tgt := 35) F.1 F.2.1 dX19_open_18 (by decide) (fun c7 => ?_) (fun c7 => ?_)
      · replace h := zi_t c7 h
        exact bX19_open_35 hst F hA E  x0 x1 x2 x3 x0 hx0 hx0 hr (lv_sub hl [0, 1, 2, 3] rfl) h
      · replace h := zi_f c7 h
        refine lv_aload_n F.1 F.2.1 dX19_open_21 rfl (lv_at hl 0 rfl) ?_
        refine lv_aload_n F.1 F.2.1 dX19_open_22 rfl (lv_at hl 0 rfl) ?_
        refine gf19_114 F hx0 hr dX19_open_23 ?_
        refine lv_iload_n F.1 F.2.1 dX19_open_26 rfl (lv_at hl 1 rfl) ?_
        replace h := zk_some h
        obtain ⟨c8, h⟩ := h
        refine zr_aaldv (k := 186) (by decide) rfl rfl (zlen_d (by decide)) F (zal_a F hx0 (j := 18) rfl) hr dX19_open_27 c8 (fun y9 ey9 => ?_)
        replace h := zl_sub ey9 h
        have hy9 := zal_q hr (zal_a F hx0 (j := 18) rfl) rfl ey9
        clear ey9
        refine lv_iload_n F.1 F.2.1 dX19_open_28 rfl (lv_at hl 2 rfl) ?_
        replace h := zd_some h
        obtain ⟨a10, rfl, h⟩ := h
        replace h := zc_some h
        obtain ⟨r11, z12, hc13, h⟩ := h
        refine zr_calli (zrun_V (As := [.ref (B 12 a10), .int x2]) (rest := [.ref (B 19 x0)]) zq_2627 zq_2629 zs_X19_isOwn zq_2630 zq_4 hdX19_isOwn (by decide) (T := TX19) (N := 32) rfl (okX19_isOwn l D cy B ids hst N x0 hx0 a10 (hy9 _ rfl) x2  hr.2.2 hc13) F hr hx0 hl.1 rfl (Nat.le_of_ble_eq_true rfl) dX19_open_29 rfl rfl hroX19_open_X19_isOwn ⟨Nat.zero_le _, Nat.zero_le _⟩) F hA hr (fun H locs hw14 hr => ?_)
        clear hc13
        refine lv_if_eq (tgt := 39) F.1 F.2.1 dX19_open_32 (by decide) (fun c15 => ?_) (fun c15 => ?_)
        · replace h := zi_t c15 h
          refine lv_iconst (v := (0 : Int32)) F.1 F.2.1 dX19_open_39 (by decide) ?_
          exact bX19_open_40 hst F hA E  x0 x1 x2 x3 x0 (0 : Int32) hx0 hx0 hr (lv_sub hl [0, 1, 2, 3] rfl) h
        · replace h := zi_f c15 h
          exact bX19_open_35 hst F hA E  x0 x1 x2 x3 x0 hx0 hx0 hr (lv_sub hl [0, 1, 2, 3] rfl) h
end SX19_open
set_option maxRecDepth 100000 in
theorem okX19_open (l : Launch) (D : va_G) (cy : Nat → ClassId) (B : Nat → Nat → Nat) (ids : List (Nat × Nat)) (hst : zSt B ids) (N : Nat) (x0 : Nat) (hx0 : (19, x0) ∈ ids) (x1 : Int32) (x2 : Int32) (x3 : Int32) {z : St} {r : Int32} {z' : St} (hW : zWf ids z) (h : fX19_open N x0 x1 x2 x3 z = some (r, z')) : zM l yX19_open (zws yX19_open cX19_open 7 (some .int)) rmX19_open D cy B ids [.ref (B 19 x0), .int x1, .int x2, .int x3] (some (.int r)) True z z' :=
  zM_of hst hW (by decide +kernel) (Nat.le_of_ble_eq_true rfl) (fun p e s m args below meth c A ls F hA hret hlocks hr hl => bX19_open_0 hst F hA (zEnd_i F hret hlocks) x0 x1 x2 x3 hx0 hr hl h)
abbrev rmX19_accept : Room := { frames := 3, cells := 0, slots := 0, locals := 64 }
theorem hdX19_accept : yX19_accept.cls ≠ "java/lang/invoke/MethodHandle" ∧ yX19_accept.cls ≠ "java/lang/invoke/VarHandle" ∧ (parseMethodDescriptor yX19_accept.desc).map (fun d => d.parameters.length) = some 2 := by decide +kernel
theorem hroX19_accept_X19_fails : rmX19_fails.frames + 1 ≤ rmX19_accept.frames ∧ 8 + (3 + 11) + rmX19_fails.locals ≤ rmX19_accept.locals := by decide
theorem hroX19_accept_X19_isDoor : rmX19_isDoor.frames + 1 ≤ rmX19_accept.frames ∧ 8 + (3 + 11) + rmX19_isDoor.locals ≤ rmX19_accept.locals := by decide
section SX19_accept
variable {p : Program} {l : Launch} {e : Env} {s : State} {m : MethodId} {args : Array Value} {below : List Frame} {meth : Method} {c : Code} {Q : State → Prop} {D : va_G} {cy : Nat → ClassId} {B : Nat → Nat → Nat} {ids : List (Nat × Nat)} {A : Nat → Prop}
def fX19_accept_133 (N : Nat) (K56 : Nat → Int32 → Int32 → Int32 → St → Option (Int32 × St)) (x0 : Nat) (x1 : Int32) (x2 : Int32) (x3 : Int32) (z : St) : Option (Int32 × St) := zl (x3 + 1) fun v1 => K56 x0 x1 x2 v1 z
set_option maxHeartbeats 4000000 in
set_option maxRecDepth 100000 in
theorem bX19_accept_133 (hst : zSt B ids) (F : zFx p m c cX19_accept 5 s args RX19 D cy B ids A) (hA : ∀ q : Nat, s.heap.size ≤ q → A q) {r : Int32} {z' : St} (E : zEnd p l e rmX19_accept s m args below meth c cX19_accept D cy B ids A Q (some (.int r)) z' .ireturn True) {N : Nat} {K56 : Nat → Int32 → Int32 → Int32 → St → Option (Int32 × St)} (hK56 : ∀ (x0 : Nat) (x1 : Int32) (x2 : Int32) (x3 : Int32) (hx0 : (19, x0) ∈ ids) {z : St} {H : Heap} {locs : List Loc} {ls : Array Slot} (hr : zRep D cy B ids A s.heap z H locs) (hl : lv_has ls 5 [(0, .ref (B 19 x0)), (1, .int x1), (2, .int x2), (3, .int x3)]), K56 x0 x1 x2 x3 z = some (r, z') → W p l e rmX19_accept s m args below meth c H locs 0 0 Q (F0 m 56 ls [])) (x0 : Nat) (x1 : Int32) (x2 : Int32) (x3 : Int32) (hx0 : (19, x0) ∈ ids) {z : St} {H : Heap} {locs : List Loc} {ls : Array Slot} (hr : zRep D cy B ids A s.heap z H locs) (hl : lv_has ls 5 [(0, .ref (B 19 x0)), (1, .int x1), (2, .int x2), (3, .int x3)]) (h : fX19_accept_133 N K56 x0 x1 x2 x3 z = some (r, z')) : W p l e rmX19_accept s m args below meth c H locs 0 0 Q (F0 m 133 ls []) := by
  unfold fX19_accept_133 at h
  obtain ⟨v1, ev1⟩ : ∃ y : Int32, y = (x3 + 1) := ⟨_, rfl⟩
  replace h := zl_sub ev1 h
  refine lv_iinc (v := v1) (lv' := [(3, .int v1), (0, .ref (B 19 x0)), (1, .int x1), (2, .int x2)]) F.1 F.2.1 dX19_accept_133 hl (k := 3) rfl (by rw [ev1]; rfl) (by decide) rfl (fun ls hl => ?_)
  refine lv_goto (tgt := 56) F.1 F.2.1 dX19_accept_136 (by decide) ?_
  exact hK56 x0 x1 x2 v1 hx0 hr (lv_sub hl [1, 2, 3, 0] rfl) h
def fX19_accept_56b (N : Nat) (K56 : Nat → Int32 → Int32 → Int32 → St → Option (Int32 × St)) (x0 : Nat) (x1 : Int32) (x2 : Int32) (x3 : Int32) (z : St) : Option (Int32 × St) := if (6 : Int32) ≤ x3 then (some ((-1 : Int32), z)) else (zk x1 16 <| zl (zgQ z 186 x0 (Int32.toNatClampNeg x1)) fun y3 => zd y3 fun a4 => zk x3 6 <| zl (zgQ z 158 a4 (Int32.toNatClampNeg x3)) fun y6 => zd y6 fun a7 => if (zgI z 13 3 a7) = 0 then (fX19_accept_133 N K56 x0 x1 x2 x3 z) else (if ¬ (zgI z 13 5 a7) = x2 then (fX19_accept_133 N K56 x0 x1 x2 x3 z) else (if ¬ (zgI z 13 7 a7) = 0 then (fX19_accept_133 N K56 x0 x1 x2 x3 z) else (zl (zgR z 13 4 a7) fun y11 => zd y11 fun a12 => if (zgI z 14 0 a12) < (4 : Int32) then (fX19_accept_133 N K56 x0 x1 x2 x3 z) else (zl (zgR z 13 4 a7) fun y14 => zd y14 fun a15 => if (10 : Int32) < (zgI z 14 0 a15) then (fX19_accept_133 N K56 x0 x1 x2 x3 z) else (zl (zsI z 13 7 a7 (1 : Int32)) fun z17 => some (x3, z17)))))))
def fX19_accept_56 (N : Nat)  : Nat → Nat → Int32 → Int32 → Int32 → St → Option (Int32 × St)
  | 0 => fun _ _ _ _ _ => none
  | n + 1 => fX19_accept_56b N (fX19_accept_56 N  n)
set_option maxHeartbeats 4000000 in
set_option maxRecDepth 100000 in
theorem bX19_accept_56 (hst : zSt B ids) (F : zFx p m c cX19_accept 5 s args RX19 D cy B ids A) (hA : ∀ q : Nat, s.heap.size ≤ q → A q) {r : Int32} {z' : St} (E : zEnd p l e rmX19_accept s m args below meth c cX19_accept D cy B ids A Q (some (.int r)) z' .ireturn True) {N : Nat} {K56 : Nat → Int32 → Int32 → Int32 → St → Option (Int32 × St)} (hK56 : ∀ (x0 : Nat) (x1 : Int32) (x2 : Int32) (x3 : Int32) (hx0 : (19, x0) ∈ ids) {z : St} {H : Heap} {locs : List Loc} {ls : Array Slot} (hr : zRep D cy B ids A s.heap z H locs) (hl : lv_has ls 5 [(0, .ref (B 19 x0)), (1, .int x1), (2, .int x2), (3, .int x3)]), K56 x0 x1 x2 x3 z = some (r, z') → W p l e rmX19_accept s m args below meth c H locs 0 0 Q (F0 m 56 ls [])) (x0 : Nat) (x1 : Int32) (x2 : Int32) (x3 : Int32) (hx0 : (19, x0) ∈ ids) {z : St} {H : Heap} {locs : List Loc} {ls : Array Slot} (hr : zRep D cy B ids A s.heap z H locs) (hl : lv_has ls 5 [(0, .ref (B 19 x0)), (1, .int x1), (2, .int x2), (3, .int x3)]) (h : fX19_accept_56b N K56 x0 x1 x2 x3 z = some (r, z')) : W p l e rmX19_accept s m args below meth c H locs 0 0 Q (F0 m 56 ls []) := by
  unfold fX19_accept_56b at h
  refine lv_iload_n F.1 F.2.1 dX19_accept_56 rfl (lv_at hl 3 rfl) ?_
  refine lv_bipush (v := (6 : Int32)) F.1 F.2.1 dX19_accept_57 (by decide) ?_
  refine lv_icmp_ge (tgt := 139) F.1 F.2.1 dX19_accept_59 (by decide) (fun c1 => ?_) (fun c1 => ?_)
  · replace h := zi_t c1 h
    refine lv_iconst (v := (-1 : Int32)) F.1 F.2.1 dX19_accept_139 (by decide) ?_
    obtain ⟨rfl, rfl⟩ := zret h
    exact E _ _ _ _ dX19_accept_140 trivial hr
  · replace h := zi_f c1 h
    refine lv_aload_n F.1 F.2.1 dX19_accept_62 rfl (lv_at hl 0 rfl) ?_
    refine gf19_114 F hx0 hr dX19_accept_63 ?_
    refine lv_iload_n F.1 F.2.1 dX19_accept_66 rfl (lv_at hl 1 rfl) ?_
    replace h := zk_some h
    obtain ⟨c2, h⟩ := h
    refine zr_aaldv (k := 186) (by decide) rfl rfl (zlen_d (by decide)) F (zal_a F hx0 (j := 18) rfl) hr dX19_accept_67 c2 (fun y3 ey3 => ?_)
    replace h := zl_sub ey3 h
    have hy3 := zal_q hr (zal_a F hx0 (j := 18) rfl) rfl ey3
    clear ey3
    replace h := zd_some h
    obtain ⟨a4, rfl, h⟩ := h
    refine gf19_340 F (hy3 _ rfl) hr dX19_accept_68 ?_
    refine lv_iload_n F.1 F.2.1 dX19_accept_71 rfl (lv_at hl 3 rfl) ?_
    replace h := zk_some h
    obtain ⟨c5, h⟩ := h
    refine zr_aaldv (k := 158) (by decide) rfl rfl (zlen_d (by decide)) F (zal_a F (hy3 _ rfl) (j := 28) rfl) hr dX19_accept_72 c5 (fun y6 ey6 => ?_)
    replace h := zl_sub ey6 h
    have hy6 := zal_q hr (zal_a F (hy3 _ rfl) (j := 28) rfl) rfl ey6
    clear ey6
    refine zr_astore (lv' := [(4, va_rf (Option.map (B 13) y6)), (0, .ref (B 19 x0)), (1, .int x1), (2, .int x2), (3, .int x3)]) F.1 F.2.1 dX19_accept_73 hl (by decide) rfl (fun ls hl => ?_)
    refine zr_aload F.1 F.2.1 dX19_accept_75 (lv_at hl 0 rfl) ?_
    replace h := zd_some h
    obtain ⟨a7, rfl, h⟩ := h
    refine gf19_350 F (hy6 _ rfl) hr dX19_accept_77 ?_
    refine lv_if_eq (tgt := 133) F.1 F.2.1 dX19_accept_80 (by decide) (fun c8 => ?_) (fun c8 => ?_)
    · replace h := zi_t c8 h
      exact bX19_accept_133 hst F hA E hK56 x0 x1 x2 x3 hx0 hr (lv_sub hl [1, 2, 3, 4] rfl) h
    · replace h := zi_f c8 h
      refine lv_aload F.1 F.2.1 dX19_accept_83 (lv_at hl 0 rfl) ?_
      refine gf19_761 F (hy6 _ rfl) hr dX19_accept_85 ?_
      refine lv_iload_n F.1 F.2.1 dX19_accept_88 rfl (lv_at hl 3 rfl) ?_
      refine lv_icmp_ne (tgt := 133) F.1 F.2.1 dX19_accept_89 (by decide) (fun c9 => ?_) (fun c9 => ?_)
      · replace h := zi_t c9 h
        exact bX19_accept_133 hst F hA E hK56 x0 x1 x2 x3 hx0 hr (lv_sub hl [1, 2, 3, 4] rfl) h
      · replace h := zi_f (fun q => q c9) h
        refine lv_aload F.1 F.2.1 dX19_accept_92 (lv_at hl 0 rfl) ?_
        refine gf19_767 F (hy6 _ rfl) hr dX19_accept_94 ?_
        refine lv_if_ne (tgt := 133) F.1 F.2.1 dX19_accept_97 (by decide) (fun c10 => ?_) (fun c10 => ?_)
        · replace h := zi_t c10 h
          exact bX19_accept_133 hst F hA E hK56 x0 x1 x2 x3 hx0 hr (lv_sub hl [1, 2, 3, 4] rfl) h
        · replace h := zi_f (fun q => q c10) h
          refine lv_aload F.1 F.2.1 dX19_accept_100 (lv_at hl 0 rfl) ?_
          refine gf19_344 F (hy6 _ rfl) hr dX19_accept_102 (fun y11 ey11 => ?_)
          replace h := zl_sub ey11 h
          have hy11 := zal_g hr (hy6 _ rfl) (j := 4) rfl ey11
          clear ey11
          replace h := zd_some h
          obtain ⟨a12, rfl, h⟩ := h
          refine gf19_353 F (hy11 _ rfl) hr dX19_accept_105 ?_
          refine lv_iconst (v := (4 : Int32)) F.1 F.2.1 dX19_accept_108 (by decide) ?_
          refine lv_icmp_lt (tgt := 133) F.1 F.2.1 dX19_accept_109 (by decide) (fun c13 => ?_) (fun c13 => ?_)
          · replace h := zi_t c13 h
            exact bX19_accept_133 hst F hA E hK56 x0 x1 x2 x3 hx0 hr (lv_sub hl [1, 2, 3, 4] rfl) h
          · replace h := zi_f c13 h
            refine lv_aload F.1 F.2.1 dX19_accept_112 (lv_at hl 0 rfl) ?_
            refine gf19_344 F (hy6 _ rfl) hr dX19_accept_114 (fun y14 ey14 => ?_)
            replace h := zl_sub ey14 h
            have hy14 := zal_g hr (hy6 _ rfl) (j := 4) rfl ey14
            clear ey14
            replace h := zd_some h
            obtain ⟨a15, rfl, h⟩ := h
            refine gf19_353 F (hy14 _ rfl) hr dX19_accept_117 ?_
            refine lv_bipush (v := (10 : Int32)) F.1 F.2.1 dX19_accept_120 (by decide) ?_
            refine lv_icmp_gt (tgt := 133) F.1 F.2.1 dX19_accept_122 (by decide) (fun c16 => ?_) (fun c16 => ?_)
            · replace h := zi_t c16 h
              exact bX19_accept_133 hst F hA E hK56 x0 x1 x2 x3 hx0 hr (lv_sub hl [1, 2, 3, 4] rfl) h
            · replace h := zi_f c16 h
              refine lv_aload F.1 F.2.1 dX19_accept_125 (lv_at hl 0 rfl) ?_
              refine lv_iconst (v := (1 : Int32)) F.1 F.2.1 dX19_accept_127 (by decide) ?_
              refine pf19_767 F (hy6 _ rfl) hr dX19_accept_128 (1 : Int32) (by decide) (fun H locs z17 ez17 hr => ?_)
              replace h := zl_sub ez17 h
              clear ez17
              refine lv_iload_n F.1 F.2.1 dX19_accept_131 rfl (lv_at hl 4 rfl) ?_
              obtain ⟨rfl, rfl⟩ := zret h
              exact E _ _ _ _ dX19_accept_132 trivial hr
theorem lX19_accept_56 (hst : zSt B ids) (F : zFx p m c cX19_accept 5 s args RX19 D cy B ids A) (hA : ∀ q : Nat, s.heap.size ≤ q → A q) {r : Int32} {z' : St} (E : zEnd p l e rmX19_accept s m args below meth c cX19_accept D cy B ids A Q (some (.int r)) z' .ireturn True) {N : Nat}  : ∀ (n : Nat) (x0 : Nat) (x1 : Int32) (x2 : Int32) (x3 : Int32) (hx0 : (19, x0) ∈ ids) {z : St} {H : Heap} {locs : List Loc} {ls : Array Slot} (hr : zRep D cy B ids A s.heap z H locs) (hl : lv_has ls 5 [(0, .ref (B 19 x0)), (1, .int x1), (2, .int x2), (3, .int x3)]), fX19_accept_56 N  n x0 x1 x2 x3 z = some (r, z') → W p l e rmX19_accept s m args below meth c H locs 0 0 Q (F0 m 56 ls []) := by
  intro n
  induction n with
  | zero => intro x0 x1 x2 x3 hx0 z H locs ls hr hl h; cases h
  | succ n ih => intro x0 x1 x2 x3 hx0 z H locs ls hr hl h; exact bX19_accept_56 hst F hA E ih x0 x1 x2 x3 hx0 hr hl h
def fX19_accept_46 (N : Nat)  (x0 : Nat) (x1 : Int32) (x2 : Int32) (s0 : Nat) (s1 : Int32) (s2 : Int32) (z : St) : Option (Int32 × St) := zc (fX19_fails N s0 s1 s2 z) fun r1 z2 => if r1 = 0 then (fX19_accept_56 N N x0 x1 x2 (0 : Int32) z2) else (some ((0 : Int32), z2))
set_option maxHeartbeats 4000000 in
set_option maxRecDepth 100000 in
theorem bX19_accept_46 (hst : zSt B ids) (F : zFx p m c cX19_accept 5 s args RX19 D cy B ids A) (hA : ∀ q : Nat, s.heap.size ≤ q → A q) {r : Int32} {z' : St} (E : zEnd p l e rmX19_accept s m args below meth c cX19_accept D cy B ids A Q (some (.int r)) z' .ireturn True) {N : Nat}  (x0 : Nat) (x1 : Int32) (x2 : Int32) (s0 : Nat) (s1 : Int32) (s2 : Int32) (hx0 : (19, x0) ∈ ids) (hs0 : (19, s0) ∈ ids) {z : St} {H : Heap} {locs : List Loc} {ls : Array Slot} (hr : zRep D cy B ids A s.heap z H locs) (hl : lv_has ls 5 [(0, .ref (B 19 x0)), (1, .int x1), (2, .int x2)]) (h : fX19_accept_46 N x0 x1 x2 s0 s1 s2 z = some (r, z')) : W p l e rmX19_accept s m args below meth c H locs 0 0 Q (F0 m 46 ls [.int s2, .int s1, .ref (B 19 s0)]) := by
  unfold fX19_accept_46 at h
  replace h := zc_some h
  obtain ⟨r1, z2, hc3, h⟩ := h
  refine zr_calli (zrun_V (As := [.int s1, .int s2]) (rest := []) zq_2402 zq_2404 zs_X19_fails zq_2405 zq_4 hdX19_fails (by decide) (T := TX19) (N := 32) rfl (okX19_fails l D cy B ids hst N s0 hs0 s1  s2  hr.2.2 hc3) F hr hs0 hl.1 rfl (by decide) dX19_accept_46 rfl rfl hroX19_accept_X19_fails ⟨Nat.zero_le _, Nat.zero_le _⟩) F hA hr (fun H locs hw4 hr => ?_)
  clear hc3
  refine lv_if_eq (tgt := 54) F.1 F.2.1 dX19_accept_49 (by decide) (fun c5 => ?_) (fun c5 => ?_)
  · replace h := zi_t c5 h
    refine lv_iconst (v := (0 : Int32)) F.1 F.2.1 dX19_accept_54 (by decide) ?_
    refine lv_istore_n (lv' := [(3, .int (0 : Int32)), (0, .ref (B 19 x0)), (1, .int x1), (2, .int x2)]) F.1 F.2.1 dX19_accept_55 rfl hl (by decide) rfl (fun ls hl => ?_)
    exact lX19_accept_56 hst F hA E  _ x0 x1 x2 (0 : Int32) hx0 hr (lv_sub hl [1, 2, 3, 0] rfl) h
  · replace h := zi_f c5 h
    refine lv_iconst (v := (0 : Int32)) F.1 F.2.1 dX19_accept_52 (by decide) ?_
    obtain ⟨rfl, rfl⟩ := zret h
    exact E _ _ _ _ dX19_accept_53 trivial hr
def fX19_accept_45 (N : Nat)  (x0 : Nat) (x1 : Int32) (x2 : Int32) (s0 : Nat) (s1 : Int32) (z : St) : Option (Int32 × St) := fX19_accept_46 N x0 x1 x2 s0 s1 (0 : Int32) z
set_option maxHeartbeats 4000000 in
set_option maxRecDepth 100000 in
theorem bX19_accept_45 (hst : zSt B ids) (F : zFx p m c cX19_accept 5 s args RX19 D cy B ids A) (hA : ∀ q : Nat, s.heap.size ≤ q → A q) {r : Int32} {z' : St} (E : zEnd p l e rmX19_accept s m args below meth c cX19_accept D cy B ids A Q (some (.int r)) z' .ireturn True) {N : Nat}  (x0 : Nat) (x1 : Int32) (x2 : Int32) (s0 : Nat) (s1 : Int32) (hx0 : (19, x0) ∈ ids) (hs0 : (19, s0) ∈ ids) {z : St} {H : Heap} {locs : List Loc} {ls : Array Slot} (hr : zRep D cy B ids A s.heap z H locs) (hl : lv_has ls 5 [(0, .ref (B 19 x0)), (1, .int x1), (2, .int x2)]) (h : fX19_accept_45 N x0 x1 x2 s0 s1 z = some (r, z')) : W p l e rmX19_accept s m args below meth c H locs 0 0 Q (F0 m 45 ls [.int s1, .ref (B 19 s0)]) := by
  unfold fX19_accept_45 at h
  refine lv_iconst (v := (0 : Int32)) F.1 F.2.1 dX19_accept_45 (by decide) ?_
  exact bX19_accept_46 hst F hA E  x0 x1 x2 s0 s1 (0 : Int32) hx0 hs0 hr (lv_sub hl [0, 1, 2] rfl) h
def fX19_accept_15 (N : Nat)  (x0 : Nat) (x1 : Int32) (x2 : Int32) (s0 : Nat) (s1 : Int32) (z : St) : Option (Int32 × St) := zc (fX19_isDoor N x0 x1 x2 z) fun r1 z2 => if r1 = 0 then (fX19_accept_45 N x0 x1 x2 s0 s1 z2) else (zk x1 16 <| zl (zgQ z2 186 x0 (Int32.toNatClampNeg x1)) fun y7 => zd y7 fun a8 => zk x2 6 <| zl (zgQ z2 158 a8 (Int32.toNatClampNeg x2)) fun y10 => zd y10 fun a11 => if ¬ (zgI z2 13 0 a11) = 0 then (fX19_accept_45 N x0 x1 x2 s0 s1 z2) else (fX19_accept_46 N x0 x1 x2 s0 s1 (1 : Int32) z2))
set_option maxHeartbeats 4000000 in
set_option maxRecDepth 100000 in
theorem bX19_accept_15 (hst : zSt B ids) (F : zFx p m c cX19_accept 5 s args RX19 D cy B ids A) (hA : ∀ q : Nat, s.heap.size ≤ q → A q) {r : Int32} {z' : St} (E : zEnd p l e rmX19_accept s m args below meth c cX19_accept D cy B ids A Q (some (.int r)) z' .ireturn True) {N : Nat}  (x0 : Nat) (x1 : Int32) (x2 : Int32) (s0 : Nat) (s1 : Int32) (hx0 : (19, x0) ∈ ids) (hs0 : (19, s0) ∈ ids) {z : St} {H : Heap} {locs : List Loc} {ls : Array Slot} (hr : zRep D cy B ids A s.heap z H locs) (hl : lv_has ls 5 [(0, .ref (B 19 x0)), (1, .int x1), (2, .int x2)]) (h : fX19_accept_15 N x0 x1 x2 s0 s1 z = some (r, z')) : W p l e rmX19_accept s m args below meth c H locs 0 0 Q (F0 m 15 ls [.int s1, .ref (B 19 s0)]) := by
  unfold fX19_accept_15 at h
  refine lv_aload_n F.1 F.2.1 dX19_accept_15 rfl (lv_at hl 0 rfl) ?_
  refine lv_iload_n F.1 F.2.1 dX19_accept_16 rfl (lv_at hl 1 rfl) ?_
  refine lv_iload_n F.1 F.2.1 dX19_accept_17 rfl (lv_at hl 2 rfl) ?_
  replace h := zc_some h
  obtain ⟨r1, z2, hc3, h⟩ := h
  refine zr_calli (zrun_V (As := [.int x1, .int x2]) (rest := [.int s1, .ref (B 19 s0)]) zq_3012 zq_3014 zs_X19_isDoor zq_3015 zq_4 hdX19_isDoor (by decide) (T := TX19) (N := 32) rfl (okX19_isDoor l D cy B ids hst N x0 hx0 x1  x2  hr.2.2 hc3) F hr hx0 hl.1 rfl (Nat.le_of_ble_eq_true rfl) dX19_accept_18 rfl rfl hroX19_accept_X19_isDoor ⟨Nat.zero_le _, Nat.zero_le _⟩) F hA hr (fun H locs hw4 hr => ?_)
  clear hc3
  refine lv_if_eq (tgt := 45) F.1 F.2.1 dX19_accept_21 (by decide) (fun c5 => ?_) (fun c5 => ?_)
  · replace h := zi_t c5 h
    exact bX19_accept_45 hst F hA E  x0 x1 x2 s0 s1 hx0 hs0 hr (lv_sub hl [0, 1, 2] rfl) h
  · replace h := zi_f c5 h
    refine lv_aload_n F.1 F.2.1 dX19_accept_24 rfl (lv_at hl 0 rfl) ?_
    refine gf19_114 F hx0 hr dX19_accept_25 ?_
    refine lv_iload_n F.1 F.2.1 dX19_accept_28 rfl (lv_at hl 1 rfl) ?_
    replace h := zk_some h
    obtain ⟨c6, h⟩ := h
    refine zr_aaldv (k := 186) (by decide) rfl rfl (zlen_d (by decide)) F (zal_a F hx0 (j := 18) rfl) hr dX19_accept_29 c6 (fun y7 ey7 => ?_)
    replace h := zl_sub ey7 h
    have hy7 := zal_q hr (zal_a F hx0 (j := 18) rfl) rfl ey7
    clear ey7
    replace h := zd_some h
    obtain ⟨a8, rfl, h⟩ := h
    refine gf19_340 F (hy7 _ rfl) hr dX19_accept_30 ?_
    refine lv_iload_n F.1 F.2.1 dX19_accept_33 rfl (lv_at hl 2 rfl) ?_
    replace h := zk_some h
    obtain ⟨c9, h⟩ := h
    refine zr_aaldv (k := 158) (by decide) rfl rfl (zlen_d (by decide)) F (zal_a F (hy7 _ rfl) (j := 28) rfl) hr dX19_accept_34 c9 (fun y10 ey10 => ?_)
    replace h := zl_sub ey10 h
    have hy10 := zal_q hr (zal_a F (hy7 _ rfl) (j := 28) rfl) rfl ey10
    clear ey10
    replace h := zd_some h
    obtain ⟨a11, rfl, h⟩ := h
    refine gf19_747 F (hy10 _ rfl) hr dX19_accept_35 ?_
    refine lv_if_ne (tgt := 45) F.1 F.2.1 dX19_accept_38 (by decide) (fun c12 => ?_) (fun c12 => ?_)
    · replace h := zi_t c12 h
      exact bX19_accept_45 hst F hA E  x0 x1 x2 s0 s1 hx0 hs0 hr (lv_sub hl [0, 1, 2] rfl) h
    · replace h := zi_f (fun q => q c12) h
      refine lv_iconst (v := (1 : Int32)) F.1 F.2.1 dX19_accept_41 (by decide) ?_
      refine lv_goto (tgt := 46) F.1 F.2.1 dX19_accept_42 (by decide) ?_
      exact bX19_accept_46 hst F hA E  x0 x1 x2 s0 s1 (1 : Int32) hx0 hs0 hr (lv_sub hl [0, 1, 2] rfl) h
def fX19_accept (N : Nat)  (x0 : Nat) (x1 : Int32) (x2 : Int32) (z : St) : Option (Int32 × St) := zc (fX19_isDoor N x0 x1 x2 z) fun r1 z2 => if ¬ r1 = 0 then (fX19_accept_15 N x0 x1 x2 x0 (0 : Int32) z2) else (fX19_accept_15 N x0 x1 x2 x0 (1 : Int32) z2)
set_option maxHeartbeats 4000000 in
set_option maxRecDepth 100000 in
theorem bX19_accept_0 (hst : zSt B ids) (F : zFx p m c cX19_accept 5 s args RX19 D cy B ids A) (hA : ∀ q : Nat, s.heap.size ≤ q → A q) {r : Int32} {z' : St} (E : zEnd p l e rmX19_accept s m args below meth c cX19_accept D cy B ids A Q (some (.int r)) z' .ireturn True) {N : Nat}  (x0 : Nat) (x1 : Int32) (x2 : Int32) (hx0 : (19, x0) ∈ ids) {z : St} {H : Heap} {locs : List Loc} {ls : Array Slot} (hr : zRep D cy B ids A s.heap z H locs) (hl : lv_has ls 5 [(0, .ref (B 19 x0)), (1, .int x1), (2, .int x2)]) (h : fX19_accept N x0 x1 x2 z = some (r, z')) : W p l e rmX19_accept s m args below meth c H locs 0 0 Q (F0 m 0 ls []) := by
  unfold fX19_accept at h
  refine lv_aload_n F.1 F.2.1 dX19_accept_0 rfl (lv_at hl 0 rfl) ?_
  refine lv_aload_n F.1 F.2.1 dX19_accept_1 rfl (lv_at hl 0 rfl) ?_
  refine lv_iload_n F.1 F.2.1 dX19_accept_2 rfl (lv_at hl 1 rfl) ?_
  refine lv_iload_n F.1 F.2.1 dX19_accept_3 rfl (lv_at hl 2 rfl) ?_
  replace h := zc_some h
  obtain ⟨r1, z2, hc3, h⟩ := h
  refine zr_calli (zrun_V (As := [.int x1, .int x2]) (rest := [.ref (B 19 x0)]) zq_3012 zq_3014 zs_X19_isDoor zq_3015 zq_4 hdX19_isDoor (by decide) (T := TX19) (N := 32) rfl (okX19_isDoor l D cy B ids hst N x0 hx0 x1  x2  hr.2.2 hc3) F hr hx0 hl.1 rfl (Nat.le_of_ble_eq_true rfl) dX19_accept_4 rfl rfl hroX19_accept_X19_isDoor ⟨Nat.zero_le _, Nat.zero_le _⟩) F hA hr (fun H locs hw4 hr => ?_)
  clear hc3
  refine lv_if_ne (tgt := 14) F.1 F.2.1 dX19_accept_7 (by decide) (fun c5 => ?_) (fun c5 => ?_)
  · replace h := zi_t c5 h
    refine lv_iconst (v := (0 : Int32)) F.1 F.2.1 dX19_accept_14 (by decide) ?_
    exact bX19_accept_15 hst F hA E  x0 x1 x2 x0 (0 : Int32) hx0 hx0 hr (lv_sub hl [0, 1, 2] rfl) h
  · replace h := zi_f (fun q => q c5) h
    refine lv_iconst (v := (1 : Int32)) F.1 F.2.1 dX19_accept_10 (by decide) ?_
    refine lv_goto (tgt := 15) F.1 F.2.1 dX19_accept_11 (by decide) ?_
    exact bX19_accept_15 hst F hA E  x0 x1 x2 x0 (1 : Int32) hx0 hx0 hr (lv_sub hl [0, 1, 2] rfl) h
end SX19_accept
set_option maxRecDepth 100000 in
theorem okX19_accept (l : Launch) (D : va_G) (cy : Nat → ClassId) (B : Nat → Nat → Nat) (ids : List (Nat × Nat)) (hst : zSt B ids) (N : Nat) (x0 : Nat) (hx0 : (19, x0) ∈ ids) (x1 : Int32) (x2 : Int32) {z : St} {r : Int32} {z' : St} (hW : zWf ids z) (h : fX19_accept N x0 x1 x2 z = some (r, z')) : zM l yX19_accept (zws yX19_accept cX19_accept 5 (some .int)) rmX19_accept D cy B ids [.ref (B 19 x0), .int x1, .int x2] (some (.int r)) True z z' :=
  zM_of hst hW (by decide +kernel) (Nat.le_of_ble_eq_true rfl) (fun p e s m args below meth c A ls F hA hret hlocks hr hl => bX19_accept_0 hst F hA (zEnd_i F hret hlocks) x0 x1 x2 hx0 hr hl h)
abbrev rmX19_endAt : Room := { frames := 3, cells := 0, slots := 0, locals := 64 }
theorem hdX19_endAt : yX19_endAt.cls ≠ "java/lang/invoke/MethodHandle" ∧ yX19_endAt.cls ≠ "java/lang/invoke/VarHandle" ∧ (parseMethodDescriptor yX19_endAt.desc).map (fun d => d.parameters.length) = some 2 := by decide +kernel
theorem hroX19_endAt_X19_isDoor : rmX19_isDoor.frames + 1 ≤ rmX19_endAt.frames ∧ 8 + (3 + 11) + rmX19_isDoor.locals ≤ rmX19_endAt.locals := by decide
section SX19_endAt
variable {p : Program} {l : Launch} {e : Env} {s : State} {m : MethodId} {args : Array Value} {below : List Frame} {meth : Method} {c : Code} {Q : State → Prop} {D : va_G} {cy : Nat → ClassId} {B : Nat → Nat → Nat} {ids : List (Nat × Nat)} {A : Nat → Prop}
def fX19_endAt (N : Nat)  (x0 : Nat) (x1 : Int32) (x2 : Int32) (z : St) : Option (Option Nat × St) := zc (fX19_isDoor N x0 x1 x2 z) fun r1 z2 => if r1 = 0 then (some (none, z2)) else (zk x1 16 <| zl (zgQ z2 186 x0 (Int32.toNatClampNeg x1)) fun y7 => zd y7 fun a8 => zk x2 6 <| zl (zgQ z2 158 a8 (Int32.toNatClampNeg x2)) fun y10 => zd y10 fun a11 => if (zgI z2 13 3 a11) = 0 then (some (none, z2)) else (zk x1 16 <| zl (zgQ z2 186 x0 (Int32.toNatClampNeg x1)) fun y14 => zd y14 fun a15 => zk x2 6 <| zl (zgQ z2 158 a15 (Int32.toNatClampNeg x2)) fun y17 => zd y17 fun a18 => zl (zgR z2 13 4 a18) fun y19 => some (y19, z2)))
set_option maxHeartbeats 4000000 in
set_option maxRecDepth 100000 in
theorem bX19_endAt_0 (hst : zSt B ids) (F : zFx p m c cX19_endAt 3 s args RX19 D cy B ids A) (hA : ∀ q : Nat, s.heap.size ≤ q → A q) {r : Option Nat} {z' : St} (E : zEnd p l e rmX19_endAt s m args below meth c cX19_endAt D cy B ids A Q (some (va_rf (r.map (B 14)))) z' .areturn (∀ i, r = some i → (14, i) ∈ ids)) {N : Nat}  (x0 : Nat) (x1 : Int32) (x2 : Int32) (hx0 : (19, x0) ∈ ids) {z : St} {H : Heap} {locs : List Loc} {ls : Array Slot} (hr : zRep D cy B ids A s.heap z H locs) (hl : lv_has ls 3 [(0, .ref (B 19 x0)), (1, .int x1), (2, .int x2)]) (h : fX19_endAt N x0 x1 x2 z = some (r, z')) : W p l e rmX19_endAt s m args below meth c H locs 0 0 Q (F0 m 0 ls []) := by
  unfold fX19_endAt at h
  refine lv_aload_n F.1 F.2.1 dX19_endAt_0 rfl (lv_at hl 0 rfl) ?_
  refine lv_iload_n F.1 F.2.1 dX19_endAt_1 rfl (lv_at hl 1 rfl) ?_
  refine lv_iload_n F.1 F.2.1 dX19_endAt_2 rfl (lv_at hl 2 rfl) ?_
  replace h := zc_some h
  obtain ⟨r1, z2, hc3, h⟩ := h
  refine zr_calli (zrun_V (As := [.int x1, .int x2]) (rest := []) zq_3012 zq_3014 zs_X19_isDoor zq_3015 zq_4 hdX19_isDoor (by decide) (T := TX19) (N := 32) rfl (okX19_isDoor l D cy B ids hst N x0 hx0 x1  x2  hr.2.2 hc3) F hr hx0 hl.1 rfl (by decide) dX19_endAt_3 rfl rfl hroX19_endAt_X19_isDoor ⟨Nat.zero_le _, Nat.zero_le _⟩) F hA hr (fun H locs hw4 hr => ?_)
  clear hc3
  refine lv_if_eq (tgt := 43) F.1 F.2.1 dX19_endAt_6 (by decide) (fun c5 => ?_) (fun c5 => ?_)
  · replace h := zi_t c5 h
    refine lv_null F.1 F.2.1 dX19_endAt_43 ?_
    obtain ⟨rfl, rfl⟩ := zret h
    exact E _ _ _ _ dX19_endAt_44 zal_0 hr
  · replace h := zi_f c5 h
    refine lv_aload_n F.1 F.2.1 dX19_endAt_9 rfl (lv_at hl 0 rfl) ?_
    refine gf19_114 F hx0 hr dX19_endAt_10 ?_
    refine lv_iload_n F.1 F.2.1 dX19_endAt_13 rfl (lv_at hl 1 rfl) ?_
    replace h := zk_some h
    obtain ⟨c6, h⟩ := h
    refine zr_aaldv (k := 186) (by decide) rfl rfl (zlen_d (by decide)) F (zal_a F hx0 (j := 18) rfl) hr dX19_endAt_14 c6 (fun y7 ey7 => ?_)
    replace h := zl_sub ey7 h
    have hy7 := zal_q hr (zal_a F hx0 (j := 18) rfl) rfl ey7
    clear ey7
    replace h := zd_some h
    obtain ⟨a8, rfl, h⟩ := h
    refine gf19_340 F (hy7 _ rfl) hr dX19_endAt_15 ?_
    refine lv_iload_n F.1 F.2.1 dX19_endAt_18 rfl (lv_at hl 2 rfl) ?_
    replace h := zk_some h
    obtain ⟨c9, h⟩ := h
    refine zr_aaldv (k := 158) (by decide) rfl rfl (zlen_d (by decide)) F (zal_a F (hy7 _ rfl) (j := 28) rfl) hr dX19_endAt_19 c9 (fun y10 ey10 => ?_)
    replace h := zl_sub ey10 h
    have hy10 := zal_q hr (zal_a F (hy7 _ rfl) (j := 28) rfl) rfl ey10
    clear ey10
    replace h := zd_some h
    obtain ⟨a11, rfl, h⟩ := h
    refine gf19_350 F (hy10 _ rfl) hr dX19_endAt_20 ?_
    refine lv_if_eq (tgt := 43) F.1 F.2.1 dX19_endAt_23 (by decide) (fun c12 => ?_) (fun c12 => ?_)
    · replace h := zi_t c12 h
      refine lv_null F.1 F.2.1 dX19_endAt_43 ?_
      obtain ⟨rfl, rfl⟩ := zret h
      exact E _ _ _ _ dX19_endAt_44 zal_0 hr
    · replace h := zi_f c12 h
      refine lv_aload_n F.1 F.2.1 dX19_endAt_26 rfl (lv_at hl 0 rfl) ?_
      refine gf19_114 F hx0 hr dX19_endAt_27 ?_
      refine lv_iload_n F.1 F.2.1 dX19_endAt_30 rfl (lv_at hl 1 rfl) ?_
      replace h := zk_some h
      obtain ⟨c13, h⟩ := h
      refine zr_aaldv (k := 186) (by decide) rfl rfl (zlen_d (by decide)) F (zal_a F hx0 (j := 18) rfl) hr dX19_endAt_31 c13 (fun y14 ey14 => ?_)
      replace h := zl_sub ey14 h
      have hy14 := zal_q hr (zal_a F hx0 (j := 18) rfl) rfl ey14
      clear ey14
      replace h := zd_some h
      obtain ⟨a15, rfl, h⟩ := h
      refine gf19_340 F (hy14 _ rfl) hr dX19_endAt_32 ?_
      refine lv_iload_n F.1 F.2.1 dX19_endAt_35 rfl (lv_at hl 2 rfl) ?_
      replace h := zk_some h
      obtain ⟨c16, h⟩ := h
      refine zr_aaldv (k := 158) (by decide) rfl rfl (zlen_d (by decide)) F (zal_a F (hy14 _ rfl) (j := 28) rfl) hr dX19_endAt_36 c16 (fun y17 ey17 => ?_)
      replace h := zl_sub ey17 h
      have hy17 := zal_q hr (zal_a F (hy14 _ rfl) (j := 28) rfl) rfl ey17
      clear ey17
      replace h := zd_some h
      obtain ⟨a18, rfl, h⟩ := h
      refine gf19_344 F (hy17 _ rfl) hr dX19_endAt_37 (fun y19 ey19 => ?_)
      replace h := zl_sub ey19 h
      have hy19 := zal_g hr (hy17 _ rfl) (j := 4) rfl ey19
      clear ey19
      refine lv_goto (tgt := 44) F.1 F.2.1 dX19_endAt_40 (by decide) ?_
      obtain ⟨rfl, rfl⟩ := zret h
      exact E _ _ _ _ dX19_endAt_44 hy19 hr
end SX19_endAt
set_option maxRecDepth 100000 in
theorem okX19_endAt (l : Launch) (D : va_G) (cy : Nat → ClassId) (B : Nat → Nat → Nat) (ids : List (Nat × Nat)) (hst : zSt B ids) (N : Nat) (x0 : Nat) (hx0 : (19, x0) ∈ ids) (x1 : Int32) (x2 : Int32) {z : St} {r : Option Nat} {z' : St} (hW : zWf ids z) (h : fX19_endAt N x0 x1 x2 z = some (r, z')) : zM l yX19_endAt (zws yX19_endAt cX19_endAt 3 (some (.object "WholeInternetModel$End"))) rmX19_endAt D cy B ids [.ref (B 19 x0), .int x1, .int x2] (some (va_rf (r.map (B 14)))) (∀ i, r = some i → (14, i) ∈ ids) z z' :=
  zM_of hst hW (by decide +kernel) (Nat.le_of_ble_eq_true rfl) (fun p e s m args below meth c A ls F hA hret hlocks hr hl => bX19_endAt_0 hst F hA (zEnd_r F hret hlocks) x0 x1 x2 hx0 hr hl h)
abbrev rmX19_writes : Room := { frames := 2, cells := 0, slots := 0, locals := 42 }
theorem hdX19_writes : yX19_writes.cls ≠ "java/lang/invoke/MethodHandle" ∧ yX19_writes.cls ≠ "java/lang/invoke/VarHandle" ∧ (parseMethodDescriptor yX19_writes.desc).map (fun d => d.parameters.length) = some 2 := by decide +kernel
theorem hroX19_writes_X14_unthanked : rmX14_unthanked.frames + 1 ≤ rmX19_writes.frames ∧ 8 + (2 + 11) + rmX14_unthanked.locals ≤ rmX19_writes.locals := by decide
theorem hroX19_writes_X19_writeDown : rmX19_writeDown.frames + 1 ≤ rmX19_writes.frames ∧ 8 + (6 + 11) + rmX19_writeDown.locals ≤ rmX19_writes.locals := by decide
section SX19_writes
variable {p : Program} {l : Launch} {e : Env} {s : State} {m : MethodId} {args : Array Value} {below : List Frame} {meth : Method} {c : Code} {Q : State → Prop} {D : va_G} {cy : Nat → ClassId} {B : Nat → Nat → Nat} {ids : List (Nat × Nat)} {A : Nat → Prop}
def fX19_writes (N : Nat)  (x0 : Nat) (x1 : Nat) (x2 : Int32) (z : St) : Option (Int32 × St) := zc (fX14_unthanked N x1 z) fun r1 z2 => if ¬ r1 = (2048 : Int32) then (zk (((zgI z2 14 8 x1) - ((zgI z2 14 5 x1) + (1 : Int32))) &&& (2047 : Int32)) 2048 <| zl (zsA z2 159 x1 (Int32.toNatClampNeg (((zgI z2 14 8 x1) - ((zgI z2 14 5 x1) + (1 : Int32))) &&& (2047 : Int32))) (vp_nar .byte ((Int32.toInt8 x2).toInt32))) fun z7 => zl (zsI z7 14 8 x1 ((zgI z7 14 8 x1) + (1 : Int32))) fun z8 => zc (fX19_writeDown N x0 (zgI z8 14 44 x1) x2 z8) fun _ z10 => some ((1 : Int32), z10)) else (some ((0 : Int32), z2))
set_option maxHeartbeats 4000000 in
set_option maxRecDepth 100000 in
theorem bX19_writes_0 (hst : zSt B ids) (F : zFx p m c cX19_writes 3 s args RX19 D cy B ids A) (hA : ∀ q : Nat, s.heap.size ≤ q → A q) {r : Int32} {z' : St} (E : zEnd p l e rmX19_writes s m args below meth c cX19_writes D cy B ids A Q (some (.int r)) z' .ireturn (r = 0 ∨ r = 1)) {N : Nat}  (x0 : Nat) (x1 : Nat) (x2 : Int32) (hx0 : (19, x0) ∈ ids) (hx1 : (14, x1) ∈ ids) {z : St} {H : Heap} {locs : List Loc} {ls : Array Slot} (hr : zRep D cy B ids A s.heap z H locs) (hl : lv_has ls 3 [(0, .ref (B 19 x0)), (1, .ref (B 14 x1)), (2, .int x2)]) (h : fX19_writes N x0 x1 x2 z = some (r, z')) : W p l e rmX19_writes s m args below meth c H locs 0 0 Q (F0 m 0 ls []) := by
  unfold fX19_writes at h
  refine lv_aload_n F.1 F.2.1 dX19_writes_0 rfl (lv_at hl 1 rfl) ?_
  replace h := zc_some h
  obtain ⟨r1, z2, hc3, h⟩ := h
  refine zr_calli (zrun_VN (As := []) (rest := []) zn_3033 zq_3035 zs_X14_unthanked zq_3036 zq_21 hdX14_unthanked (by decide) (T := TX14) (N := 47) rfl (okX14_unthanked l D cy B ids hst N x1 hx1 hr.2.2 hc3) F hr hx1 hl.1 rfl (by decide) dX19_writes_1 rfl rfl hroX19_writes_X14_unthanked ⟨Nat.zero_le _, Nat.zero_le _⟩) F hA hr (fun H locs hw4 hr => ?_)
  clear hc3
  refine lv_sipush (v := (2048 : Int32)) F.1 F.2.1 dX19_writes_4 (by decide) ?_
  refine lv_icmp_ne (tgt := 12) F.1 F.2.1 dX19_writes_7 (by decide) (fun c5 => ?_) (fun c5 => ?_)
  · replace h := zi_t c5 h
    refine lv_aload_n F.1 F.2.1 dX19_writes_12 rfl (lv_at hl 1 rfl) ?_
    refine gf19_688 F hx1 hr dX19_writes_13 ?_
    refine lv_aload_n F.1 F.2.1 dX19_writes_16 rfl (lv_at hl 1 rfl) ?_
    refine gf19_658 F hx1 hr dX19_writes_17 ?_
    refine lv_aload_n F.1 F.2.1 dX19_writes_20 rfl (lv_at hl 1 rfl) ?_
    refine gf19_588 F hx1 hr dX19_writes_21 ?_
    refine lv_iconst (v := (1 : Int32)) F.1 F.2.1 dX19_writes_24 (by decide) ?_
    refine lv_iadd F.1 F.2.1 dX19_writes_25 ?_
    refine lv_isub F.1 F.2.1 dX19_writes_26 ?_
    refine lv_sipush (v := (2047 : Int32)) F.1 F.2.1 dX19_writes_27 (by decide) ?_
    refine lv_iand F.1 F.2.1 dX19_writes_30 ?_
    refine lv_iload_n F.1 F.2.1 dX19_writes_31 rfl (lv_at hl 2 rfl) ?_
    refine lv_i2b F.1 F.2.1 dX19_writes_32 rfl ?_
    replace h := zk_some h
    obtain ⟨c6, h⟩ := h
    refine zr_bast (k := 159) (by decide) rfl (by decide) F (zal_a F hx1 (j := 10) rfl) hr dX19_writes_33 c6 (fun H locs z7 ez7 hr => ?_)
    replace h := zl_sub ez7 h
    clear ez7
    refine lv_aload_n F.1 F.2.1 dX19_writes_34 rfl (lv_at hl 1 rfl) ?_
    refine lv_dup F.1 F.2.1 dX19_writes_35 rfl ?_
    refine gf19_658 F hx1 hr dX19_writes_36 ?_
    refine lv_iconst (v := (1 : Int32)) F.1 F.2.1 dX19_writes_39 (by decide) ?_
    refine lv_iadd F.1 F.2.1 dX19_writes_40 ?_
    refine pf19_658 F hx1 hr dX19_writes_41 ((zgI z7 14 8 x1) + (1 : Int32)) (fun H locs z8 ez8 hr => ?_)
    replace h := zl_sub ez8 h
    clear ez8
    refine lv_aload_n F.1 F.2.1 dX19_writes_44 rfl (lv_at hl 0 rfl) ?_
    refine lv_aload_n F.1 F.2.1 dX19_writes_45 rfl (lv_at hl 1 rfl) ?_
    refine gf19_732 F hx1 hr dX19_writes_46 ?_
    refine lv_iload_n F.1 F.2.1 dX19_writes_49 rfl (lv_at hl 2 rfl) ?_
    replace h := zc_some h
    obtain ⟨r9, z10, hc11, h⟩ := h
    refine zr_callv (zrun_V (As := [.int (zgI z8 14 44 x1), .int x2]) (rest := []) zq_3037 zq_3039 zs_X19_writeDown zq_3040 zq_4 hdX19_writeDown (by decide) (T := TX19) (N := 32) rfl (okX19_writeDown l D cy B ids hst N x0 hx0 (zgI z8 14 44 x1)  x2  hr.2.2 hc11) F hr hx0 hl.1 rfl (by decide) dX19_writes_50 rfl rfl hroX19_writes_X19_writeDown ⟨Nat.zero_le _, Nat.zero_le _⟩) F hA hr (fun H locs hw12 hr => ?_)
    clear hc11
    refine lv_iconst (v := (1 : Int32)) F.1 F.2.1 dX19_writes_53 (by decide) ?_
    obtain ⟨rfl, rfl⟩ := zret h
    exact E _ _ _ _ dX19_writes_54 (by decide) hr
  · replace h := zi_f (fun q => q c5) h
    refine lv_iconst (v := (0 : Int32)) F.1 F.2.1 dX19_writes_10 (by decide) ?_
    obtain ⟨rfl, rfl⟩ := zret h
    exact E _ _ _ _ dX19_writes_11 (by decide) hr
end SX19_writes
set_option maxRecDepth 100000 in
theorem okX19_writes (l : Launch) (D : va_G) (cy : Nat → ClassId) (B : Nat → Nat → Nat) (ids : List (Nat × Nat)) (hst : zSt B ids) (N : Nat) (x0 : Nat) (hx0 : (19, x0) ∈ ids) (x1 : Nat) (hx1 : (14, x1) ∈ ids) (x2 : Int32) {z : St} {r : Int32} {z' : St} (hW : zWf ids z) (h : fX19_writes N x0 x1 x2 z = some (r, z')) : zM l yX19_writes (zws yX19_writes cX19_writes 3 (some .boolean)) rmX19_writes D cy B ids [.ref (B 19 x0), .ref (B 14 x1), .int x2] (some (.int r)) (r = 0 ∨ r = 1) z z' :=
  zM_of hst hW (by decide +kernel) (Nat.le_of_ble_eq_true rfl) (fun p e s m args below meth c A ls F hA hret hlocks hr hl => bX19_writes_0 hst F hA (zEnd_z F hret hlocks) x0 x1 x2 hx0 hx1 hr hl h)
abbrev rmX19_write : Room := { frames := 4, cells := 0, slots := 0, locals := 86 }
theorem hdX19_write : yX19_write.cls ≠ "java/lang/invoke/MethodHandle" ∧ yX19_write.cls ≠ "java/lang/invoke/VarHandle" ∧ (parseMethodDescriptor yX19_write.desc).map (fun d => d.parameters.length) = some 4 := by decide +kernel
theorem hroX19_write_X14_canWrite : rmX14_canWrite.frames + 1 ≤ rmX19_write.frames ∧ 8 + (1 + 11) + rmX14_canWrite.locals ≤ rmX19_write.locals := by decide
theorem hroX19_write_X14_persist : rmX14_persist.frames + 1 ≤ rmX19_write.frames ∧ 8 + (2 + 11) + rmX14_persist.locals ≤ rmX19_write.locals := by decide
theorem hroX19_write_X19_endAt : rmX19_endAt.frames + 1 ≤ rmX19_write.frames ∧ 8 + (3 + 11) + rmX19_endAt.locals ≤ rmX19_write.locals := by decide
theorem hroX19_write_X19_fails : rmX19_fails.frames + 1 ≤ rmX19_write.frames ∧ 8 + (3 + 11) + rmX19_fails.locals ≤ rmX19_write.locals := by decide
theorem hroX19_write_X19_isDoor : rmX19_isDoor.frames + 1 ≤ rmX19_write.frames ∧ 8 + (3 + 11) + rmX19_isDoor.locals ≤ rmX19_write.locals := by decide
theorem hroX19_write_X19_stir : rmX19_stir.frames + 1 ≤ rmX19_write.frames ∧ 8 + (1 + 11) + rmX19_stir.locals ≤ rmX19_write.locals := by decide
theorem hroX19_write_X19_writes : rmX19_writes.frames + 1 ≤ rmX19_write.frames ∧ 8 + (3 + 11) + rmX19_writes.locals ≤ rmX19_write.locals := by decide
section SX19_write
variable {p : Program} {l : Launch} {e : Env} {s : State} {m : MethodId} {args : Array Value} {below : List Frame} {meth : Method} {c : Code} {Q : State → Prop} {D : va_G} {cy : Nat → ClassId} {B : Nat → Nat → Nat} {ids : List (Nat × Nat)} {A : Nat → Prop}
def fX19_write_100 (N : Nat)  (x0 : Nat) (x6 : Option Nat) (x7 : Int32) (z : St) : Option (Int32 × St) := zd x6 fun a1 => zc (fX14_persist N a1 (zgI z 19 24 x0) z) fun _ z3 => zc (fX19_stir N x0 z3) fun _ z7 => some (x7, z7)
set_option maxHeartbeats 4000000 in
set_option maxRecDepth 100000 in
theorem bX19_write_100 (hst : zSt B ids) (F : zFx p m c cX19_write 8 s args RX19 D cy B ids A) (hA : ∀ q : Nat, s.heap.size ≤ q → A q) {r : Int32} {z' : St} (E : zEnd p l e rmX19_write s m args below meth c cX19_write D cy B ids A Q (some (.int r)) z' .ireturn True) {N : Nat}  (x0 : Nat) (x6 : Option Nat) (x7 : Int32) (hx0 : (19, x0) ∈ ids) (hx6 : ∀ t, x6 = some t → (14, t) ∈ ids) {z : St} {H : Heap} {locs : List Loc} {ls : Array Slot} (hr : zRep D cy B ids A s.heap z H locs) (hl : lv_has ls 8 [(0, .ref (B 19 x0)), (6, va_rf (Option.map (B 14) x6)), (7, .int x7)]) (h : fX19_write_100 N x0 x6 x7 z = some (r, z')) : W p l e rmX19_write s m args below meth c H locs 0 0 Q (F0 m 100 ls []) := by
  unfold fX19_write_100 at h
  refine zr_aload F.1 F.2.1 dX19_write_100 (lv_at hl 1 rfl) ?_
  refine lv_aload_n F.1 F.2.1 dX19_write_102 rfl (lv_at hl 0 rfl) ?_
  refine gf19_143 F hx0 hr dX19_write_103 ?_
  replace h := zd_some h
  obtain ⟨a1, rfl, h⟩ := h
  replace h := zc_some h
  obtain ⟨r2, z3, hc4, h⟩ := h
  refine zr_callv (zrun_VN (As := [.int (zgI z 19 24 x0)]) (rest := []) zn_2973 zq_2975 zs_X14_persist zq_2976 zq_21 hdX14_persist (by decide) (T := TX14) (N := 47) rfl (okX14_persist l D cy B ids hst N a1 (hx6 _ rfl) (zgI z 19 24 x0)  hr.2.2 hc4) F hr (hx6 _ rfl) hl.1 rfl (by decide) dX19_write_106 rfl rfl hroX19_write_X14_persist ⟨Nat.zero_le _, Nat.zero_le _⟩) F hA hr (fun H locs hw5 hr => ?_)
  clear hc4
  refine lv_aload_n F.1 F.2.1 dX19_write_109 rfl (lv_at hl 0 rfl) ?_
  replace h := zc_some h
  obtain ⟨r6, z7, hc8, h⟩ := h
  refine zr_callv (zrun_V (As := []) (rest := []) zq_2394 zq_2396 zs_X19_stir zq_2397 zq_4 hdX19_stir (by decide) (T := TX19) (N := 32) rfl (okX19_stir l D cy B ids hst N x0 hx0 hr.2.2 hc8) F hr hx0 hl.1 rfl (by decide) dX19_write_110 rfl rfl hroX19_write_X19_stir ⟨Nat.zero_le _, Nat.zero_le _⟩) F hA hr (fun H locs hw9 hr => ?_)
  clear hc8
  refine lv_iload F.1 F.2.1 dX19_write_113 (lv_at hl 2 rfl) ?_
  obtain ⟨rfl, rfl⟩ := zret h
  exact E _ _ _ _ dX19_write_115 trivial hr
def fX19_write_65b (N : Nat) (K65 : Nat → Int64 → Int32 → Option Nat → Int32 → St → Option (Int32 × St)) (x0 : Nat) (x3 : Int64) (x5 : Int32) (x6 : Option Nat) (x7 : Int32) (z : St) : Option (Int32 × St) := if x5 ≤ x7 then (fX19_write_100 N x0 x6 x7 z) else (zd x6 fun a2 => zc (fX19_writes N x0 a2 (Int64.toInt32 (x3 >>> ((((8 : Int32) * ((x5 - (1 : Int32)) - x7))).toInt64 &&& 63))) z) fun r3 z4 => if r3 = 0 then (fX19_write_100 N x0 (some a2) x7 z4) else (zl (x7 + 1) fun v8 => K65 x0 x3 x5 (some a2) v8 z4))
def fX19_write_65 (N : Nat)  : Nat → Nat → Int64 → Int32 → Option Nat → Int32 → St → Option (Int32 × St)
  | 0 => fun _ _ _ _ _ _ => none
  | n + 1 => fX19_write_65b N (fX19_write_65 N  n)
set_option maxHeartbeats 4000000 in
set_option maxRecDepth 100000 in
theorem bX19_write_65 (hst : zSt B ids) (F : zFx p m c cX19_write 8 s args RX19 D cy B ids A) (hA : ∀ q : Nat, s.heap.size ≤ q → A q) {r : Int32} {z' : St} (E : zEnd p l e rmX19_write s m args below meth c cX19_write D cy B ids A Q (some (.int r)) z' .ireturn True) {N : Nat} {K65 : Nat → Int64 → Int32 → Option Nat → Int32 → St → Option (Int32 × St)} (hK65 : ∀ (x0 : Nat) (x3 : Int64) (x5 : Int32) (x6 : Option Nat) (x7 : Int32) (hx0 : (19, x0) ∈ ids) (hx6 : ∀ t, x6 = some t → (14, t) ∈ ids) {z : St} {H : Heap} {locs : List Loc} {ls : Array Slot} (hr : zRep D cy B ids A s.heap z H locs) (hl : lv_has ls 8 [(0, .ref (B 19 x0)), (3, .long x3), (5, .int x5), (6, va_rf (Option.map (B 14) x6)), (7, .int x7)]), K65 x0 x3 x5 x6 x7 z = some (r, z') → W p l e rmX19_write s m args below meth c H locs 0 0 Q (F0 m 65 ls [])) (x0 : Nat) (x3 : Int64) (x5 : Int32) (x6 : Option Nat) (x7 : Int32) (hx0 : (19, x0) ∈ ids) (hx6 : ∀ t, x6 = some t → (14, t) ∈ ids) {z : St} {H : Heap} {locs : List Loc} {ls : Array Slot} (hr : zRep D cy B ids A s.heap z H locs) (hl : lv_has ls 8 [(0, .ref (B 19 x0)), (3, .long x3), (5, .int x5), (6, va_rf (Option.map (B 14) x6)), (7, .int x7)]) (h : fX19_write_65b N K65 x0 x3 x5 x6 x7 z = some (r, z')) : W p l e rmX19_write s m args below meth c H locs 0 0 Q (F0 m 65 ls []) := by
  unfold fX19_write_65b at h
  refine lv_iload F.1 F.2.1 dX19_write_65 (lv_at hl 4 rfl) ?_
  refine lv_iload F.1 F.2.1 dX19_write_67 (lv_at hl 2 rfl) ?_
  refine lv_icmp_ge (tgt := 100) F.1 F.2.1 dX19_write_69 (by decide) (fun c1 => ?_) (fun c1 => ?_)
  · replace h := zi_t c1 h
    exact bX19_write_100 hst F hA E  x0 x6 x7 hx0 hx6 hr (lv_sub hl [0, 3, 4] rfl) h
  · replace h := zi_f c1 h
    refine lv_aload_n F.1 F.2.1 dX19_write_72 rfl (lv_at hl 0 rfl) ?_
    refine zr_aload F.1 F.2.1 dX19_write_73 (lv_at hl 3 rfl) ?_
    refine lv_lload_n F.1 F.2.1 dX19_write_75 rfl (lv_at hl 1 rfl) ?_
    refine lv_bipush (v := (8 : Int32)) F.1 F.2.1 dX19_write_76 (by decide) ?_
    refine lv_iload F.1 F.2.1 dX19_write_78 (lv_at hl 2 rfl) ?_
    refine lv_iconst (v := (1 : Int32)) F.1 F.2.1 dX19_write_80 (by decide) ?_
    refine lv_isub F.1 F.2.1 dX19_write_81 ?_
    refine lv_iload F.1 F.2.1 dX19_write_82 (lv_at hl 4 rfl) ?_
    refine lv_isub F.1 F.2.1 dX19_write_84 ?_
    refine lv_imul F.1 F.2.1 dX19_write_85 ?_
    refine lv_lshr F.1 F.2.1 dX19_write_86 rfl ?_
    refine lv_l2i F.1 F.2.1 dX19_write_87 rfl ?_
    replace h := zd_some h
    obtain ⟨a2, rfl, h⟩ := h
    replace h := zc_some h
    obtain ⟨r3, z4, hc5, h⟩ := h
    refine zr_calli (zrun_V (As := [.ref (B 14 a2), .int (Int64.toInt32 (x3 >>> ((((8 : Int32) * ((x5 - (1 : Int32)) - x7))).toInt64 &&& 63)))]) (rest := []) zq_3029 zq_3031 zs_X19_writes zq_3032 zq_4 hdX19_writes (by decide) (T := TX19) (N := 32) rfl (okX19_writes l D cy B ids hst N x0 hx0 a2 (hx6 _ rfl) (Int64.toInt32 (x3 >>> ((((8 : Int32) * ((x5 - (1 : Int32)) - x7))).toInt64 &&& 63)))  hr.2.2 hc5) F hr hx0 hl.1 rfl (by decide) dX19_write_88 rfl rfl hroX19_write_X19_writes ⟨Nat.zero_le _, Nat.zero_le _⟩) F hA hr (fun H locs hw6 hr => ?_)
    clear hc5
    refine lv_if_eq (tgt := 100) F.1 F.2.1 dX19_write_91 (by decide) (fun c7 => ?_) (fun c7 => ?_)
    · replace h := zi_t c7 h
      exact bX19_write_100 hst F hA E  x0 (some a2) x7 hx0 (zal_s (hx6 _ rfl)) hr (lv_sub hl [0, 3, 4] rfl) h
    · replace h := zi_f c7 h
      obtain ⟨v8, ev8⟩ : ∃ y : Int32, y = (x7 + 1) := ⟨_, rfl⟩
      replace h := zl_sub ev8 h
      refine lv_iinc (v := v8) (lv' := [(7, .int v8), (0, .ref (B 19 x0)), (3, .long x3), (5, .int x5), (6, .ref (B 14 a2))]) F.1 F.2.1 dX19_write_94 hl (k := 4) rfl (by rw [ev8]; rfl) (by decide) rfl (fun ls hl => ?_)
      refine lv_goto (tgt := 65) F.1 F.2.1 dX19_write_97 (by decide) ?_
      exact hK65 x0 x3 x5 (some a2) v8 hx0 (zal_s (hx6 _ rfl)) hr (lv_sub hl [1, 2, 3, 4, 0] rfl) h
theorem lX19_write_65 (hst : zSt B ids) (F : zFx p m c cX19_write 8 s args RX19 D cy B ids A) (hA : ∀ q : Nat, s.heap.size ≤ q → A q) {r : Int32} {z' : St} (E : zEnd p l e rmX19_write s m args below meth c cX19_write D cy B ids A Q (some (.int r)) z' .ireturn True) {N : Nat}  : ∀ (n : Nat) (x0 : Nat) (x3 : Int64) (x5 : Int32) (x6 : Option Nat) (x7 : Int32) (hx0 : (19, x0) ∈ ids) (hx6 : ∀ t, x6 = some t → (14, t) ∈ ids) {z : St} {H : Heap} {locs : List Loc} {ls : Array Slot} (hr : zRep D cy B ids A s.heap z H locs) (hl : lv_has ls 8 [(0, .ref (B 19 x0)), (3, .long x3), (5, .int x5), (6, va_rf (Option.map (B 14) x6)), (7, .int x7)]), fX19_write_65 N  n x0 x3 x5 x6 x7 z = some (r, z') → W p l e rmX19_write s m args below meth c H locs 0 0 Q (F0 m 65 ls []) := by
  intro n
  induction n with
  | zero => intro x0 x3 x5 x6 x7 hx0 hx6 z H locs ls hr hl h; cases h
  | succ n ih => intro x0 x3 x5 x6 x7 hx0 hx6 z H locs ls hr hl h; exact bX19_write_65 hst F hA E ih x0 x3 x5 x6 x7 hx0 hx6 hr hl h
def fX19_write_54 (N : Nat)  (x0 : Nat) (x3 : Int64) (x5 : Int32) (x6 : Option Nat) (s0 : Nat) (s1 : Int32) (s2 : Int32) (z : St) : Option (Int32 × St) := zc (fX19_fails N s0 s1 s2 z) fun r1 z2 => if r1 = 0 then (fX19_write_65 N N x0 x3 x5 x6 (0 : Int32) z2) else (some ((0 : Int32), z2))
set_option maxHeartbeats 4000000 in
set_option maxRecDepth 100000 in
theorem bX19_write_54 (hst : zSt B ids) (F : zFx p m c cX19_write 8 s args RX19 D cy B ids A) (hA : ∀ q : Nat, s.heap.size ≤ q → A q) {r : Int32} {z' : St} (E : zEnd p l e rmX19_write s m args below meth c cX19_write D cy B ids A Q (some (.int r)) z' .ireturn True) {N : Nat}  (x0 : Nat) (x3 : Int64) (x5 : Int32) (x6 : Option Nat) (s0 : Nat) (s1 : Int32) (s2 : Int32) (hx0 : (19, x0) ∈ ids) (hx6 : ∀ t, x6 = some t → (14, t) ∈ ids) (hs0 : (19, s0) ∈ ids) {z : St} {H : Heap} {locs : List Loc} {ls : Array Slot} (hr : zRep D cy B ids A s.heap z H locs) (hl : lv_has ls 8 [(0, .ref (B 19 x0)), (3, .long x3), (5, .int x5), (6, va_rf (Option.map (B 14) x6))]) (h : fX19_write_54 N x0 x3 x5 x6 s0 s1 s2 z = some (r, z')) : W p l e rmX19_write s m args below meth c H locs 0 0 Q (F0 m 54 ls [.int s2, .int s1, .ref (B 19 s0)]) := by
  unfold fX19_write_54 at h
  replace h := zc_some h
  obtain ⟨r1, z2, hc3, h⟩ := h
  refine zr_calli (zrun_V (As := [.int s1, .int s2]) (rest := []) zq_2402 zq_2404 zs_X19_fails zq_2405 zq_4 hdX19_fails (by decide) (T := TX19) (N := 32) rfl (okX19_fails l D cy B ids hst N s0 hs0 s1  s2  hr.2.2 hc3) F hr hs0 hl.1 rfl (by decide) dX19_write_54 rfl rfl hroX19_write_X19_fails ⟨Nat.zero_le _, Nat.zero_le _⟩) F hA hr (fun H locs hw4 hr => ?_)
  clear hc3
  refine lv_if_eq (tgt := 62) F.1 F.2.1 dX19_write_57 (by decide) (fun c5 => ?_) (fun c5 => ?_)
  · replace h := zi_t c5 h
    refine lv_iconst (v := (0 : Int32)) F.1 F.2.1 dX19_write_62 (by decide) ?_
    refine lv_istore (lv' := [(7, .int (0 : Int32)), (0, .ref (B 19 x0)), (3, .long x3), (5, .int x5), (6, va_rf (Option.map (B 14) x6))]) F.1 F.2.1 dX19_write_63 hl (by decide) (by simp only [List.filter, zrf_cat]; rfl) (fun ls hl => ?_)
    exact lX19_write_65 hst F hA E  _ x0 x3 x5 x6 (0 : Int32) hx0 hx6 hr (lv_sub hl [1, 2, 3, 4, 0] rfl) h
  · replace h := zi_f c5 h
    refine lv_iconst (v := (0 : Int32)) F.1 F.2.1 dX19_write_60 (by decide) ?_
    obtain ⟨rfl, rfl⟩ := zret h
    exact E _ _ _ _ dX19_write_61 trivial hr
def fX19_write_49 (N : Nat)  (x0 : Nat) (x3 : Int64) (x5 : Int32) (x6 : Option Nat) (s0 : Nat) (s1 : Int32) (z : St) : Option (Int32 × St) := fX19_write_54 N x0 x3 x5 x6 s0 s1 (1 : Int32) z
set_option maxHeartbeats 4000000 in
set_option maxRecDepth 100000 in
theorem bX19_write_49 (hst : zSt B ids) (F : zFx p m c cX19_write 8 s args RX19 D cy B ids A) (hA : ∀ q : Nat, s.heap.size ≤ q → A q) {r : Int32} {z' : St} (E : zEnd p l e rmX19_write s m args below meth c cX19_write D cy B ids A Q (some (.int r)) z' .ireturn True) {N : Nat}  (x0 : Nat) (x3 : Int64) (x5 : Int32) (x6 : Option Nat) (s0 : Nat) (s1 : Int32) (hx0 : (19, x0) ∈ ids) (hx6 : ∀ t, x6 = some t → (14, t) ∈ ids) (hs0 : (19, s0) ∈ ids) {z : St} {H : Heap} {locs : List Loc} {ls : Array Slot} (hr : zRep D cy B ids A s.heap z H locs) (hl : lv_has ls 8 [(0, .ref (B 19 x0)), (3, .long x3), (5, .int x5), (6, va_rf (Option.map (B 14) x6))]) (h : fX19_write_49 N x0 x3 x5 x6 s0 s1 z = some (r, z')) : W p l e rmX19_write s m args below meth c H locs 0 0 Q (F0 m 49 ls [.int s1, .ref (B 19 s0)]) := by
  unfold fX19_write_49 at h
  refine lv_iconst (v := (1 : Int32)) F.1 F.2.1 dX19_write_49 (by decide) ?_
  refine lv_goto (tgt := 54) F.1 F.2.1 dX19_write_50 (by decide) ?_
  exact bX19_write_54 hst F hA E  x0 x3 x5 x6 s0 s1 (1 : Int32) hx0 hx6 hs0 hr (lv_sub hl [0, 1, 2, 3] rfl) h
def fX19_write_36 (N : Nat)  (x0 : Nat) (x3 : Int64) (x5 : Int32) (x6 : Option Nat) (s0 : Nat) (s1 : Int32) (z : St) : Option (Int32 × St) := zo x6 (fX19_write_49 N x0 x3 x5 none s0 s1 z) fun a2 => zc (fX14_canWrite N a2 z) fun r3 z4 => if ¬ r3 = 0 then (fX19_write_54 N x0 x3 x5 (some a2) s0 s1 (0 : Int32) z4) else (fX19_write_49 N x0 x3 x5 (some a2) s0 s1 z4)
set_option maxHeartbeats 4000000 in
set_option maxRecDepth 100000 in
theorem bX19_write_36 (hst : zSt B ids) (F : zFx p m c cX19_write 8 s args RX19 D cy B ids A) (hA : ∀ q : Nat, s.heap.size ≤ q → A q) {r : Int32} {z' : St} (E : zEnd p l e rmX19_write s m args below meth c cX19_write D cy B ids A Q (some (.int r)) z' .ireturn True) {N : Nat}  (x0 : Nat) (x3 : Int64) (x5 : Int32) (x6 : Option Nat) (s0 : Nat) (s1 : Int32) (hx0 : (19, x0) ∈ ids) (hx6 : ∀ t, x6 = some t → (14, t) ∈ ids) (hs0 : (19, s0) ∈ ids) {z : St} {H : Heap} {locs : List Loc} {ls : Array Slot} (hr : zRep D cy B ids A s.heap z H locs) (hl : lv_has ls 8 [(0, .ref (B 19 x0)), (3, .long x3), (5, .int x5), (6, va_rf (Option.map (B 14) x6))]) (h : fX19_write_36 N x0 x3 x5 x6 s0 s1 z = some (r, z')) : W p l e rmX19_write s m args below meth c H locs 0 0 Q (F0 m 36 ls [.int s1, .ref (B 19 s0)]) := by
  unfold fX19_write_36 at h
  refine zr_aload F.1 F.2.1 dX19_write_36 (lv_at hl 3 rfl) ?_
  refine zr_ifnull (tgt := 49) F.1 F.2.1 dX19_write_38 (by decide) (fun e1 => ?_) (fun a2 e1 => ?_)
  · replace h := zo_n e1 h
    subst e1
    exact bX19_write_49 hst F hA E  x0 x3 x5 none s0 s1 hx0 zal_0 hs0 hr (lv_sub hl [0, 1, 2, 3] rfl) h
  · replace h := zo_s e1 h
    subst e1
    refine lv_aload F.1 F.2.1 dX19_write_41 (lv_at hl 3 rfl) ?_
    replace h := zc_some h
    obtain ⟨r3, z4, hc5, h⟩ := h
    refine zr_calli (zrun_VN (As := []) (rest := [.int s1, .ref (B 19 s0)]) zn_3024 zq_3026 zs_X14_canWrite zq_3027 zq_21 hdX14_canWrite (by decide) (T := TX14) (N := 47) rfl (okX14_canWrite l D cy B ids hst N a2 (hx6 _ rfl) hr.2.2 hc5) F hr (hx6 _ rfl) hl.1 rfl (Nat.le_of_ble_eq_true rfl) dX19_write_43 rfl rfl hroX19_write_X14_canWrite ⟨Nat.zero_le _, Nat.zero_le _⟩) F hA hr (fun H locs hw6 hr => ?_)
    clear hc5
    refine lv_if_ne (tgt := 53) F.1 F.2.1 dX19_write_46 (by decide) (fun c7 => ?_) (fun c7 => ?_)
    · replace h := zi_t c7 h
      refine lv_iconst (v := (0 : Int32)) F.1 F.2.1 dX19_write_53 (by decide) ?_
      exact bX19_write_54 hst F hA E  x0 x3 x5 (some a2) s0 s1 (0 : Int32) hx0 (zal_s (hx6 _ rfl)) hs0 hr (lv_sub hl [0, 1, 2, 3] rfl) h
    · replace h := zi_f (fun q => q c7) h
      exact bX19_write_49 hst F hA E  x0 x3 x5 (some a2) s0 s1 hx0 (zal_s (hx6 _ rfl)) hs0 hr (lv_sub hl [0, 1, 2, 3] rfl) h
def fX19_write_31 (N : Nat)  (x0 : Nat) (x3 : Int64) (x5 : Int32) (x6 : Option Nat) (s0 : Nat) (z : St) : Option (Int32 × St) := fX19_write_36 N x0 x3 x5 x6 s0 (1 : Int32) z
set_option maxHeartbeats 4000000 in
set_option maxRecDepth 100000 in
theorem bX19_write_31 (hst : zSt B ids) (F : zFx p m c cX19_write 8 s args RX19 D cy B ids A) (hA : ∀ q : Nat, s.heap.size ≤ q → A q) {r : Int32} {z' : St} (E : zEnd p l e rmX19_write s m args below meth c cX19_write D cy B ids A Q (some (.int r)) z' .ireturn True) {N : Nat}  (x0 : Nat) (x3 : Int64) (x5 : Int32) (x6 : Option Nat) (s0 : Nat) (hx0 : (19, x0) ∈ ids) (hx6 : ∀ t, x6 = some t → (14, t) ∈ ids) (hs0 : (19, s0) ∈ ids) {z : St} {H : Heap} {locs : List Loc} {ls : Array Slot} (hr : zRep D cy B ids A s.heap z H locs) (hl : lv_has ls 8 [(0, .ref (B 19 x0)), (3, .long x3), (5, .int x5), (6, va_rf (Option.map (B 14) x6))]) (h : fX19_write_31 N x0 x3 x5 x6 s0 z = some (r, z')) : W p l e rmX19_write s m args below meth c H locs 0 0 Q (F0 m 31 ls [.ref (B 19 s0)]) := by
  unfold fX19_write_31 at h
  refine lv_iconst (v := (1 : Int32)) F.1 F.2.1 dX19_write_31 (by decide) ?_
  refine lv_goto (tgt := 36) F.1 F.2.1 dX19_write_32 (by decide) ?_
  exact bX19_write_36 hst F hA E  x0 x3 x5 x6 s0 (1 : Int32) hx0 hx6 hs0 hr (lv_sub hl [0, 1, 2, 3] rfl) h
def fX19_write (N : Nat)  (x0 : Nat) (x1 : Int32) (x2 : Int32) (x3 : Int64) (x5 : Int32) (z : St) : Option (Int32 × St) := zc (fX19_endAt N x0 x1 x2 z) fun r1 z2 => zc (fX19_isDoor N x0 x1 x2 z2) fun r5 z6 => if r5 = 0 then (fX19_write_31 N x0 x3 x5 r1 x0 z6) else (if x5 < (1 : Int32) then (fX19_write_31 N x0 x3 x5 r1 x0 z6) else (if x5 ≤ (8 : Int32) then (fX19_write_36 N x0 x3 x5 r1 x0 (0 : Int32) z6) else (fX19_write_31 N x0 x3 x5 r1 x0 z6)))
set_option maxHeartbeats 4000000 in
set_option maxRecDepth 100000 in
theorem bX19_write_0 (hst : zSt B ids) (F : zFx p m c cX19_write 8 s args RX19 D cy B ids A) (hA : ∀ q : Nat, s.heap.size ≤ q → A q) {r : Int32} {z' : St} (E : zEnd p l e rmX19_write s m args below meth c cX19_write D cy B ids A Q (some (.int r)) z' .ireturn True) {N : Nat}  (x0 : Nat) (x1 : Int32) (x2 : Int32) (x3 : Int64) (x5 : Int32) (hx0 : (19, x0) ∈ ids) {z : St} {H : Heap} {locs : List Loc} {ls : Array Slot} (hr : zRep D cy B ids A s.heap z H locs) (hl : lv_has ls 8 [(0, .ref (B 19 x0)), (1, .int x1), (2, .int x2), (3, .long x3), (5, .int x5)]) (h : fX19_write N x0 x1 x2 x3 x5 z = some (r, z')) : W p l e rmX19_write s m args below meth c H locs 0 0 Q (F0 m 0 ls []) := by
  unfold fX19_write at h
  refine lv_aload_n F.1 F.2.1 dX19_write_0 rfl (lv_at hl 0 rfl) ?_
  refine lv_iload_n F.1 F.2.1 dX19_write_1 rfl (lv_at hl 1 rfl) ?_
  refine lv_iload_n F.1 F.2.1 dX19_write_2 rfl (lv_at hl 2 rfl) ?_
  replace h := zc_some h
  obtain ⟨r1, z2, hc3, h⟩ := h
  refine zr_callr (zrun_V (As := [.int x1, .int x2]) (rest := []) zq_3020 zq_3022 zs_X19_endAt zq_3023 zq_4 hdX19_endAt (by decide) (T := TX19) (N := 32) rfl (okX19_endAt l D cy B ids hst N x0 hx0 x1  x2  hr.2.2 hc3) F hr hx0 hl.1 rfl (by decide) dX19_write_3 rfl rfl hroX19_write_X19_endAt ⟨Nat.zero_le _, Nat.zero_le _⟩) F hA hr (fun H locs hw4 hr => ?_)
  clear hc3
  refine zr_astore (lv' := [(6, va_rf (Option.map (B 14) r1)), (0, .ref (B 19 x0)), (1, .int x1), (2, .int x2), (3, .long x3), (5, .int x5)]) F.1 F.2.1 dX19_write_6 hl (by decide) rfl (fun ls hl => ?_)
  refine lv_aload_n F.1 F.2.1 dX19_write_8 rfl (lv_at hl 1 rfl) ?_
  refine lv_aload_n F.1 F.2.1 dX19_write_9 rfl (lv_at hl 1 rfl) ?_
  refine lv_iload_n F.1 F.2.1 dX19_write_10 rfl (lv_at hl 2 rfl) ?_
  refine lv_iload_n F.1 F.2.1 dX19_write_11 rfl (lv_at hl 3 rfl) ?_
  replace h := zc_some h
  obtain ⟨r5, z6, hc7, h⟩ := h
  refine zr_calli (zrun_V (As := [.int x1, .int x2]) (rest := [.ref (B 19 x0)]) zq_3012 zq_3014 zs_X19_isDoor zq_3015 zq_4 hdX19_isDoor (by decide) (T := TX19) (N := 32) rfl (okX19_isDoor l D cy B ids hst N x0 hx0 x1  x2  hr.2.2 hc7) F hr hx0 hl.1 rfl (Nat.le_of_ble_eq_true rfl) dX19_write_12 rfl rfl hroX19_write_X19_isDoor ⟨Nat.zero_le _, Nat.zero_le _⟩) F hA hr (fun H locs hw8 hr => ?_)
  clear hc7
  refine lv_if_eq (tgt := 31) F.1 F.2.1 dX19_write_15 (by decide) (fun c9 => ?_) (fun c9 => ?_)
  · replace h := zi_t c9 h
    exact bX19_write_31 hst F hA E  x0 x3 x5 r1 x0 hx0 hw4 hx0 hr (lv_sub hl [1, 4, 5, 0] rfl) h
  · replace h := zi_f c9 h
    refine lv_iload F.1 F.2.1 dX19_write_18 (lv_at hl 5 rfl) ?_
    refine lv_iconst (v := (1 : Int32)) F.1 F.2.1 dX19_write_20 (by decide) ?_
    refine lv_icmp_lt (tgt := 31) F.1 F.2.1 dX19_write_21 (by decide) (fun c10 => ?_) (fun c10 => ?_)
    · replace h := zi_t c10 h
      exact bX19_write_31 hst F hA E  x0 x3 x5 r1 x0 hx0 hw4 hx0 hr (lv_sub hl [1, 4, 5, 0] rfl) h
    · replace h := zi_f c10 h
      refine lv_iload F.1 F.2.1 dX19_write_24 (lv_at hl 5 rfl) ?_
      refine lv_bipush (v := (8 : Int32)) F.1 F.2.1 dX19_write_26 (by decide) ?_
      refine lv_icmp_le (tgt := 35) F.1 F.2.1 dX19_write_28 (by decide) (fun c11 => ?_) (fun c11 => ?_)
      · replace h := zi_t c11 h
        refine lv_iconst (v := (0 : Int32)) F.1 F.2.1 dX19_write_35 (by decide) ?_
        exact bX19_write_36 hst F hA E  x0 x3 x5 r1 x0 (0 : Int32) hx0 hw4 hx0 hr (lv_sub hl [1, 4, 5, 0] rfl) h
      · replace h := zi_f c11 h
        exact bX19_write_31 hst F hA E  x0 x3 x5 r1 x0 hx0 hw4 hx0 hr (lv_sub hl [1, 4, 5, 0] rfl) h
end SX19_write
set_option maxRecDepth 100000 in
theorem okX19_write (l : Launch) (D : va_G) (cy : Nat → ClassId) (B : Nat → Nat → Nat) (ids : List (Nat × Nat)) (hst : zSt B ids) (N : Nat) (x0 : Nat) (hx0 : (19, x0) ∈ ids) (x1 : Int32) (x2 : Int32) (x3 : Int64) (x5 : Int32) {z : St} {r : Int32} {z' : St} (hW : zWf ids z) (h : fX19_write N x0 x1 x2 x3 x5 z = some (r, z')) : zM l yX19_write (zws yX19_write cX19_write 8 (some .int)) rmX19_write D cy B ids [.ref (B 19 x0), .int x1, .int x2, .long x3, .int x5] (some (.int r)) True z z' :=
  zM_of hst hW (by decide +kernel) (Nat.le_of_ble_eq_true rfl) (fun p e s m args below meth c A ls F hA hret hlocks hr hl => bX19_write_0 hst F hA (zEnd_i F hret hlocks) x0 x1 x2 x3 x5 hx0 hr hl h)
abbrev rmX19_fill : Room := { frames := 4, cells := 0, slots := 0, locals := 86 }
theorem hdX19_fill : yX19_fill.cls ≠ "java/lang/invoke/MethodHandle" ∧ yX19_fill.cls ≠ "java/lang/invoke/VarHandle" ∧ (parseMethodDescriptor yX19_fill.desc).map (fun d => d.parameters.length) = some 5 := by decide +kernel
theorem hroX19_fill_X14_canWrite : rmX14_canWrite.frames + 1 ≤ rmX19_fill.frames ∧ 8 + (1 + 11) + rmX14_canWrite.locals ≤ rmX19_fill.locals := by decide
theorem hroX19_fill_X14_persist : rmX14_persist.frames + 1 ≤ rmX19_fill.frames ∧ 8 + (2 + 11) + rmX14_persist.locals ≤ rmX19_fill.locals := by decide
theorem hroX19_fill_X19_endAt : rmX19_endAt.frames + 1 ≤ rmX19_fill.frames ∧ 8 + (3 + 11) + rmX19_endAt.locals ≤ rmX19_fill.locals := by decide
theorem hroX19_fill_X19_fails : rmX19_fails.frames + 1 ≤ rmX19_fill.frames ∧ 8 + (3 + 11) + rmX19_fails.locals ≤ rmX19_fill.locals := by decide
theorem hroX19_fill_X19_isDoor : rmX19_isDoor.frames + 1 ≤ rmX19_fill.frames ∧ 8 + (3 + 11) + rmX19_isDoor.locals ≤ rmX19_fill.locals := by decide
theorem hroX19_fill_X19_stir : rmX19_stir.frames + 1 ≤ rmX19_fill.frames ∧ 8 + (1 + 11) + rmX19_stir.locals ≤ rmX19_fill.locals := by decide
theorem hroX19_fill_X19_writes : rmX19_writes.frames + 1 ≤ rmX19_fill.frames ∧ 8 + (3 + 11) + rmX19_writes.locals ≤ rmX19_fill.locals := by decide
section SX19_fill
variable {p : Program} {l : Launch} {e : Env} {s : State} {m : MethodId} {args : Array Value} {below : List Frame} {meth : Method} {c : Code} {Q : State → Prop} {D : va_G} {cy : Nat → ClassId} {B : Nat → Nat → Nat} {ids : List (Nat × Nat)} {A : Nat → Prop}
def fX19_fill_95 (N : Nat)  (x0 : Nat) (x6 : Option Nat) (x7 : Int32) (z : St) : Option (Int32 × St) := zd x6 fun a1 => zc (fX14_persist N a1 (zgI z 19 24 x0) z) fun _ z3 => zc (fX19_stir N x0 z3) fun _ z7 => some (x7, z7)
set_option maxHeartbeats 4000000 in
set_option maxRecDepth 100000 in
theorem bX19_fill_95 (hst : zSt B ids) (F : zFx p m c cX19_fill 8 s args RX19 D cy B ids A) (hA : ∀ q : Nat, s.heap.size ≤ q → A q) {r : Int32} {z' : St} (E : zEnd p l e rmX19_fill s m args below meth c cX19_fill D cy B ids A Q (some (.int r)) z' .ireturn True) {N : Nat}  (x0 : Nat) (x6 : Option Nat) (x7 : Int32) (hx0 : (19, x0) ∈ ids) (hx6 : ∀ t, x6 = some t → (14, t) ∈ ids) {z : St} {H : Heap} {locs : List Loc} {ls : Array Slot} (hr : zRep D cy B ids A s.heap z H locs) (hl : lv_has ls 8 [(0, .ref (B 19 x0)), (6, va_rf (Option.map (B 14) x6)), (7, .int x7)]) (h : fX19_fill_95 N x0 x6 x7 z = some (r, z')) : W p l e rmX19_fill s m args below meth c H locs 0 0 Q (F0 m 95 ls []) := by
  unfold fX19_fill_95 at h
  refine zr_aload F.1 F.2.1 dX19_fill_95 (lv_at hl 1 rfl) ?_
  refine lv_aload_n F.1 F.2.1 dX19_fill_97 rfl (lv_at hl 0 rfl) ?_
  refine gf19_143 F hx0 hr dX19_fill_98 ?_
  replace h := zd_some h
  obtain ⟨a1, rfl, h⟩ := h
  replace h := zc_some h
  obtain ⟨r2, z3, hc4, h⟩ := h
  refine zr_callv (zrun_VN (As := [.int (zgI z 19 24 x0)]) (rest := []) zn_2973 zq_2975 zs_X14_persist zq_2976 zq_21 hdX14_persist (by decide) (T := TX14) (N := 47) rfl (okX14_persist l D cy B ids hst N a1 (hx6 _ rfl) (zgI z 19 24 x0)  hr.2.2 hc4) F hr (hx6 _ rfl) hl.1 rfl (by decide) dX19_fill_101 rfl rfl hroX19_fill_X14_persist ⟨Nat.zero_le _, Nat.zero_le _⟩) F hA hr (fun H locs hw5 hr => ?_)
  clear hc4
  refine lv_aload_n F.1 F.2.1 dX19_fill_104 rfl (lv_at hl 0 rfl) ?_
  replace h := zc_some h
  obtain ⟨r6, z7, hc8, h⟩ := h
  refine zr_callv (zrun_V (As := []) (rest := []) zq_2394 zq_2396 zs_X19_stir zq_2397 zq_4 hdX19_stir (by decide) (T := TX19) (N := 32) rfl (okX19_stir l D cy B ids hst N x0 hx0 hr.2.2 hc8) F hr hx0 hl.1 rfl (by decide) dX19_fill_105 rfl rfl hroX19_fill_X19_stir ⟨Nat.zero_le _, Nat.zero_le _⟩) F hA hr (fun H locs hw9 hr => ?_)
  clear hc8
  refine lv_iload F.1 F.2.1 dX19_fill_108 (lv_at hl 2 rfl) ?_
  obtain ⟨rfl, rfl⟩ := zret h
  exact E _ _ _ _ dX19_fill_110 trivial hr
def fX19_fill_66b (N : Nat) (K66 : Nat → Int32 → Int32 → Int32 → Option Nat → Int32 → St → Option (Int32 × St)) (x0 : Nat) (x3 : Int32) (x4 : Int32) (x5 : Int32) (x6 : Option Nat) (x7 : Int32) (z : St) : Option (Int32 × St) := if x5 ≤ x7 then (fX19_fill_95 N x0 x6 x7 z) else (zd x6 fun a2 => zc (fX19_writes N x0 a2 (x3 + (x4 * x7)) z) fun r3 z4 => if r3 = 0 then (fX19_fill_95 N x0 (some a2) x7 z4) else (zl (x7 + 1) fun v8 => K66 x0 x3 x4 x5 (some a2) v8 z4))
def fX19_fill_66 (N : Nat)  : Nat → Nat → Int32 → Int32 → Int32 → Option Nat → Int32 → St → Option (Int32 × St)
  | 0 => fun _ _ _ _ _ _ _ => none
  | n + 1 => fX19_fill_66b N (fX19_fill_66 N  n)
set_option maxHeartbeats 4000000 in
set_option maxRecDepth 100000 in
theorem bX19_fill_66 (hst : zSt B ids) (F : zFx p m c cX19_fill 8 s args RX19 D cy B ids A) (hA : ∀ q : Nat, s.heap.size ≤ q → A q) {r : Int32} {z' : St} (E : zEnd p l e rmX19_fill s m args below meth c cX19_fill D cy B ids A Q (some (.int r)) z' .ireturn True) {N : Nat} {K66 : Nat → Int32 → Int32 → Int32 → Option Nat → Int32 → St → Option (Int32 × St)} (hK66 : ∀ (x0 : Nat) (x3 : Int32) (x4 : Int32) (x5 : Int32) (x6 : Option Nat) (x7 : Int32) (hx0 : (19, x0) ∈ ids) (hx6 : ∀ t, x6 = some t → (14, t) ∈ ids) {z : St} {H : Heap} {locs : List Loc} {ls : Array Slot} (hr : zRep D cy B ids A s.heap z H locs) (hl : lv_has ls 8 [(0, .ref (B 19 x0)), (3, .int x3), (4, .int x4), (5, .int x5), (6, va_rf (Option.map (B 14) x6)), (7, .int x7)]), K66 x0 x3 x4 x5 x6 x7 z = some (r, z') → W p l e rmX19_fill s m args below meth c H locs 0 0 Q (F0 m 66 ls [])) (x0 : Nat) (x3 : Int32) (x4 : Int32) (x5 : Int32) (x6 : Option Nat) (x7 : Int32) (hx0 : (19, x0) ∈ ids) (hx6 : ∀ t, x6 = some t → (14, t) ∈ ids) {z : St} {H : Heap} {locs : List Loc} {ls : Array Slot} (hr : zRep D cy B ids A s.heap z H locs) (hl : lv_has ls 8 [(0, .ref (B 19 x0)), (3, .int x3), (4, .int x4), (5, .int x5), (6, va_rf (Option.map (B 14) x6)), (7, .int x7)]) (h : fX19_fill_66b N K66 x0 x3 x4 x5 x6 x7 z = some (r, z')) : W p l e rmX19_fill s m args below meth c H locs 0 0 Q (F0 m 66 ls []) := by
  unfold fX19_fill_66b at h
  refine lv_iload F.1 F.2.1 dX19_fill_66 (lv_at hl 5 rfl) ?_
  refine lv_iload F.1 F.2.1 dX19_fill_68 (lv_at hl 3 rfl) ?_
  refine lv_icmp_ge (tgt := 95) F.1 F.2.1 dX19_fill_70 (by decide) (fun c1 => ?_) (fun c1 => ?_)
  · replace h := zi_t c1 h
    exact bX19_fill_95 hst F hA E  x0 x6 x7 hx0 hx6 hr (lv_sub hl [0, 4, 5] rfl) h
  · replace h := zi_f c1 h
    refine lv_aload_n F.1 F.2.1 dX19_fill_73 rfl (lv_at hl 0 rfl) ?_
    refine zr_aload F.1 F.2.1 dX19_fill_74 (lv_at hl 4 rfl) ?_
    refine lv_iload_n F.1 F.2.1 dX19_fill_76 rfl (lv_at hl 1 rfl) ?_
    refine lv_iload F.1 F.2.1 dX19_fill_77 (lv_at hl 2 rfl) ?_
    refine lv_iload F.1 F.2.1 dX19_fill_79 (lv_at hl 5 rfl) ?_
    refine lv_imul F.1 F.2.1 dX19_fill_81 ?_
    refine lv_iadd F.1 F.2.1 dX19_fill_82 ?_
    replace h := zd_some h
    obtain ⟨a2, rfl, h⟩ := h
    replace h := zc_some h
    obtain ⟨r3, z4, hc5, h⟩ := h
    refine zr_calli (zrun_V (As := [.ref (B 14 a2), .int (x3 + (x4 * x7))]) (rest := []) zq_3029 zq_3031 zs_X19_writes zq_3032 zq_4 hdX19_writes (by decide) (T := TX19) (N := 32) rfl (okX19_writes l D cy B ids hst N x0 hx0 a2 (hx6 _ rfl) (x3 + (x4 * x7))  hr.2.2 hc5) F hr hx0 hl.1 rfl (by decide) dX19_fill_83 rfl rfl hroX19_fill_X19_writes ⟨Nat.zero_le _, Nat.zero_le _⟩) F hA hr (fun H locs hw6 hr => ?_)
    clear hc5
    refine lv_if_eq (tgt := 95) F.1 F.2.1 dX19_fill_86 (by decide) (fun c7 => ?_) (fun c7 => ?_)
    · replace h := zi_t c7 h
      exact bX19_fill_95 hst F hA E  x0 (some a2) x7 hx0 (zal_s (hx6 _ rfl)) hr (lv_sub hl [0, 4, 5] rfl) h
    · replace h := zi_f c7 h
      obtain ⟨v8, ev8⟩ : ∃ y : Int32, y = (x7 + 1) := ⟨_, rfl⟩
      replace h := zl_sub ev8 h
      refine lv_iinc (v := v8) (lv' := [(7, .int v8), (0, .ref (B 19 x0)), (3, .int x3), (4, .int x4), (5, .int x5), (6, .ref (B 14 a2))]) F.1 F.2.1 dX19_fill_89 hl (k := 5) rfl (by rw [ev8]; rfl) (by decide) rfl (fun ls hl => ?_)
      refine lv_goto (tgt := 66) F.1 F.2.1 dX19_fill_92 (by decide) ?_
      exact hK66 x0 x3 x4 x5 (some a2) v8 hx0 (zal_s (hx6 _ rfl)) hr (lv_sub hl [1, 2, 3, 4, 5, 0] rfl) h
theorem lX19_fill_66 (hst : zSt B ids) (F : zFx p m c cX19_fill 8 s args RX19 D cy B ids A) (hA : ∀ q : Nat, s.heap.size ≤ q → A q) {r : Int32} {z' : St} (E : zEnd p l e rmX19_fill s m args below meth c cX19_fill D cy B ids A Q (some (.int r)) z' .ireturn True) {N : Nat}  : ∀ (n : Nat) (x0 : Nat) (x3 : Int32) (x4 : Int32) (x5 : Int32) (x6 : Option Nat) (x7 : Int32) (hx0 : (19, x0) ∈ ids) (hx6 : ∀ t, x6 = some t → (14, t) ∈ ids) {z : St} {H : Heap} {locs : List Loc} {ls : Array Slot} (hr : zRep D cy B ids A s.heap z H locs) (hl : lv_has ls 8 [(0, .ref (B 19 x0)), (3, .int x3), (4, .int x4), (5, .int x5), (6, va_rf (Option.map (B 14) x6)), (7, .int x7)]), fX19_fill_66 N  n x0 x3 x4 x5 x6 x7 z = some (r, z') → W p l e rmX19_fill s m args below meth c H locs 0 0 Q (F0 m 66 ls []) := by
  intro n
  induction n with
  | zero => intro x0 x3 x4 x5 x6 x7 hx0 hx6 z H locs ls hr hl h; cases h
  | succ n ih => intro x0 x3 x4 x5 x6 x7 hx0 hx6 z H locs ls hr hl h; exact bX19_fill_66 hst F hA E ih x0 x3 x4 x5 x6 x7 hx0 hx6 hr hl h
def fX19_fill_55 (N : Nat)  (x0 : Nat) (x3 : Int32) (x4 : Int32) (x5 : Int32) (x6 : Option Nat) (s0 : Nat) (s1 : Int32) (s2 : Int32) (z : St) : Option (Int32 × St) := zc (fX19_fails N s0 s1 s2 z) fun r1 z2 => if r1 = 0 then (fX19_fill_66 N N x0 x3 x4 x5 x6 (0 : Int32) z2) else (some ((0 : Int32), z2))
set_option maxHeartbeats 4000000 in
set_option maxRecDepth 100000 in
theorem bX19_fill_55 (hst : zSt B ids) (F : zFx p m c cX19_fill 8 s args RX19 D cy B ids A) (hA : ∀ q : Nat, s.heap.size ≤ q → A q) {r : Int32} {z' : St} (E : zEnd p l e rmX19_fill s m args below meth c cX19_fill D cy B ids A Q (some (.int r)) z' .ireturn True) {N : Nat}  (x0 : Nat) (x3 : Int32) (x4 : Int32) (x5 : Int32) (x6 : Option Nat) (s0 : Nat) (s1 : Int32) (s2 : Int32) (hx0 : (19, x0) ∈ ids) (hx6 : ∀ t, x6 = some t → (14, t) ∈ ids) (hs0 : (19, s0) ∈ ids) {z : St} {H : Heap} {locs : List Loc} {ls : Array Slot} (hr : zRep D cy B ids A s.heap z H locs) (hl : lv_has ls 8 [(0, .ref (B 19 x0)), (3, .int x3), (4, .int x4), (5, .int x5), (6, va_rf (Option.map (B 14) x6))]) (h : fX19_fill_55 N x0 x3 x4 x5 x6 s0 s1 s2 z = some (r, z')) : W p l e rmX19_fill s m args below meth c H locs 0 0 Q (F0 m 55 ls [.int s2, .int s1, .ref (B 19 s0)]) := by
  unfold fX19_fill_55 at h
  replace h := zc_some h
  obtain ⟨r1, z2, hc3, h⟩ := h
  refine zr_calli (zrun_V (As := [.int s1, .int s2]) (rest := []) zq_2402 zq_2404 zs_X19_fails zq_2405 zq_4 hdX19_fails (by decide) (T := TX19) (N := 32) rfl (okX19_fails l D cy B ids hst N s0 hs0 s1  s2  hr.2.2 hc3) F hr hs0 hl.1 rfl (by decide) dX19_fill_55 rfl rfl hroX19_fill_X19_fails ⟨Nat.zero_le _, Nat.zero_le _⟩) F hA hr (fun H locs hw4 hr => ?_)
  clear hc3
  refine lv_if_eq (tgt := 63) F.1 F.2.1 dX19_fill_58 (by decide) (fun c5 => ?_) (fun c5 => ?_)
  · replace h := zi_t c5 h
    refine lv_iconst (v := (0 : Int32)) F.1 F.2.1 dX19_fill_63 (by decide) ?_
    refine lv_istore (lv' := [(7, .int (0 : Int32)), (0, .ref (B 19 x0)), (3, .int x3), (4, .int x4), (5, .int x5), (6, va_rf (Option.map (B 14) x6))]) F.1 F.2.1 dX19_fill_64 hl (by decide) (by simp only [List.filter, zrf_cat]; rfl) (fun ls hl => ?_)
    exact lX19_fill_66 hst F hA E  _ x0 x3 x4 x5 x6 (0 : Int32) hx0 hx6 hr (lv_sub hl [1, 2, 3, 4, 5, 0] rfl) h
  · replace h := zi_f c5 h
    refine lv_iconst (v := (0 : Int32)) F.1 F.2.1 dX19_fill_61 (by decide) ?_
    obtain ⟨rfl, rfl⟩ := zret h
    exact E _ _ _ _ dX19_fill_62 trivial hr
def fX19_fill_50 (N : Nat)  (x0 : Nat) (x3 : Int32) (x4 : Int32) (x5 : Int32) (x6 : Option Nat) (s0 : Nat) (s1 : Int32) (z : St) : Option (Int32 × St) := fX19_fill_55 N x0 x3 x4 x5 x6 s0 s1 (1 : Int32) z
set_option maxHeartbeats 4000000 in
set_option maxRecDepth 100000 in
theorem bX19_fill_50 (hst : zSt B ids) (F : zFx p m c cX19_fill 8 s args RX19 D cy B ids A) (hA : ∀ q : Nat, s.heap.size ≤ q → A q) {r : Int32} {z' : St} (E : zEnd p l e rmX19_fill s m args below meth c cX19_fill D cy B ids A Q (some (.int r)) z' .ireturn True) {N : Nat}  (x0 : Nat) (x3 : Int32) (x4 : Int32) (x5 : Int32) (x6 : Option Nat) (s0 : Nat) (s1 : Int32) (hx0 : (19, x0) ∈ ids) (hx6 : ∀ t, x6 = some t → (14, t) ∈ ids) (hs0 : (19, s0) ∈ ids) {z : St} {H : Heap} {locs : List Loc} {ls : Array Slot} (hr : zRep D cy B ids A s.heap z H locs) (hl : lv_has ls 8 [(0, .ref (B 19 x0)), (3, .int x3), (4, .int x4), (5, .int x5), (6, va_rf (Option.map (B 14) x6))]) (h : fX19_fill_50 N x0 x3 x4 x5 x6 s0 s1 z = some (r, z')) : W p l e rmX19_fill s m args below meth c H locs 0 0 Q (F0 m 50 ls [.int s1, .ref (B 19 s0)]) := by
  unfold fX19_fill_50 at h
  refine lv_iconst (v := (1 : Int32)) F.1 F.2.1 dX19_fill_50 (by decide) ?_
  refine lv_goto (tgt := 55) F.1 F.2.1 dX19_fill_51 (by decide) ?_
  exact bX19_fill_55 hst F hA E  x0 x3 x4 x5 x6 s0 s1 (1 : Int32) hx0 hx6 hs0 hr (lv_sub hl [0, 1, 2, 3, 4] rfl) h
def fX19_fill_37 (N : Nat)  (x0 : Nat) (x3 : Int32) (x4 : Int32) (x5 : Int32) (x6 : Option Nat) (s0 : Nat) (s1 : Int32) (z : St) : Option (Int32 × St) := zo x6 (fX19_fill_50 N x0 x3 x4 x5 none s0 s1 z) fun a2 => zc (fX14_canWrite N a2 z) fun r3 z4 => if ¬ r3 = 0 then (fX19_fill_55 N x0 x3 x4 x5 (some a2) s0 s1 (0 : Int32) z4) else (fX19_fill_50 N x0 x3 x4 x5 (some a2) s0 s1 z4)
set_option maxHeartbeats 4000000 in
set_option maxRecDepth 100000 in
theorem bX19_fill_37 (hst : zSt B ids) (F : zFx p m c cX19_fill 8 s args RX19 D cy B ids A) (hA : ∀ q : Nat, s.heap.size ≤ q → A q) {r : Int32} {z' : St} (E : zEnd p l e rmX19_fill s m args below meth c cX19_fill D cy B ids A Q (some (.int r)) z' .ireturn True) {N : Nat}  (x0 : Nat) (x3 : Int32) (x4 : Int32) (x5 : Int32) (x6 : Option Nat) (s0 : Nat) (s1 : Int32) (hx0 : (19, x0) ∈ ids) (hx6 : ∀ t, x6 = some t → (14, t) ∈ ids) (hs0 : (19, s0) ∈ ids) {z : St} {H : Heap} {locs : List Loc} {ls : Array Slot} (hr : zRep D cy B ids A s.heap z H locs) (hl : lv_has ls 8 [(0, .ref (B 19 x0)), (3, .int x3), (4, .int x4), (5, .int x5), (6, va_rf (Option.map (B 14) x6))]) (h : fX19_fill_37 N x0 x3 x4 x5 x6 s0 s1 z = some (r, z')) : W p l e rmX19_fill s m args below meth c H locs 0 0 Q (F0 m 37 ls [.int s1, .ref (B 19 s0)]) := by
  unfold fX19_fill_37 at h
  refine zr_aload F.1 F.2.1 dX19_fill_37 (lv_at hl 4 rfl) ?_
  refine zr_ifnull (tgt := 50) F.1 F.2.1 dX19_fill_39 (by decide) (fun e1 => ?_) (fun a2 e1 => ?_)
  · replace h := zo_n e1 h
    subst e1
    exact bX19_fill_50 hst F hA E  x0 x3 x4 x5 none s0 s1 hx0 zal_0 hs0 hr (lv_sub hl [0, 1, 2, 3, 4] rfl) h
  · replace h := zo_s e1 h
    subst e1
    refine lv_aload F.1 F.2.1 dX19_fill_42 (lv_at hl 4 rfl) ?_
    replace h := zc_some h
    obtain ⟨r3, z4, hc5, h⟩ := h
    refine zr_calli (zrun_VN (As := []) (rest := [.int s1, .ref (B 19 s0)]) zn_3024 zq_3026 zs_X14_canWrite zq_3027 zq_21 hdX14_canWrite (by decide) (T := TX14) (N := 47) rfl (okX14_canWrite l D cy B ids hst N a2 (hx6 _ rfl) hr.2.2 hc5) F hr (hx6 _ rfl) hl.1 rfl (Nat.le_of_ble_eq_true rfl) dX19_fill_44 rfl rfl hroX19_fill_X14_canWrite ⟨Nat.zero_le _, Nat.zero_le _⟩) F hA hr (fun H locs hw6 hr => ?_)
    clear hc5
    refine lv_if_ne (tgt := 54) F.1 F.2.1 dX19_fill_47 (by decide) (fun c7 => ?_) (fun c7 => ?_)
    · replace h := zi_t c7 h
      refine lv_iconst (v := (0 : Int32)) F.1 F.2.1 dX19_fill_54 (by decide) ?_
      exact bX19_fill_55 hst F hA E  x0 x3 x4 x5 (some a2) s0 s1 (0 : Int32) hx0 (zal_s (hx6 _ rfl)) hs0 hr (lv_sub hl [0, 1, 2, 3, 4] rfl) h
    · replace h := zi_f (fun q => q c7) h
      exact bX19_fill_50 hst F hA E  x0 x3 x4 x5 (some a2) s0 s1 hx0 (zal_s (hx6 _ rfl)) hs0 hr (lv_sub hl [0, 1, 2, 3, 4] rfl) h
def fX19_fill_32 (N : Nat)  (x0 : Nat) (x3 : Int32) (x4 : Int32) (x5 : Int32) (x6 : Option Nat) (s0 : Nat) (z : St) : Option (Int32 × St) := fX19_fill_37 N x0 x3 x4 x5 x6 s0 (1 : Int32) z
set_option maxHeartbeats 4000000 in
set_option maxRecDepth 100000 in
theorem bX19_fill_32 (hst : zSt B ids) (F : zFx p m c cX19_fill 8 s args RX19 D cy B ids A) (hA : ∀ q : Nat, s.heap.size ≤ q → A q) {r : Int32} {z' : St} (E : zEnd p l e rmX19_fill s m args below meth c cX19_fill D cy B ids A Q (some (.int r)) z' .ireturn True) {N : Nat}  (x0 : Nat) (x3 : Int32) (x4 : Int32) (x5 : Int32) (x6 : Option Nat) (s0 : Nat) (hx0 : (19, x0) ∈ ids) (hx6 : ∀ t, x6 = some t → (14, t) ∈ ids) (hs0 : (19, s0) ∈ ids) {z : St} {H : Heap} {locs : List Loc} {ls : Array Slot} (hr : zRep D cy B ids A s.heap z H locs) (hl : lv_has ls 8 [(0, .ref (B 19 x0)), (3, .int x3), (4, .int x4), (5, .int x5), (6, va_rf (Option.map (B 14) x6))]) (h : fX19_fill_32 N x0 x3 x4 x5 x6 s0 z = some (r, z')) : W p l e rmX19_fill s m args below meth c H locs 0 0 Q (F0 m 32 ls [.ref (B 19 s0)]) := by
  unfold fX19_fill_32 at h
  refine lv_iconst (v := (1 : Int32)) F.1 F.2.1 dX19_fill_32 (by decide) ?_
  refine lv_goto (tgt := 37) F.1 F.2.1 dX19_fill_33 (by decide) ?_
  exact bX19_fill_37 hst F hA E  x0 x3 x4 x5 x6 s0 (1 : Int32) hx0 hx6 hs0 hr (lv_sub hl [0, 1, 2, 3, 4] rfl) h
def fX19_fill (N : Nat)  (x0 : Nat) (x1 : Int32) (x2 : Int32) (x3 : Int32) (x4 : Int32) (x5 : Int32) (z : St) : Option (Int32 × St) := zc (fX19_endAt N x0 x1 x2 z) fun r1 z2 => zc (fX19_isDoor N x0 x1 x2 z2) fun r5 z6 => if r5 = 0 then (fX19_fill_32 N x0 x3 x4 x5 r1 x0 z6) else (if x5 < (1 : Int32) then (fX19_fill_32 N x0 x3 x4 x5 r1 x0 z6) else (if x5 ≤ (2048 : Int32) then (fX19_fill_37 N x0 x3 x4 x5 r1 x0 (0 : Int32) z6) else (fX19_fill_32 N x0 x3 x4 x5 r1 x0 z6)))
set_option maxHeartbeats 4000000 in
set_option maxRecDepth 100000 in
theorem bX19_fill_0 (hst : zSt B ids) (F : zFx p m c cX19_fill 8 s args RX19 D cy B ids A) (hA : ∀ q : Nat, s.heap.size ≤ q → A q) {r : Int32} {z' : St} (E : zEnd p l e rmX19_fill s m args below meth c cX19_fill D cy B ids A Q (some (.int r)) z' .ireturn True) {N : Nat}  (x0 : Nat) (x1 : Int32) (x2 : Int32) (x3 : Int32) (x4 : Int32) (x5 : Int32) (hx0 : (19, x0) ∈ ids) {z : St} {H : Heap} {locs : List Loc} {ls : Array Slot} (hr : zRep D cy B ids A s.heap z H locs) (hl : lv_has ls 8 [(0, .ref (B 19 x0)), (1, .int x1), (2, .int x2), (3, .int x3), (4, .int x4), (5, .int x5)]) (h : fX19_fill N x0 x1 x2 x3 x4 x5 z = some (r, z')) : W p l e rmX19_fill s m args below meth c H locs 0 0 Q (F0 m 0 ls []) := by
  unfold fX19_fill at h
  refine lv_aload_n F.1 F.2.1 dX19_fill_0 rfl (lv_at hl 0 rfl) ?_
  refine lv_iload_n F.1 F.2.1 dX19_fill_1 rfl (lv_at hl 1 rfl) ?_
  refine lv_iload_n F.1 F.2.1 dX19_fill_2 rfl (lv_at hl 2 rfl) ?_
  replace h := zc_some h
  obtain ⟨r1, z2, hc3, h⟩ := h
  refine zr_callr (zrun_V (As := [.int x1, .int x2]) (rest := []) zq_3020 zq_3022 zs_X19_endAt zq_3023 zq_4 hdX19_endAt (by decide) (T := TX19) (N := 32) rfl (okX19_endAt l D cy B ids hst N x0 hx0 x1  x2  hr.2.2 hc3) F hr hx0 hl.1 rfl (by decide) dX19_fill_3 rfl rfl hroX19_fill_X19_endAt ⟨Nat.zero_le _, Nat.zero_le _⟩) F hA hr (fun H locs hw4 hr => ?_)
  clear hc3
  refine zr_astore (lv' := [(6, va_rf (Option.map (B 14) r1)), (0, .ref (B 19 x0)), (1, .int x1), (2, .int x2), (3, .int x3), (4, .int x4), (5, .int x5)]) F.1 F.2.1 dX19_fill_6 hl (by decide) rfl (fun ls hl => ?_)
  refine lv_aload_n F.1 F.2.1 dX19_fill_8 rfl (lv_at hl 1 rfl) ?_
  refine lv_aload_n F.1 F.2.1 dX19_fill_9 rfl (lv_at hl 1 rfl) ?_
  refine lv_iload_n F.1 F.2.1 dX19_fill_10 rfl (lv_at hl 2 rfl) ?_
  refine lv_iload_n F.1 F.2.1 dX19_fill_11 rfl (lv_at hl 3 rfl) ?_
  replace h := zc_some h
  obtain ⟨r5, z6, hc7, h⟩ := h
  refine zr_calli (zrun_V (As := [.int x1, .int x2]) (rest := [.ref (B 19 x0)]) zq_3012 zq_3014 zs_X19_isDoor zq_3015 zq_4 hdX19_isDoor (by decide) (T := TX19) (N := 32) rfl (okX19_isDoor l D cy B ids hst N x0 hx0 x1  x2  hr.2.2 hc7) F hr hx0 hl.1 rfl (Nat.le_of_ble_eq_true rfl) dX19_fill_12 rfl rfl hroX19_fill_X19_isDoor ⟨Nat.zero_le _, Nat.zero_le _⟩) F hA hr (fun H locs hw8 hr => ?_)
  clear hc7
  refine lv_if_eq (tgt := 32) F.1 F.2.1 dX19_fill_15 (by decide) (fun c9 => ?_) (fun c9 => ?_)
  · replace h := zi_t c9 h
    exact bX19_fill_32 hst F hA E  x0 x3 x4 x5 r1 x0 hx0 hw4 hx0 hr (lv_sub hl [1, 4, 5, 6, 0] rfl) h
  · replace h := zi_f c9 h
    refine lv_iload F.1 F.2.1 dX19_fill_18 (lv_at hl 6 rfl) ?_
    refine lv_iconst (v := (1 : Int32)) F.1 F.2.1 dX19_fill_20 (by decide) ?_
    refine lv_icmp_lt (tgt := 32) F.1 F.2.1 dX19_fill_21 (by decide) (fun c10 => ?_) (fun c10 => ?_)
    · replace h := zi_t c10 h
      exact bX19_fill_32 hst F hA E  x0 x3 x4 x5 r1 x0 hx0 hw4 hx0 hr (lv_sub hl [1, 4, 5, 6, 0] rfl) h
    · replace h := zi_f c10 h
      refine lv_iload F.1 F.2.1 dX19_fill_24 (lv_at hl 6 rfl) ?_
      refine lv_sipush (v := (2048 : Int32)) F.1 F.2.1 dX19_fill_26 (by decide) ?_
      refine lv_icmp_le (tgt := 36) F.1 F.2.1 dX19_fill_29 (by decide) (fun c11 => ?_) (fun c11 => ?_)
      · replace h := zi_t c11 h
        refine lv_iconst (v := (0 : Int32)) F.1 F.2.1 dX19_fill_36 (by decide) ?_
        exact bX19_fill_37 hst F hA E  x0 x3 x4 x5 r1 x0 (0 : Int32) hx0 hw4 hx0 hr (lv_sub hl [1, 4, 5, 6, 0] rfl) h
      · replace h := zi_f c11 h
        exact bX19_fill_32 hst F hA E  x0 x3 x4 x5 r1 x0 hx0 hw4 hx0 hr (lv_sub hl [1, 4, 5, 6, 0] rfl) h
end SX19_fill
set_option maxRecDepth 100000 in
theorem okX19_fill (l : Launch) (D : va_G) (cy : Nat → ClassId) (B : Nat → Nat → Nat) (ids : List (Nat × Nat)) (hst : zSt B ids) (N : Nat) (x0 : Nat) (hx0 : (19, x0) ∈ ids) (x1 : Int32) (x2 : Int32) (x3 : Int32) (x4 : Int32) (x5 : Int32) {z : St} {r : Int32} {z' : St} (hW : zWf ids z) (h : fX19_fill N x0 x1 x2 x3 x4 x5 z = some (r, z')) : zM l yX19_fill (zws yX19_fill cX19_fill 8 (some .int)) rmX19_fill D cy B ids [.ref (B 19 x0), .int x1, .int x2, .int x3, .int x4, .int x5] (some (.int r)) True z z' :=
  zM_of hst hW (by decide +kernel) (Nat.le_of_ble_eq_true rfl) (fun p e s m args below meth c A ls F hA hret hlocks hr hl => bX19_fill_0 hst F hA (zEnd_i F hret hlocks) x0 x1 x2 x3 x4 x5 hx0 hr hl h)
