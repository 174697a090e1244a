abbrev rmX19_wouldTell : Room := { frames := 1, cells := 0, slots := 0, locals := 28 }
theorem hdX19_wouldTell : yX19_wouldTell.cls ≠ "java/lang/invoke/MethodHandle" ∧ yX19_wouldTell.cls ≠ "java/lang/invoke/VarHandle" ∧ (parseMethodDescriptor yX19_wouldTell.desc).map (fun d => d.parameters.length) = some 1 := by decide +kernel
theorem hroX19_wouldTell_X19_insert : rmX19_insert.frames + 1 ≤ rmX19_wouldTell.frames ∧ 8 + (9 + 11) + rmX19_insert.locals ≤ rmX19_wouldTell.locals := by decide
theorem hroX19_wouldTell_X19_newAdvert : rmX19_newAdvert.frames + 1 ≤ rmX19_wouldTell.frames ∧ 8 + (4 + 11) + rmX19_newAdvert.locals ≤ rmX19_wouldTell.locals := by decide
section SX19_wouldTell
variable {p : Program} {l : Launch} {e : Env} {s : State} {m : MethodId} {args : Array Value} {below : List Frame} {meth : Method} {c : Code} {Q : State → Prop} {D : va_G} {cy : Nat → ClassId} {B : Nat → Nat → Nat} {ids : List (Nat × Nat)} {A : Nat → Prop}
def fX19_wouldTell_64 (N : Nat) (K14 : Nat → Nat → Int32 → Int32 → Int32 → St → Option (Int32 × St)) (x0 : Nat) (x1 : Nat) (x2 : Int32) (x3 : Int32) (x4 : Int32) (z : St) : Option (Int32 × St) := zl (x4 + 1) fun v1 => K14 x0 x1 x2 x3 v1 z
set_option maxHeartbeats 4000000 in
set_option maxRecDepth 100000 in
theorem bX19_wouldTell_64 (hst : zSt B ids) (F : zFx p m c cX19_wouldTell 8 s args RX19 D cy B ids A) (hA : ∀ q : Nat, s.heap.size ≤ q → A q) {r : Int32} {z' : St} (E : zEnd p l e rmX19_wouldTell s m args below meth c cX19_wouldTell D cy B ids A Q (some (.int r)) z' .ireturn True) {N : Nat} {K14 : Nat → Nat → Int32 → Int32 → Int32 → St → Option (Int32 × St)} (hK14 : ∀ (x0 : Nat) (x1 : Nat) (x2 : Int32) (x3 : Int32) (x4 : Int32) (hx0 : (19, x0) ∈ ids) (hx1 : (12, x1) ∈ ids) {z : St} {H : Heap} {locs : List Loc} {ls : Array Slot} (hr : zRep D cy B ids A s.heap z H locs) (hl : lv_has ls 8 [(0, .ref (B 19 x0)), (1, .ref (B 12 x1)), (2, .int x2), (3, .int x3), (4, .int x4)]), K14 x0 x1 x2 x3 x4 z = some (r, z') → W p l e rmX19_wouldTell s m args below meth c H locs 0 0 Q (F0 m 14 ls [])) (x0 : Nat) (x1 : Nat) (x2 : Int32) (x3 : Int32) (x4 : Int32) (hx0 : (19, x0) ∈ ids) (hx1 : (12, x1) ∈ ids) {z : St} {H : Heap} {locs : List Loc} {ls : Array Slot} (hr : zRep D cy B ids A s.heap z H locs) (hl : lv_has ls 8 [(0, .ref (B 19 x0)), (1, .ref (B 12 x1)), (2, .int x2), (3, .int x3), (4, .int x4)]) (h : fX19_wouldTell_64 N K14 x0 x1 x2 x3 x4 z = some (r, z')) : W p l e rmX19_wouldTell s m args below meth c H locs 0 0 Q (F0 m 64 ls []) := by
  unfold fX19_wouldTell_64 at h
  obtain ⟨v1, ev1⟩ : ∃ y : Int32, y = (x4 + 1) := ⟨_, rfl⟩
  replace h := zl_sub ev1 h
  refine lv_iinc (v := v1) (lv' := [(4, .int v1), (0, .ref (B 19 x0)), (1, .ref (B 12 x1)), (2, .int x2), (3, .int x3)]) F.1 F.2.1 dX19_wouldTell_64 hl (k := 4) rfl (by rw [ev1]; rfl) (by decide) rfl (fun ls hl => ?_)
  refine lv_goto (tgt := 14) F.1 F.2.1 dX19_wouldTell_67 (by decide) ?_
  exact hK14 x0 x1 x2 x3 v1 hx0 hx1 hr (lv_sub hl [1, 2, 3, 4, 0] rfl) h
def fX19_wouldTell_151 (N : Nat) (K76 : Nat → Nat → Int32 → Int32 → Int32 → Int32 → St → Option (Int32 × St)) (x0 : Nat) (x1 : Nat) (x2 : Int32) (x3 : Int32) (x4 : Int32) (x5 : Int32) (z : St) : Option (Int32 × St) := zl (x5 + 1) fun v1 => K76 x0 x1 x2 x3 x4 v1 z
set_option maxHeartbeats 4000000 in
set_option maxRecDepth 100000 in
theorem bX19_wouldTell_151 (hst : zSt B ids) (F : zFx p m c cX19_wouldTell 8 s args RX19 D cy B ids A) (hA : ∀ q : Nat, s.heap.size ≤ q → A q) {r : Int32} {z' : St} (E : zEnd p l e rmX19_wouldTell s m args below meth c cX19_wouldTell D cy B ids A Q (some (.int r)) z' .ireturn True) {N : Nat} {K76 : Nat → Nat → Int32 → Int32 → Int32 → Int32 → St → Option (Int32 × St)} (hK76 : ∀ (x0 : Nat) (x1 : Nat) (x2 : Int32) (x3 : Int32) (x4 : Int32) (x5 : Int32) (hx0 : (19, x0) ∈ ids) (hx1 : (12, x1) ∈ ids) {z : St} {H : Heap} {locs : List Loc} {ls : Array Slot} (hr : zRep D cy B ids A s.heap z H locs) (hl : lv_has ls 8 [(0, .ref (B 19 x0)), (1, .ref (B 12 x1)), (2, .int x2), (3, .int x3), (4, .int x4), (5, .int x5)]), K76 x0 x1 x2 x3 x4 x5 z = some (r, z') → W p l e rmX19_wouldTell s m args below meth c H locs 0 0 Q (F0 m 76 ls [])) (x0 : Nat) (x1 : Nat) (x2 : Int32) (x3 : Int32) (x4 : Int32) (x5 : Int32) (hx0 : (19, x0) ∈ ids) (hx1 : (12, x1) ∈ ids) {z : St} {H : Heap} {locs : List Loc} {ls : Array Slot} (hr : zRep D cy B ids A s.heap z H locs) (hl : lv_has ls 8 [(0, .ref (B 19 x0)), (1, .ref (B 12 x1)), (2, .int x2), (3, .int x3), (4, .int x4), (5, .int x5)]) (h : fX19_wouldTell_151 N K76 x0 x1 x2 x3 x4 x5 z = some (r, z')) : W p l e rmX19_wouldTell s m args below meth c H locs 0 0 Q (F0 m 151 ls []) := by
  unfold fX19_wouldTell_151 at h
  obtain ⟨v1, ev1⟩ : ∃ y : Int32, y = (x5 + 1) := ⟨_, rfl⟩
  replace h := zl_sub ev1 h
  refine lv_iinc (v := v1) (lv' := [(5, .int v1), (0, .ref (B 19 x0)), (1, .ref (B 12 x1)), (2, .int x2), (3, .int x3), (4, .int x4)]) F.1 F.2.1 dX19_wouldTell_151 hl (k := 5) rfl (by rw [ev1]; rfl) (by decide) rfl (fun ls hl => ?_)
  refine lv_goto (tgt := 76) F.1 F.2.1 dX19_wouldTell_154 (by decide) ?_
  exact hK76 x0 x1 x2 x3 x4 v1 hx0 hx1 hr (lv_sub hl [1, 2, 3, 4, 5, 0] rfl) h
def fX19_wouldTell_76b (N : Nat) (K76 : Nat → Nat → Int32 → Int32 → Int32 → Int32 → St → Option (Int32 × St)) (x0 : Nat) (x1 : Nat) (x2 : Int32) (x3 : Int32) (x4 : Int32) (x5 : Int32) (z : St) : Option (Int32 × St) := if (zgI z 12 13 x1) ≤ x5 then (zk (((76 : Int32) * x2) + (2 : Int32)) 182400 <| zl (zsA z 178 x0 (Int32.toNatClampNeg (((76 : Int32) * x2) + (2 : Int32))) x3) fun z3 => zk (((76 : Int32) * x2) + (3 : Int32)) 182400 <| zl (zsA z3 178 x0 (Int32.toNatClampNeg (((76 : Int32) * x2) + (3 : Int32))) x4) fun z5 => some (x2, z5)) else (zk x5 16 <| zl (zgQ z 149 x1 (Int32.toNatClampNeg x5)) fun y7 => zd y7 fun a8 => zk (zgI z 15 0 a8) 6 <| zl (zgQ z 147 x1 (Int32.toNatClampNeg (zgI z 15 0 a8))) fun y10 => if (zgI z 15 3 a8) = 0 then (fX19_wouldTell_151 N K76 x0 x1 x2 x3 x4 x5 z) else (zd y10 fun a12 => if (zgI z 18 5 a12) = 0 then (fX19_wouldTell_151 N K76 x0 x1 x2 x3 x4 x5 z) else (zl (zgR z 18 2 a12) fun y14 => zd y14 fun a15 => zc (fX19_insert N x0 x2 x3 x4 (zgI z 15 1 a8) (zgI z 16 0 a15) (zgI z 18 4 a12) z) fun _ z17 => zl (x4 + 1) fun v20 => fX19_wouldTell_151 N K76 x0 x1 x2 x3 v20 x5 z17)))
def fX19_wouldTell_76 (N : Nat)  : Nat → Nat → Nat → Int32 → Int32 → Int32 → Int32 → St → Option (Int32 × St)
  | 0 => fun _ _ _ _ _ _ _ => none
  | n + 1 => fX19_wouldTell_76b N (fX19_wouldTell_76 N  n)
set_option maxHeartbeats 4000000 in
set_option maxRecDepth 100000 in
theorem bX19_wouldTell_76 (hst : zSt B ids) (F : zFx p m c cX19_wouldTell 8 s args RX19 D cy B ids A) (hA : ∀ q : Nat, s.heap.size ≤ q → A q) {r : Int32} {z' : St} (E : zEnd p l e rmX19_wouldTell s m args below meth c cX19_wouldTell D cy B ids A Q (some (.int r)) z' .ireturn True) {N : Nat} {K76 : Nat → Nat → Int32 → Int32 → Int32 → Int32 → St → Option (Int32 × St)} (hK76 : ∀ (x0 : Nat) (x1 : Nat) (x2 : Int32) (x3 : Int32) (x4 : Int32) (x5 : Int32) (hx0 : (19, x0) ∈ ids) (hx1 : (12, x1) ∈ ids) {z : St} {H : Heap} {locs : List Loc} {ls : Array Slot} (hr : zRep D cy B ids A s.heap z H locs) (hl : lv_has ls 8 [(0, .ref (B 19 x0)), (1, .ref (B 12 x1)), (2, .int x2), (3, .int x3), (4, .int x4), (5, .int x5)]), K76 x0 x1 x2 x3 x4 x5 z = some (r, z') → W p l e rmX19_wouldTell s m args below meth c H locs 0 0 Q (F0 m 76 ls [])) (x0 : Nat) (x1 : Nat) (x2 : Int32) (x3 : Int32) (x4 : Int32) (x5 : Int32) (hx0 : (19, x0) ∈ ids) (hx1 : (12, x1) ∈ ids) {z : St} {H : Heap} {locs : List Loc} {ls : Array Slot} (hr : zRep D cy B ids A s.heap z H locs) (hl : lv_has ls 8 [(0, .ref (B 19 x0)), (1, .ref (B 12 x1)), (2, .int x2), (3, .int x3), (4, .int x4), (5, .int x5)]) (h : fX19_wouldTell_76b N K76 x0 x1 x2 x3 x4 x5 z = some (r, z')) : W p l e rmX19_wouldTell s m args below meth c H locs 0 0 Q (F0 m 76 ls []) := by
  unfold fX19_wouldTell_76b at h
  refine lv_iload F.1 F.2.1 dX19_wouldTell_76 (lv_at hl 5 rfl) ?_
  refine lv_aload_n F.1 F.2.1 dX19_wouldTell_78 rfl (lv_at hl 1 rfl) ?_
  refine gf19_457 F hx1 hr dX19_wouldTell_79 ?_
  refine lv_icmp_ge (tgt := 157) F.1 F.2.1 dX19_wouldTell_82 (by decide) (fun c1 => ?_) (fun c1 => ?_)
  · replace h := zi_t c1 h
    refine lv_aload_n F.1 F.2.1 dX19_wouldTell_157 rfl (lv_at hl 0 rfl) ?_
    refine gf19_65 F hx0 hr dX19_wouldTell_158 ?_
    refine lv_bipush (v := (76 : Int32)) F.1 F.2.1 dX19_wouldTell_161 (by decide) ?_
    refine lv_iload_n F.1 F.2.1 dX19_wouldTell_163 rfl (lv_at hl 2 rfl) ?_
    refine lv_imul F.1 F.2.1 dX19_wouldTell_164 ?_
    refine lv_iconst (v := (2 : Int32)) F.1 F.2.1 dX19_wouldTell_165 (by decide) ?_
    refine lv_iadd F.1 F.2.1 dX19_wouldTell_166 ?_
    refine lv_iload_n F.1 F.2.1 dX19_wouldTell_167 rfl (lv_at hl 3 rfl) ?_
    replace h := zk_some h
    obtain ⟨c2, h⟩ := h
    refine zr_iast (k := 178) (by decide) rfl (by decide) F (zal_a F hx0 (j := 8) rfl) hr dX19_wouldTell_168 c2 (fun H locs z3 ez3 hr => ?_)
    replace h := zl_sub ez3 h
    clear ez3
    refine lv_aload_n F.1 F.2.1 dX19_wouldTell_169 rfl (lv_at hl 0 rfl) ?_
    refine gf19_65 F hx0 hr dX19_wouldTell_170 ?_
    refine lv_bipush (v := (76 : Int32)) F.1 F.2.1 dX19_wouldTell_173 (by decide) ?_
    refine lv_iload_n F.1 F.2.1 dX19_wouldTell_175 rfl (lv_at hl 2 rfl) ?_
    refine lv_imul F.1 F.2.1 dX19_wouldTell_176 ?_
    refine lv_iconst (v := (3 : Int32)) F.1 F.2.1 dX19_wouldTell_177 (by decide) ?_
    refine lv_iadd F.1 F.2.1 dX19_wouldTell_178 ?_
    refine lv_iload F.1 F.2.1 dX19_wouldTell_179 (lv_at hl 4 rfl) ?_
    replace h := zk_some h
    obtain ⟨c4, h⟩ := h
    refine zr_iast (k := 178) (by decide) rfl (by decide) F (zal_a F hx0 (j := 8) rfl) hr dX19_wouldTell_181 c4 (fun H locs z5 ez5 hr => ?_)
    replace h := zl_sub ez5 h
    clear ez5
    refine lv_iload_n F.1 F.2.1 dX19_wouldTell_182 rfl (lv_at hl 2 rfl) ?_
    obtain ⟨rfl, rfl⟩ := zret h
    exact E _ _ _ _ dX19_wouldTell_183 trivial hr
  · replace h := zi_f c1 h
    refine lv_aload_n F.1 F.2.1 dX19_wouldTell_85 rfl (lv_at hl 1 rfl) ?_
    refine gf19_460 F hx1 hr dX19_wouldTell_86 ?_
    refine lv_iload F.1 F.2.1 dX19_wouldTell_89 (lv_at hl 5 rfl) ?_
    replace h := zk_some h
    obtain ⟨c6, h⟩ := h
    refine zr_aaldv (k := 149) (by decide) rfl rfl (zlen_d (by decide)) F (zal_a F hx1 (j := 12) rfl) hr dX19_wouldTell_91 c6 (fun y7 ey7 => ?_)
    replace h := zl_sub ey7 h
    have hy7 := zal_q hr (zal_a F hx1 (j := 12) rfl) rfl ey7
    clear ey7
    refine zr_astore (lv' := [(6, va_rf (Option.map (B 15) y7)), (0, .ref (B 19 x0)), (1, .ref (B 12 x1)), (2, .int x2), (3, .int x3), (4, .int x4), (5, .int x5)]) F.1 F.2.1 dX19_wouldTell_92 hl (by decide) rfl (fun ls hl => ?_)
    refine lv_aload_n F.1 F.2.1 dX19_wouldTell_94 rfl (lv_at hl 2 rfl) ?_
    refine gf19_276 F hx1 hr dX19_wouldTell_95 ?_
    refine zr_aload F.1 F.2.1 dX19_wouldTell_98 (lv_at hl 0 rfl) ?_
    replace h := zd_some h
    obtain ⟨a8, rfl, h⟩ := h
    refine gf19_464 F (hy7 _ rfl) hr dX19_wouldTell_100 ?_
    replace h := zk_some h
    obtain ⟨c9, h⟩ := h
    refine zr_aaldv (k := 147) (by decide) rfl rfl (zlen_d (by decide)) F (zal_a F hx1 (j := 2) rfl) hr dX19_wouldTell_103 c9 (fun y10 ey10 => ?_)
    replace h := zl_sub ey10 h
    have hy10 := zal_q hr (zal_a F hx1 (j := 2) rfl) rfl ey10
    clear ey10
    refine zr_astore (lv' := [(7, va_rf (Option.map (B 18) y10)), (6, .ref (B 15 a8)), (0, .ref (B 19 x0)), (1, .ref (B 12 x1)), (2, .int x2), (3, .int x3), (4, .int x4), (5, .int x5)]) F.1 F.2.1 dX19_wouldTell_104 hl (by decide) rfl (fun ls hl => ?_)
    refine lv_aload F.1 F.2.1 dX19_wouldTell_106 (lv_at hl 1 rfl) ?_
    refine gf19_473 F (hy7 _ rfl) hr dX19_wouldTell_108 ?_
    refine lv_if_eq (tgt := 151) F.1 F.2.1 dX19_wouldTell_111 (by decide) (fun c11 => ?_) (fun c11 => ?_)
    · replace h := zi_t c11 h
      exact bX19_wouldTell_151 hst F hA E hK76 x0 x1 x2 x3 x4 x5 hx0 hx1 hr (lv_sub hl [2, 3, 4, 5, 6, 7] rfl) h
    · replace h := zi_f c11 h
      refine zr_aload F.1 F.2.1 dX19_wouldTell_114 (lv_at hl 0 rfl) ?_
      replace h := zd_some h
      obtain ⟨a12, rfl, h⟩ := h
      refine gf19_479 F (hy10 _ rfl) hr dX19_wouldTell_116 ?_
      refine lv_if_eq (tgt := 151) F.1 F.2.1 dX19_wouldTell_119 (by decide) (fun c13 => ?_) (fun c13 => ?_)
      · replace h := zi_t c13 h
        exact bX19_wouldTell_151 hst F hA E hK76 x0 x1 x2 x3 x4 x5 hx0 hx1 hr (lv_sub hl [2, 3, 4, 5, 6, 7] rfl) h
      · replace h := zi_f c13 h
        refine lv_aload_n F.1 F.2.1 dX19_wouldTell_122 rfl (lv_at hl 2 rfl) ?_
        refine lv_iload_n F.1 F.2.1 dX19_wouldTell_123 rfl (lv_at hl 4 rfl) ?_
        refine lv_iload_n F.1 F.2.1 dX19_wouldTell_124 rfl (lv_at hl 5 rfl) ?_
        refine lv_iload F.1 F.2.1 dX19_wouldTell_125 (lv_at hl 6 rfl) ?_
        refine lv_aload F.1 F.2.1 dX19_wouldTell_127 (lv_at hl 1 rfl) ?_
        refine gf19_467 F (hy7 _ rfl) hr dX19_wouldTell_129 ?_
        refine lv_aload F.1 F.2.1 dX19_wouldTell_132 (lv_at hl 0 rfl) ?_
        refine gf19_149 F (hy10 _ rfl) hr dX19_wouldTell_134 (fun y14 ey14 => ?_)
        replace h := zl_sub ey14 h
        have hy14 := zal_g hr (hy10 _ rfl) (j := 2) rfl ey14
        clear ey14
        replace h := zd_some h
        obtain ⟨a15, rfl, h⟩ := h
        refine gf19_181 F (hy14 _ rfl) hr dX19_wouldTell_137 ?_
        refine lv_aload F.1 F.2.1 dX19_wouldTell_140 (lv_at hl 0 rfl) ?_
        refine gf19_520 F (hy10 _ rfl) hr dX19_wouldTell_142 ?_
        replace h := zc_some h
        obtain ⟨r16, z17, hc18, h⟩ := h
        refine zr_callv (zrun_V (As := [.int x2, .int x3, .int x4, .int (zgI z 15 1 a8), .int (zgI z 16 0 a15), .int (zgI z 18 4 a12)]) (rest := []) zq_2875 zq_2877 zs_X19_insert zq_2878 zq_4 hdX19_insert (by decide) (T := TX19) (N := 32) rfl (okX19_insert l D cy B ids hst N x0 hx0 x2  x3  x4  (zgI z 15 1 a8)  (zgI z 16 0 a15)  (zgI z 18 4 a12)  hr.2.2 hc18) F hr hx0 hl.1 rfl (by decide) dX19_wouldTell_145 rfl rfl hroX19_wouldTell_X19_insert ⟨Nat.zero_le _, Nat.zero_le _⟩) F hA hr (fun H locs hw19 hr => ?_)
        clear hc18
        obtain ⟨v20, ev20⟩ : ∃ y : Int32, y = (x4 + 1) := ⟨_, rfl⟩
        replace h := zl_sub ev20 h
        refine lv_iinc (v := v20) (lv' := [(4, .int v20), (7, .ref (B 18 a12)), (6, .ref (B 15 a8)), (0, .ref (B 19 x0)), (1, .ref (B 12 x1)), (2, .int x2), (3, .int x3), (5, .int x5)]) F.1 F.2.1 dX19_wouldTell_148 hl (k := 6) rfl (by rw [ev20]; rfl) (by decide) rfl (fun ls hl => ?_)
        exact bX19_wouldTell_151 hst F hA E hK76 x0 x1 x2 x3 v20 x5 hx0 hx1 hr (lv_sub hl [3, 4, 5, 6, 0, 7] rfl) h
theorem lX19_wouldTell_76 (hst : zSt B ids) (F : zFx p m c cX19_wouldTell 8 s args RX19 D cy B ids A) (hA : ∀ q : Nat, s.heap.size ≤ q → A q) {r : Int32} {z' : St} (E : zEnd p l e rmX19_wouldTell s m args below meth c cX19_wouldTell D cy B ids A Q (some (.int r)) z' .ireturn True) {N : Nat}  : ∀ (n : Nat) (x0 : Nat) (x1 : Nat) (x2 : Int32) (x3 : Int32) (x4 : Int32) (x5 : Int32) (hx0 : (19, x0) ∈ ids) (hx1 : (12, x1) ∈ ids) {z : St} {H : Heap} {locs : List Loc} {ls : Array Slot} (hr : zRep D cy B ids A s.heap z H locs) (hl : lv_has ls 8 [(0, .ref (B 19 x0)), (1, .ref (B 12 x1)), (2, .int x2), (3, .int x3), (4, .int x4), (5, .int x5)]), fX19_wouldTell_76 N  n x0 x1 x2 x3 x4 x5 z = some (r, z') → W p l e rmX19_wouldTell s m args below meth c H locs 0 0 Q (F0 m 76 ls []) := by
  intro n
  induction n with
  | zero => intro x0 x1 x2 x3 x4 x5 hx0 hx1 z H locs ls hr hl h; cases h
  | succ n ih => intro x0 x1 x2 x3 x4 x5 hx0 hx1 z H locs ls hr hl h; exact bX19_wouldTell_76 hst F hA E ih x0 x1 x2 x3 x4 x5 hx0 hx1 hr hl h
def fX19_wouldTell_14b (N : Nat) (K14 : Nat → Nat → Int32 → Int32 → Int32 → St → Option (Int32 × St)) (x0 : Nat) (x1 : Nat) (x2 : Int32) (x3 : Int32) (x4 : Int32) (z : St) : Option (Int32 × St) := if (zgI z 12 3 x1) ≤ x4 then (fX19_wouldTell_76 N N x0 x1 x2 x3 (0 : Int32) (0 : Int32) z) else (zk x4 6 <| zl (zgQ z 147 x1 (Int32.toNatClampNeg x4)) fun y3 => zd y3 fun a4 => if (zgI z 18 5 a4) = 0 then (fX19_wouldTell_64 N K14 x0 x1 x2 x3 x4 z) else (zl (zgR z 18 2 a4) fun y6 => zd y6 fun a7 => zc (fX19_insert N x0 x2 (0 : Int32) x3 (-1 : Int32) (zgI z 16 0 a7) (zgI z 18 4 a4) z) fun _ z9 => zl (x3 + 1) fun v12 => fX19_wouldTell_64 N K14 x0 x1 x2 v12 x4 z9))
def fX19_wouldTell_14 (N : Nat)  : Nat → Nat → Nat → Int32 → Int32 → Int32 → St → Option (Int32 × St)
  | 0 => fun _ _ _ _ _ _ => none
  | n + 1 => fX19_wouldTell_14b N (fX19_wouldTell_14 N  n)
set_option maxHeartbeats 4000000 in
set_option maxRecDepth 100000 in
theorem bX19_wouldTell_14 (hst : zSt B ids) (F : zFx p m c cX19_wouldTell 8 s args RX19 D cy B ids A) (hA : ∀ q : Nat, s.heap.size ≤ q → A q) {r : Int32} {z' : St} (E : zEnd p l e rmX19_wouldTell s m args below meth c cX19_wouldTell D cy B ids A Q (some (.int r)) z' .ireturn True) {N : Nat} {K14 : Nat → Nat → Int32 → Int32 → Int32 → St → Option (Int32 × St)} (hK14 : ∀ (x0 : Nat) (x1 : Nat) (x2 : Int32) (x3 : Int32) (x4 : Int32) (hx0 : (19, x0) ∈ ids) (hx1 : (12, x1) ∈ ids) {z : St} {H : Heap} {locs : List Loc} {ls : Array Slot} (hr : zRep D cy B ids A s.heap z H locs) (hl : lv_has ls 8 [(0, .ref (B 19 x0)), (1, .ref (B 12 x1)), (2, .int x2), (3, .int x3), (4, .int x4)]), K14 x0 x1 x2 x3 x4 z = some (r, z') → W p l e rmX19_wouldTell s m args below meth c H locs 0 0 Q (F0 m 14 ls [])) (x0 : Nat) (x1 : Nat) (x2 : Int32) (x3 : Int32) (x4 : Int32) (hx0 : (19, x0) ∈ ids) (hx1 : (12, x1) ∈ ids) {z : St} {H : Heap} {locs : List Loc} {ls : Array Slot} (hr : zRep D cy B ids A s.heap z H locs) (hl : lv_has ls 8 [(0, .ref (B 19 x0)), (1, .ref (B 12 x1)), (2, .int x2), (3, .int x3), (4, .int x4)]) (h : fX19_wouldTell_14b N K14 x0 x1 x2 x3 x4 z = some (r, z')) : W p l e rmX19_wouldTell s m args below meth c H locs 0 0 Q (F0 m 14 ls []) := by
  unfold fX19_wouldTell_14b at h
  refine lv_iload F.1 F.2.1 dX19_wouldTell_14 (lv_at hl 4 rfl) ?_
  refine lv_aload_n F.1 F.2.1 dX19_wouldTell_16 rfl (lv_at hl 1 rfl) ?_
  refine gf19_273 F hx1 hr dX19_wouldTell_17 ?_
  refine lv_icmp_ge (tgt := 70) F.1 F.2.1 dX19_wouldTell_20 (by decide) (fun c1 => ?_) (fun c1 => ?_)
  · replace h := zi_t c1 h
    refine lv_iconst (v := (0 : Int32)) F.1 F.2.1 dX19_wouldTell_70 (by decide) ?_
    refine lv_istore (lv' := [(4, .int (0 : Int32)), (0, .ref (B 19 x0)), (1, .ref (B 12 x1)), (2, .int x2), (3, .int x3)]) F.1 F.2.1 dX19_wouldTell_71 hl (by decide) rfl (fun ls hl => ?_)
    refine lv_iconst (v := (0 : Int32)) F.1 F.2.1 dX19_wouldTell_73 (by decide) ?_
    refine lv_istore (lv' := [(5, .int (0 : Int32)), (4, .int (0 : Int32)), (0, .ref (B 19 x0)), (1, .ref (B 12 x1)), (2, .int x2), (3, .int x3)]) F.1 F.2.1 dX19_wouldTell_74 hl (by decide) rfl (fun ls hl => ?_)
    exact lX19_wouldTell_76 hst F hA E  _ x0 x1 x2 x3 (0 : Int32) (0 : Int32) hx0 hx1 hr (lv_sub hl [2, 3, 4, 5, 1, 0] rfl) h
  · replace h := zi_f c1 h
    refine lv_aload_n F.1 F.2.1 dX19_wouldTell_23 rfl (lv_at hl 1 rfl) ?_
    refine gf19_276 F hx1 hr dX19_wouldTell_24 ?_
    refine lv_iload F.1 F.2.1 dX19_wouldTell_27 (lv_at hl 4 rfl) ?_
    replace h := zk_some h
    obtain ⟨c2, h⟩ := h
    refine zr_aaldv (k := 147) (by decide) rfl rfl (zlen_d (by decide)) F (zal_a F hx1 (j := 2) rfl) hr dX19_wouldTell_29 c2 (fun y3 ey3 => ?_)
    replace h := zl_sub ey3 h
    have hy3 := zal_q hr (zal_a F hx1 (j := 2) rfl) rfl ey3
    clear ey3
    refine zr_astore (lv' := [(5, va_rf (Option.map (B 18) y3)), (0, .ref (B 19 x0)), (1, .ref (B 12 x1)), (2, .int x2), (3, .int x3), (4, .int x4)]) F.1 F.2.1 dX19_wouldTell_30 hl (by decide) rfl (fun ls hl => ?_)
    refine zr_aload F.1 F.2.1 dX19_wouldTell_32 (lv_at hl 0 rfl) ?_
    replace h := zd_some h
    obtain ⟨a4, rfl, h⟩ := h
    refine gf19_479 F (hy3 _ rfl) hr dX19_wouldTell_34 ?_
    refine lv_if_eq (tgt := 64) F.1 F.2.1 dX19_wouldTell_37 (by decide) (fun c5 => ?_) (fun c5 => ?_)
    · replace h := zi_t c5 h
      exact bX19_wouldTell_64 hst F hA E hK14 x0 x1 x2 x3 x4 hx0 hx1 hr (lv_sub hl [1, 2, 3, 4, 5] rfl) h
    · replace h := zi_f c5 h
      refine lv_aload_n F.1 F.2.1 dX19_wouldTell_40 rfl (lv_at hl 1 rfl) ?_
      refine lv_iload_n F.1 F.2.1 dX19_wouldTell_41 rfl (lv_at hl 3 rfl) ?_
      refine lv_iconst (v := (0 : Int32)) F.1 F.2.1 dX19_wouldTell_42 (by decide) ?_
      refine lv_iload_n F.1 F.2.1 dX19_wouldTell_43 rfl (lv_at hl 4 rfl) ?_
      refine lv_iconst (v := (-1 : Int32)) F.1 F.2.1 dX19_wouldTell_44 (by decide) ?_
      refine lv_aload F.1 F.2.1 dX19_wouldTell_45 (lv_at hl 0 rfl) ?_
      refine gf19_149 F (hy3 _ rfl) hr dX19_wouldTell_47 (fun y6 ey6 => ?_)
      replace h := zl_sub ey6 h
      have hy6 := zal_g hr (hy3 _ rfl) (j := 2) rfl ey6
      clear ey6
      replace h := zd_some h
      obtain ⟨a7, rfl, h⟩ := h
      refine gf19_181 F (hy6 _ rfl) hr dX19_wouldTell_50 ?_
      refine lv_aload F.1 F.2.1 dX19_wouldTell_53 (lv_at hl 0 rfl) ?_
      refine gf19_520 F (hy3 _ rfl) hr dX19_wouldTell_55 ?_
      replace h := zc_some h
      obtain ⟨r8, z9, hc10, h⟩ := h
      refine zr_callv (zrun_V (As := [.int x2, .int (0 : Int32), .int x3, .int (-1 : Int32), .int (zgI z 16 0 a7), .int (zgI z 18 4 a4)]) (rest := []) zq_2875 zq_2877 zs_X19_insert zq_2878 zq_4 hdX19_insert (by decide) (T := TX19) (N := 32) rfl (okX19_insert l D cy B ids hst N x0 hx0 x2  (0 : Int32)  x3  (-1 : Int32)  (zgI z 16 0 a7)  (zgI z 18 4 a4)  hr.2.2 hc10) F hr hx0 hl.1 rfl (by decide) dX19_wouldTell_58 rfl rfl hroX19_wouldTell_X19_insert ⟨Nat.zero_le _, Nat.zero_le _⟩) F hA hr (fun H locs hw11 hr => ?_)
      clear hc10
      obtain ⟨v12, ev12⟩ : ∃ y : Int32, y = (x3 + 1) := ⟨_, rfl⟩
      replace h := zl_sub ev12 h
      refine lv_iinc (v := v12) (lv' := [(3, .int v12), (5, .ref (B 18 a4)), (0, .ref (B 19 x0)), (1, .ref (B 12 x1)), (2, .int x2), (4, .int x4)]) F.1 F.2.1 dX19_wouldTell_61 hl (k := 4) rfl (by rw [ev12]; rfl) (by decide) rfl (fun ls hl => ?_)
      exact bX19_wouldTell_64 hst F hA E hK14 x0 x1 x2 v12 x4 hx0 hx1 hr (lv_sub hl [2, 3, 4, 0, 5] rfl) h
theorem lX19_wouldTell_14 (hst : zSt B ids) (F : zFx p m c cX19_wouldTell 8 s args RX19 D cy B ids A) (hA : ∀ q : Nat, s.heap.size ≤ q → A q) {r : Int32} {z' : St} (E : zEnd p l e rmX19_wouldTell s m args below meth c cX19_wouldTell D cy B ids A Q (some (.int r)) z' .ireturn True) {N : Nat}  : ∀ (n : Nat) (x0 : Nat) (x1 : Nat) (x2 : Int32) (x3 : Int32) (x4 : Int32) (hx0 : (19, x0) ∈ ids) (hx1 : (12, x1) ∈ ids) {z : St} {H : Heap} {locs : List Loc} {ls : Array Slot} (hr : zRep D cy B ids A s.heap z H locs) (hl : lv_has ls 8 [(0, .ref (B 19 x0)), (1, .ref (B 12 x1)), (2, .int x2), (3, .int x3), (4, .int x4)]), fX19_wouldTell_14 N  n x0 x1 x2 x3 x4 z = some (r, z') → W p l e rmX19_wouldTell s m args below meth c H locs 0 0 Q (F0 m 14 ls []) := by
  intro n
  induction n with
  | zero => intro x0 x1 x2 x3 x4 hx0 hx1 z H locs ls hr hl h; cases h
  | succ n ih => intro x0 x1 x2 x3 x4 hx0 hx1 z H locs ls hr hl h; exact bX19_wouldTell_14 hst F hA E ih x0 x1 x2 x3 x4 hx0 hx1 hr hl h
def fX19_wouldTell (N : Nat)  (x0 : Nat) (x1 : Nat) (z : St) : Option (Int32 × St) := zc (fX19_newAdvert N x0 (zgI z 12 0 x1) z) fun r1 z2 => fX19_wouldTell_14 N N x0 x1 r1 (0 : Int32) (0 : Int32) z2
set_option maxHeartbeats 4000000 in
set_option maxRecDepth 100000 in
theorem bX19_wouldTell_0 (hst : zSt B ids) (F : zFx p m c cX19_wouldTell 8 s args RX19 D cy B ids A) (hA : ∀ q : Nat, s.heap.size ≤ q → A q) {r : Int32} {z' : St} (E : zEnd p l e rmX19_wouldTell s m args below meth c cX19_wouldTell D cy B ids A Q (some (.int r)) z' .ireturn True) {N : Nat}  (x0 : Nat) (x1 : Nat) (hx0 : (19, x0) ∈ ids) (hx1 : (12, x1) ∈ ids) {z : St} {H : Heap} {locs : List Loc} {ls : Array Slot} (hr : zRep D cy B ids A s.heap z H locs) (hl : lv_has ls 8 [(0, .ref (B 19 x0)), (1, .ref (B 12 x1))]) (h : fX19_wouldTell N x0 x1 z = some (r, z')) : W p l e rmX19_wouldTell s m args below meth c H locs 0 0 Q (F0 m 0 ls []) := by
  unfold fX19_wouldTell at h
  refine lv_aload_n F.1 F.2.1 dX19_wouldTell_0 rfl (lv_at hl 0 rfl) ?_
  refine lv_aload_n F.1 F.2.1 dX19_wouldTell_1 rfl (lv_at hl 1 rfl) ?_
  refine gf19_310 F hx1 hr dX19_wouldTell_2 ?_
  replace h := zc_some h
  obtain ⟨r1, z2, hc3, h⟩ := h
  refine zr_calli (zrun_V (As := [.int (zgI z 12 0 x1)]) (rest := []) zq_2871 zq_2873 zs_X19_newAdvert zq_2874 zq_4 hdX19_newAdvert (by decide) (T := TX19) (N := 32) rfl (okX19_newAdvert l D cy B ids hst N x0 hx0 (zgI z 12 0 x1)  hr.2.2 hc3) F hr hx0 hl.1 rfl (by decide) dX19_wouldTell_5 rfl rfl hroX19_wouldTell_X19_newAdvert ⟨Nat.zero_le _, Nat.zero_le _⟩) F hA hr (fun H locs hw4 hr => ?_)
  clear hc3
  refine lv_istore_n (lv' := [(2, .int r1), (0, .ref (B 19 x0)), (1, .ref (B 12 x1))]) F.1 F.2.1 dX19_wouldTell_8 rfl hl (by decide) rfl (fun ls hl => ?_)
  refine lv_iconst (v := (0 : Int32)) F.1 F.2.1 dX19_wouldTell_9 (by decide) ?_
  refine lv_istore_n (lv' := [(3, .int (0 : Int32)), (2, .int r1), (0, .ref (B 19 x0)), (1, .ref (B 12 x1))]) F.1 F.2.1 dX19_wouldTell_10 rfl hl (by decide) rfl (fun ls hl => ?_)
  refine lv_iconst (v := (0 : Int32)) F.1 F.2.1 dX19_wouldTell_11 (by decide) ?_
  refine lv_istore (lv' := [(4, .int (0 : Int32)), (3, .int (0 : Int32)), (2, .int r1), (0, .ref (B 19 x0)), (1, .ref (B 12 x1))]) F.1 F.2.1 dX19_wouldTell_12 hl (by decide) rfl (fun ls hl => ?_)
  exact lX19_wouldTell_14 hst F hA E  _ x0 x1 r1 (0 : Int32) (0 : Int32) hx0 hx1 hr (lv_sub hl [3, 4, 2, 1, 0] rfl) h
end SX19_wouldTell
set_option maxRecDepth 100000 in
theorem okX19_wouldTell (l : Launch) (D : va_G) (cy : Nat → ClassId) (B : Nat → Nat → Nat) (ids : List (Nat × Nat)) (hst : zSt B ids) (N : Nat) (x0 : Nat) (hx0 : (19, x0) ∈ ids) (x1 : Nat) (hx1 : (12, x1) ∈ ids) {z : St} {r : Int32} {z' : St} (hW : zWf ids z) (h : fX19_wouldTell N x0 x1 z = some (r, z')) : zM l yX19_wouldTell (zws yX19_wouldTell cX19_wouldTell 8 (some .int)) rmX19_wouldTell D cy B ids [.ref (B 19 x0), .ref (B 12 x1)] (some (.int r)) True z z' :=
  zM_of hst hW (by decide +kernel) (Nat.le_of_ble_eq_true rfl) (fun p e s m args below meth c A ls F hA hret hlocks hr hl => bX19_wouldTell_0 hst F hA (zEnd_i F hret hlocks) x0 x1 hx0 hx1 hr hl h)
abbrev rmX19_ownAdvert : Room := { frames := 2, cells := 0, slots := 0, locals := 55 }
theorem hdX19_ownAdvert : yX19_ownAdvert.cls ≠ "java/lang/invoke/MethodHandle" ∧ yX19_ownAdvert.cls ≠ "java/lang/invoke/VarHandle" ∧ (parseMethodDescriptor yX19_ownAdvert.desc).map (fun d => d.parameters.length) = some 1 := by decide +kernel
theorem hroX19_ownAdvert_X19_ad : rmX19_ad.frames + 1 ≤ rmX19_ownAdvert.frames ∧ 8 + (3 + 11) + rmX19_ad.locals ≤ rmX19_ownAdvert.locals := by decide
theorem hroX19_ownAdvert_X19_dropAdvert : rmX19_dropAdvert.frames + 1 ≤ rmX19_ownAdvert.frames ∧ 8 + (2 + 11) + rmX19_dropAdvert.locals ≤ rmX19_ownAdvert.locals := by decide
theorem hroX19_ownAdvert_X19_take : rmX19_take.frames + 1 ≤ rmX19_ownAdvert.frames ∧ 8 + (7 + 11) + rmX19_take.locals ≤ rmX19_ownAdvert.locals := by decide
theorem hroX19_ownAdvert_X19_tellAlike : rmX19_tellAlike.frames + 1 ≤ rmX19_ownAdvert.frames ∧ 8 + (5 + 11) + rmX19_tellAlike.locals ≤ rmX19_ownAdvert.locals := by decide
theorem hroX19_ownAdvert_X19_wouldTell : rmX19_wouldTell.frames + 1 ≤ rmX19_ownAdvert.frames ∧ 8 + (8 + 11) + rmX19_wouldTell.locals ≤ rmX19_ownAdvert.locals := by decide
section SX19_ownAdvert
variable {p : Program} {l : Launch} {e : Env} {s : State} {m : MethodId} {args : Array Value} {below : List Frame} {meth : Method} {c : Code} {Q : State → Prop} {D : va_G} {cy : Nat → ClassId} {B : Nat → Nat → Nat} {ids : List (Nat × Nat)} {A : Nat → Prop}
def fX19_ownAdvert_169 (N : Nat)  (x0 : Nat) (x1 : Nat) (x4 : Int32) (s0 : Nat) (s1 : Int32) (z : St) : Option (Int32 × St) := zl (zsI z 12 16 s0 (s1 + (1 : Int32))) fun z1 => zk (((76 : Int32) * x4) + (1 : Int32)) 182400 <| zl (zsA z1 178 x0 (Int32.toNatClampNeg (((76 : Int32) * x4) + (1 : Int32))) (zgI z1 12 16 x1)) fun z3 => zl (zsI z3 12 18 x1 (zgI z3 19 24 x0)) fun z4 => zc (fX19_take N x0 x1 x4 none z4) fun _ z6 => some (0, z6)
set_option maxHeartbeats 4000000 in
set_option maxRecDepth 100000 in
theorem bX19_ownAdvert_169 (hst : zSt B ids) (F : zFx p m c cX19_ownAdvert 5 s args RX19 D cy B ids A) (hA : ∀ q : Nat, s.heap.size ≤ q → A q) {r : Int32} {z' : St} (E : zEnd p l e rmX19_ownAdvert s m args below meth c cX19_ownAdvert D cy B ids A Q none z' .return_ True) {N : Nat}  (x0 : Nat) (x1 : Nat) (x4 : Int32) (s0 : Nat) (s1 : Int32) (hx0 : (19, x0) ∈ ids) (hx1 : (12, x1) ∈ ids) (hs0 : (12, s0) ∈ ids) {z : St} {H : Heap} {locs : List Loc} {ls : Array Slot} (hr : zRep D cy B ids A s.heap z H locs) (hl : lv_has ls 5 [(0, .ref (B 19 x0)), (1, .ref (B 12 x1)), (4, .int x4)]) (h : fX19_ownAdvert_169 N x0 x1 x4 s0 s1 z = some (r, z')) : W p l e rmX19_ownAdvert s m args below meth c H locs 0 0 Q (F0 m 169 ls [.int s1, .ref (B 12 s0)]) := by
  unfold fX19_ownAdvert_169 at h
  refine lv_iconst (v := (1 : Int32)) F.1 F.2.1 dX19_ownAdvert_169 (by decide) ?_
  refine lv_iadd F.1 F.2.1 dX19_ownAdvert_170 ?_
  refine pf19_530 F hs0 hr dX19_ownAdvert_171 (s1 + (1 : Int32)) (fun H locs z1 ez1 hr => ?_)
  replace h := zl_sub ez1 h
  clear ez1
  refine lv_aload_n F.1 F.2.1 dX19_ownAdvert_174 rfl (lv_at hl 0 rfl) ?_
  refine gf19_65 F hx0 hr dX19_ownAdvert_175 ?_
  refine lv_bipush (v := (76 : Int32)) F.1 F.2.1 dX19_ownAdvert_178 (by decide) ?_
  refine lv_iload F.1 F.2.1 dX19_ownAdvert_180 (lv_at hl 2 rfl) ?_
  refine lv_imul F.1 F.2.1 dX19_ownAdvert_182 ?_
  refine lv_iconst (v := (1 : Int32)) F.1 F.2.1 dX19_ownAdvert_183 (by decide) ?_
  refine lv_iadd F.1 F.2.1 dX19_ownAdvert_184 ?_
  refine lv_aload_n F.1 F.2.1 dX19_ownAdvert_185 rfl (lv_at hl 1 rfl) ?_
  refine gf19_530 F hx1 hr dX19_ownAdvert_186 ?_
  replace h := zk_some h
  obtain ⟨c2, h⟩ := h
  refine zr_iast (k := 178) (by decide) rfl (by decide) F (zal_a F hx0 (j := 8) rfl) hr dX19_ownAdvert_189 c2 (fun H locs z3 ez3 hr => ?_)
  replace h := zl_sub ez3 h
  clear ez3
  refine lv_aload_n F.1 F.2.1 dX19_ownAdvert_190 rfl (lv_at hl 1 rfl) ?_
  refine lv_aload_n F.1 F.2.1 dX19_ownAdvert_191 rfl (lv_at hl 0 rfl) ?_
  refine gf19_143 F hx0 hr dX19_ownAdvert_192 ?_
  refine pf19_527 F hx1 hr dX19_ownAdvert_195 (zgI z3 19 24 x0) (fun H locs z4 ez4 hr => ?_)
  replace h := zl_sub ez4 h
  clear ez4
  refine lv_aload_n F.1 F.2.1 dX19_ownAdvert_198 rfl (lv_at hl 0 rfl) ?_
  refine lv_aload_n F.1 F.2.1 dX19_ownAdvert_199 rfl (lv_at hl 1 rfl) ?_
  refine lv_iload F.1 F.2.1 dX19_ownAdvert_200 (lv_at hl 2 rfl) ?_
  refine lv_null F.1 F.2.1 dX19_ownAdvert_202 ?_
  replace h := zc_some h
  obtain ⟨r5, z6, hc7, h⟩ := h
  refine zr_callv (zrun_V (As := [.ref (B 12 x1), .int x4, va_rf (Option.map (B 15) none)]) (rest := []) zq_2836 zq_2838 zs_X19_take zq_2839 zq_4 hdX19_take (by decide) (T := TX19) (N := 32) rfl (okX19_take l D cy B ids hst N x0 hx0 x1 hx1 x4  none zal_0 hr.2.2 hc7) F hr hx0 hl.1 rfl (by decide) dX19_ownAdvert_203 rfl rfl hroX19_ownAdvert_X19_take ⟨Nat.zero_le _, Nat.zero_le _⟩) F hA hr (fun H locs hw8 hr => ?_)
  clear hc7
  obtain ⟨rfl, rfl⟩ := zret h
  exact E _ _ _ _ dX19_ownAdvert_206 trivial hr
def fX19_ownAdvert_146 (N : Nat)  (x0 : Nat) (x1 : Nat) (x4 : Int32) (z : St) : Option (Int32 × St) := if (zgI z 12 16 x1) ≤ (zgI z 12 17 x1) then (fX19_ownAdvert_169 N x0 x1 x4 x1 (zgI z 12 17 x1) z) else (fX19_ownAdvert_169 N x0 x1 x4 x1 (zgI z 12 16 x1) z)
set_option maxHeartbeats 4000000 in
set_option maxRecDepth 100000 in
theorem bX19_ownAdvert_146 (hst : zSt B ids) (F : zFx p m c cX19_ownAdvert 5 s args RX19 D cy B ids A) (hA : ∀ q : Nat, s.heap.size ≤ q → A q) {r : Int32} {z' : St} (E : zEnd p l e rmX19_ownAdvert s m args below meth c cX19_ownAdvert D cy B ids A Q none z' .return_ True) {N : Nat}  (x0 : Nat) (x1 : Nat) (x4 : Int32) (hx0 : (19, x0) ∈ ids) (hx1 : (12, x1) ∈ ids) {z : St} {H : Heap} {locs : List Loc} {ls : Array Slot} (hr : zRep D cy B ids A s.heap z H locs) (hl : lv_has ls 5 [(0, .ref (B 19 x0)), (1, .ref (B 12 x1)), (4, .int x4)]) (h : fX19_ownAdvert_146 N x0 x1 x4 z = some (r, z')) : W p l e rmX19_ownAdvert s m args below meth c H locs 0 0 Q (F0 m 146 ls []) := by
  unfold fX19_ownAdvert_146 at h
  refine lv_aload_n F.1 F.2.1 dX19_ownAdvert_146 rfl (lv_at hl 1 rfl) ?_
  refine lv_aload_n F.1 F.2.1 dX19_ownAdvert_147 rfl (lv_at hl 1 rfl) ?_
  refine gf19_530 F hx1 hr dX19_ownAdvert_148 ?_
  refine lv_aload_n F.1 F.2.1 dX19_ownAdvert_151 rfl (lv_at hl 1 rfl) ?_
  refine gf19_512 F hx1 hr dX19_ownAdvert_152 ?_
  refine lv_icmp_le (tgt := 165) F.1 F.2.1 dX19_ownAdvert_155 (by decide) (fun c1 => ?_) (fun c1 => ?_)
  · replace h := zi_t c1 h
    refine lv_aload_n F.1 F.2.1 dX19_ownAdvert_165 rfl (lv_at hl 1 rfl) ?_
    refine gf19_512 F hx1 hr dX19_ownAdvert_166 ?_
    exact bX19_ownAdvert_169 hst F hA E  x0 x1 x4 x1 (zgI z 12 17 x1) hx0 hx1 hx1 hr (lv_sub hl [0, 1, 2] rfl) h
  · replace h := zi_f c1 h
    refine lv_aload_n F.1 F.2.1 dX19_ownAdvert_158 rfl (lv_at hl 1 rfl) ?_
    refine gf19_530 F hx1 hr dX19_ownAdvert_159 ?_
    refine lv_goto (tgt := 169) F.1 F.2.1 dX19_ownAdvert_162 (by decide) ?_
    exact bX19_ownAdvert_169 hst F hA E  x0 x1 x4 x1 (zgI z 12 16 x1) hx0 hx1 hx1 hr (lv_sub hl [0, 1, 2] rfl) h
def fX19_ownAdvert_109 (N : Nat)  (x0 : Nat) (x1 : Nat) (x2 : Int32) (x3 : Int32) (x4 : Int32) (z : St) : Option (Int32 × St) := if x2 = (-1 : Int32) then (fX19_ownAdvert_146 N x0 x1 x4 z) else (zc (fX19_tellAlike N x0 x2 x4 z) fun r2 z3 => if r2 = 0 then (fX19_ownAdvert_146 N x0 x1 x4 z3) else (if ¬ x3 = 0 then (fX19_ownAdvert_146 N x0 x1 x4 z3) else (if (zgI z3 12 16 x1) < (zgI z3 12 17 x1) then (fX19_ownAdvert_146 N x0 x1 x4 z3) else (zc (fX19_dropAdvert N x0 x4 z3) fun _ z10 => some (0, z10)))))
set_option maxHeartbeats 4000000 in
set_option maxRecDepth 100000 in
theorem bX19_ownAdvert_109 (hst : zSt B ids) (F : zFx p m c cX19_ownAdvert 5 s args RX19 D cy B ids A) (hA : ∀ q : Nat, s.heap.size ≤ q → A q) {r : Int32} {z' : St} (E : zEnd p l e rmX19_ownAdvert s m args below meth c cX19_ownAdvert D cy B ids A Q none z' .return_ True) {N : Nat}  (x0 : Nat) (x1 : Nat) (x2 : Int32) (x3 : Int32) (x4 : Int32) (hx0 : (19, x0) ∈ ids) (hx1 : (12, x1) ∈ ids) {z : St} {H : Heap} {locs : List Loc} {ls : Array Slot} (hr : zRep D cy B ids A s.heap z H locs) (hl : lv_has ls 5 [(0, .ref (B 19 x0)), (1, .ref (B 12 x1)), (2, .int x2), (3, .int x3), (4, .int x4)]) (h : fX19_ownAdvert_109 N x0 x1 x2 x3 x4 z = some (r, z')) : W p l e rmX19_ownAdvert s m args below meth c H locs 0 0 Q (F0 m 109 ls []) := by
  unfold fX19_ownAdvert_109 at h
  refine lv_iload_n F.1 F.2.1 dX19_ownAdvert_109 rfl (lv_at hl 2 rfl) ?_
  refine lv_iconst (v := (-1 : Int32)) F.1 F.2.1 dX19_ownAdvert_110 (by decide) ?_
  refine lv_icmp_eq (tgt := 146) F.1 F.2.1 dX19_ownAdvert_111 (by decide) (fun c1 => ?_) (fun c1 => ?_)
  · replace h := zi_t c1 h
    exact bX19_ownAdvert_146 hst F hA E  x0 x1 x4 hx0 hx1 hr (lv_sub hl [0, 1, 4] rfl) h
  · replace h := zi_f c1 h
    refine lv_aload_n F.1 F.2.1 dX19_ownAdvert_114 rfl (lv_at hl 0 rfl) ?_
    refine lv_iload_n F.1 F.2.1 dX19_ownAdvert_115 rfl (lv_at hl 2 rfl) ?_
    refine lv_iload F.1 F.2.1 dX19_ownAdvert_116 (lv_at hl 4 rfl) ?_
    replace h := zc_some h
    obtain ⟨r2, z3, hc4, h⟩ := h
    refine zr_calli (zrun_V (As := [.int x2, .int x4]) (rest := []) zq_2879 zq_2881 zs_X19_tellAlike zq_2882 zq_4 hdX19_tellAlike (by decide) (T := TX19) (N := 32) rfl (okX19_tellAlike l D cy B ids hst N x0 hx0 x2  x4  hr.2.2 hc4) F hr hx0 hl.1 rfl (by decide) dX19_ownAdvert_118 rfl rfl hroX19_ownAdvert_X19_tellAlike ⟨Nat.zero_le _, Nat.zero_le _⟩) F hA hr (fun H locs hw5 hr => ?_)
    clear hc4
    refine lv_if_eq (tgt := 146) F.1 F.2.1 dX19_ownAdvert_121 (by decide) (fun c6 => ?_) (fun c6 => ?_)
    · replace h := zi_t c6 h
      exact bX19_ownAdvert_146 hst F hA E  x0 x1 x4 hx0 hx1 hr (lv_sub hl [0, 1, 4] rfl) h
    · replace h := zi_f c6 h
      refine lv_iload_n F.1 F.2.1 dX19_ownAdvert_124 rfl (lv_at hl 3 rfl) ?_
      refine lv_if_ne (tgt := 146) F.1 F.2.1 dX19_ownAdvert_125 (by decide) (fun c7 => ?_) (fun c7 => ?_)
      · replace h := zi_t c7 h
        exact bX19_ownAdvert_146 hst F hA E  x0 x1 x4 hx0 hx1 hr (lv_sub hl [0, 1, 4] rfl) h
      · replace h := zi_f (fun q => q c7) h
        refine lv_aload_n F.1 F.2.1 dX19_ownAdvert_128 rfl (lv_at hl 1 rfl) ?_
        refine gf19_512 F hx1 hr dX19_ownAdvert_129 ?_
        refine lv_aload_n F.1 F.2.1 dX19_ownAdvert_132 rfl (lv_at hl 1 rfl) ?_
        refine gf19_530 F hx1 hr dX19_ownAdvert_133 ?_
        refine lv_icmp_gt (tgt := 146) F.1 F.2.1 dX19_ownAdvert_136 (by decide) (fun c8 => ?_) (fun c8 => ?_)
        · replace h := zi_t c8 h
          exact bX19_ownAdvert_146 hst F hA E  x0 x1 x4 hx0 hx1 hr (lv_sub hl [0, 1, 4] rfl) h
        · replace h := zi_f c8 h
          refine lv_aload_n F.1 F.2.1 dX19_ownAdvert_139 rfl (lv_at hl 0 rfl) ?_
          refine lv_iload F.1 F.2.1 dX19_ownAdvert_140 (lv_at hl 4 rfl) ?_
          replace h := zc_some h
          obtain ⟨r9, z10, hc11, h⟩ := h
          refine zr_callv (zrun_V (As := [.int x4]) (rest := []) zq_2565 zq_2567 zs_X19_dropAdvert zq_2568 zq_4 hdX19_dropAdvert (by decide) (T := TX19) (N := 32) rfl (okX19_dropAdvert l D cy B ids hst N x0 hx0 x4  hr.2.2 hc11) F hr hx0 hl.1 rfl (by decide) dX19_ownAdvert_142 rfl rfl hroX19_ownAdvert_X19_dropAdvert ⟨Nat.zero_le _, Nat.zero_le _⟩) F hA hr (fun H locs hw12 hr => ?_)
          clear hc11
          obtain ⟨rfl, rfl⟩ := zret h
          exact E _ _ _ _ dX19_ownAdvert_145 trivial hr
def fX19_ownAdvert_74 (N : Nat)  (x0 : Nat) (x1 : Nat) (x2 : Int32) (x3 : Int32) (z : St) : Option (Int32 × St) := zl (zsI z 12 24 x1 (0 : Int32)) fun z1 => zc (fX19_wouldTell N x0 x1 z1) fun r2 z3 => if x2 = (-1 : Int32) then (fX19_ownAdvert_109 N x0 x1 x2 x3 r2 z3) else (zc (fX19_ad N x0 x2 (1 : Int32) z3) fun r7 z8 => zk (((76 : Int32) * r2) + (1 : Int32)) 182400 <| zl (zsA z8 178 x0 (Int32.toNatClampNeg (((76 : Int32) * r2) + (1 : Int32))) r7) fun z12 => fX19_ownAdvert_109 N x0 x1 x2 x3 r2 z12)
set_option maxHeartbeats 4000000 in
set_option maxRecDepth 100000 in
theorem bX19_ownAdvert_74 (hst : zSt B ids) (F : zFx p m c cX19_ownAdvert 5 s args RX19 D cy B ids A) (hA : ∀ q : Nat, s.heap.size ≤ q → A q) {r : Int32} {z' : St} (E : zEnd p l e rmX19_ownAdvert s m args below meth c cX19_ownAdvert D cy B ids A Q none z' .return_ True) {N : Nat}  (x0 : Nat) (x1 : Nat) (x2 : Int32) (x3 : Int32) (hx0 : (19, x0) ∈ ids) (hx1 : (12, x1) ∈ ids) {z : St} {H : Heap} {locs : List Loc} {ls : Array Slot} (hr : zRep D cy B ids A s.heap z H locs) (hl : lv_has ls 5 [(0, .ref (B 19 x0)), (1, .ref (B 12 x1)), (2, .int x2), (3, .int x3)]) (h : fX19_ownAdvert_74 N x0 x1 x2 x3 z = some (r, z')) : W p l e rmX19_ownAdvert s m args below meth c H locs 0 0 Q (F0 m 74 ls []) := by
  unfold fX19_ownAdvert_74 at h
  refine lv_aload_n F.1 F.2.1 dX19_ownAdvert_74 rfl (lv_at hl 1 rfl) ?_
  refine lv_iconst (v := (0 : Int32)) F.1 F.2.1 dX19_ownAdvert_75 (by decide) ?_
  refine pf19_486 F hx1 hr dX19_ownAdvert_76 (0 : Int32) (by decide) (fun H locs z1 ez1 hr => ?_)
  replace h := zl_sub ez1 h
  clear ez1
  refine lv_aload_n F.1 F.2.1 dX19_ownAdvert_79 rfl (lv_at hl 0 rfl) ?_
  refine lv_aload_n F.1 F.2.1 dX19_ownAdvert_80 rfl (lv_at hl 1 rfl) ?_
  replace h := zc_some h
  obtain ⟨r2, z3, hc4, h⟩ := h
  refine zr_calli (zrun_V (As := [.ref (B 12 x1)]) (rest := []) zq_2867 zq_2869 zs_X19_wouldTell zq_2870 zq_4 hdX19_wouldTell (by decide) (T := TX19) (N := 32) rfl (okX19_wouldTell l D cy B ids hst N x0 hx0 x1 hx1 hr.2.2 hc4) F hr hx0 hl.1 rfl (by decide) dX19_ownAdvert_81 rfl rfl hroX19_ownAdvert_X19_wouldTell ⟨Nat.zero_le _, Nat.zero_le _⟩) F hA hr (fun H locs hw5 hr => ?_)
  clear hc4
  refine lv_istore (lv' := [(4, .int r2), (0, .ref (B 19 x0)), (1, .ref (B 12 x1)), (2, .int x2), (3, .int x3)]) F.1 F.2.1 dX19_ownAdvert_84 hl (by decide) rfl (fun ls hl => ?_)
  refine lv_iload_n F.1 F.2.1 dX19_ownAdvert_86 rfl (lv_at hl 3 rfl) ?_
  refine lv_iconst (v := (-1 : Int32)) F.1 F.2.1 dX19_ownAdvert_87 (by decide) ?_
  refine lv_icmp_eq (tgt := 109) F.1 F.2.1 dX19_ownAdvert_88 (by decide) (fun c6 => ?_) (fun c6 => ?_)
  · replace h := zi_t c6 h
    exact bX19_ownAdvert_109 hst F hA E  x0 x1 x2 x3 r2 hx0 hx1 hr (lv_sub hl [1, 2, 3, 4, 0] rfl) h
  · replace h := zi_f c6 h
    refine lv_aload_n F.1 F.2.1 dX19_ownAdvert_91 rfl (lv_at hl 1 rfl) ?_
    refine gf19_65 F hx0 hr dX19_ownAdvert_92 ?_
    refine lv_bipush (v := (76 : Int32)) F.1 F.2.1 dX19_ownAdvert_95 (by decide) ?_
    refine lv_iload F.1 F.2.1 dX19_ownAdvert_97 (lv_at hl 0 rfl) ?_
    refine lv_imul F.1 F.2.1 dX19_ownAdvert_99 ?_
    refine lv_iconst (v := (1 : Int32)) F.1 F.2.1 dX19_ownAdvert_100 (by decide) ?_
    refine lv_iadd F.1 F.2.1 dX19_ownAdvert_101 ?_
    refine lv_aload_n F.1 F.2.1 dX19_ownAdvert_102 rfl (lv_at hl 1 rfl) ?_
    refine lv_iload_n F.1 F.2.1 dX19_ownAdvert_103 rfl (lv_at hl 3 rfl) ?_
    refine lv_iconst (v := (1 : Int32)) F.1 F.2.1 dX19_ownAdvert_104 (by decide) ?_
    replace h := zc_some h
    obtain ⟨r7, z8, hc9, h⟩ := h
    refine zr_calli (zrun_V (As := [.int x2, .int (1 : Int32)]) (rest := [.int (((76 : Int32) * r2) + (1 : Int32)), .ref (B 178 x0)]) zq_2828 zq_2830 zs_X19_ad zq_2831 zq_4 hdX19_ad (by decide) (T := TX19) (N := 32) rfl (okX19_ad l D cy B ids hst N x0 hx0 x2  (1 : Int32)  hr.2.2 hc9) F hr hx0 hl.1 rfl (Nat.le_of_ble_eq_true rfl) dX19_ownAdvert_105 rfl rfl hroX19_ownAdvert_X19_ad ⟨Nat.zero_le _, Nat.zero_le _⟩) F hA hr (fun H locs hw10 hr => ?_)
    clear hc9
    replace h := zk_some h
    obtain ⟨c11, h⟩ := h
    refine zr_iast (k := 178) (by decide) rfl (by decide) F (zal_a F hx0 (j := 8) rfl) hr dX19_ownAdvert_108 c11 (fun H locs z12 ez12 hr => ?_)
    replace h := zl_sub ez12 h
    clear ez12
    exact bX19_ownAdvert_109 hst F hA E  x0 x1 x2 x3 r2 hx0 hx1 hr (lv_sub hl [1, 2, 3, 4, 0] rfl) h
def fX19_ownAdvert_45 (N : Nat)  (x0 : Nat) (x1 : Nat) (x2 : Int32) (s0 : Int32) (z : St) : Option (Int32 × St) := if ¬ (zgI z 12 24 x1) = 0 then (fX19_ownAdvert_74 N x0 x1 x2 s0 z) else (if x2 = (-1 : Int32) then (fX19_ownAdvert_74 N x0 x1 x2 s0 z) else (if ¬ s0 = 0 then (fX19_ownAdvert_74 N x0 x1 x2 s0 z) else (if (zgI z 12 16 x1) < (zgI z 12 17 x1) then (fX19_ownAdvert_74 N x0 x1 x2 s0 z) else (some (0, z)))))
set_option maxHeartbeats 4000000 in
set_option maxRecDepth 100000 in
theorem bX19_ownAdvert_45 (hst : zSt B ids) (F : zFx p m c cX19_ownAdvert 5 s args RX19 D cy B ids A) (hA : ∀ q : Nat, s.heap.size ≤ q → A q) {r : Int32} {z' : St} (E : zEnd p l e rmX19_ownAdvert s m args below meth c cX19_ownAdvert D cy B ids A Q none z' .return_ True) {N : Nat}  (x0 : Nat) (x1 : Nat) (x2 : Int32) (s0 : Int32) (hx0 : (19, x0) ∈ ids) (hx1 : (12, x1) ∈ ids) {z : St} {H : Heap} {locs : List Loc} {ls : Array Slot} (hr : zRep D cy B ids A s.heap z H locs) (hl : lv_has ls 5 [(0, .ref (B 19 x0)), (1, .ref (B 12 x1)), (2, .int x2)]) (h : fX19_ownAdvert_45 N x0 x1 x2 s0 z = some (r, z')) : W p l e rmX19_ownAdvert s m args below meth c H locs 0 0 Q (F0 m 45 ls [.int s0]) := by
  unfold fX19_ownAdvert_45 at h
  refine lv_istore_n (lv' := [(3, .int s0), (0, .ref (B 19 x0)), (1, .ref (B 12 x1)), (2, .int x2)]) F.1 F.2.1 dX19_ownAdvert_45 rfl hl (by decide) rfl (fun ls hl => ?_)
  refine lv_aload_n F.1 F.2.1 dX19_ownAdvert_46 rfl (lv_at hl 2 rfl) ?_
  refine gf19_486 F hx1 hr dX19_ownAdvert_47 ?_
  refine lv_if_ne (tgt := 74) F.1 F.2.1 dX19_ownAdvert_50 (by decide) (fun c1 => ?_) (fun c1 => ?_)
  · replace h := zi_t c1 h
    exact bX19_ownAdvert_74 hst F hA E  x0 x1 x2 s0 hx0 hx1 hr (lv_sub hl [1, 2, 3, 0] rfl) h
  · replace h := zi_f (fun q => q c1) h
    refine lv_iload_n F.1 F.2.1 dX19_ownAdvert_53 rfl (lv_at hl 3 rfl) ?_
    refine lv_iconst (v := (-1 : Int32)) F.1 F.2.1 dX19_ownAdvert_54 (by decide) ?_
    refine lv_icmp_eq (tgt := 74) F.1 F.2.1 dX19_ownAdvert_55 (by decide) (fun c2 => ?_) (fun c2 => ?_)
    · replace h := zi_t c2 h
      exact bX19_ownAdvert_74 hst F hA E  x0 x1 x2 s0 hx0 hx1 hr (lv_sub hl [1, 2, 3, 0] rfl) h
    · replace h := zi_f c2 h
      refine lv_iload_n F.1 F.2.1 dX19_ownAdvert_58 rfl (lv_at hl 0 rfl) ?_
      refine lv_if_ne (tgt := 74) F.1 F.2.1 dX19_ownAdvert_59 (by decide) (fun c3 => ?_) (fun c3 => ?_)
      · replace h := zi_t c3 h
        exact bX19_ownAdvert_74 hst F hA E  x0 x1 x2 s0 hx0 hx1 hr (lv_sub hl [1, 2, 3, 0] rfl) h
      · replace h := zi_f (fun q => q c3) h
        refine lv_aload_n F.1 F.2.1 dX19_ownAdvert_62 rfl (lv_at hl 2 rfl) ?_
        refine gf19_512 F hx1 hr dX19_ownAdvert_63 ?_
        refine lv_aload_n F.1 F.2.1 dX19_ownAdvert_66 rfl (lv_at hl 2 rfl) ?_
        refine gf19_530 F hx1 hr dX19_ownAdvert_67 ?_
        refine lv_icmp_gt (tgt := 74) F.1 F.2.1 dX19_ownAdvert_70 (by decide) (fun c4 => ?_) (fun c4 => ?_)
        · replace h := zi_t c4 h
          exact bX19_ownAdvert_74 hst F hA E  x0 x1 x2 s0 hx0 hx1 hr (lv_sub hl [1, 2, 3, 0] rfl) h
        · replace h := zi_f c4 h
          obtain ⟨rfl, rfl⟩ := zret h
          exact E _ _ _ _ dX19_ownAdvert_73 trivial hr
def fX19_ownAdvert (N : Nat)  (x0 : Nat) (x1 : Nat) (z : St) : Option (Int32 × St) := if (10 : Int32) ≤ ((zgI z 19 24 x0) - (zgI z 12 18 x1)) then (zk (zgI z 12 0 x1) 16 <| zl (zgA z 150 x1 (Int32.toNatClampNeg (zgI z 12 0 x1))) fun v3 => if ((zgI z 19 24 x0) - (zgI z 12 18 x1)) < (2000 : Int32) then (fX19_ownAdvert_45 N x0 x1 v3 (0 : Int32) z) else (fX19_ownAdvert_45 N x0 x1 v3 (1 : Int32) z)) else (some (0, z))
set_option maxHeartbeats 4000000 in
set_option maxRecDepth 100000 in
theorem bX19_ownAdvert_0 (hst : zSt B ids) (F : zFx p m c cX19_ownAdvert 5 s args RX19 D cy B ids A) (hA : ∀ q : Nat, s.heap.size ≤ q → A q) {r : Int32} {z' : St} (E : zEnd p l e rmX19_ownAdvert s m args below meth c cX19_ownAdvert D cy B ids A Q none z' .return_ True) {N : Nat}  (x0 : Nat) (x1 : Nat) (hx0 : (19, x0) ∈ ids) (hx1 : (12, x1) ∈ ids) {z : St} {H : Heap} {locs : List Loc} {ls : Array Slot} (hr : zRep D cy B ids A s.heap z H locs) (hl : lv_has ls 5 [(0, .ref (B 19 x0)), (1, .ref (B 12 x1))]) (h : fX19_ownAdvert N x0 x1 z = some (r, z')) : W p l e rmX19_ownAdvert s m args below meth c H locs 0 0 Q (F0 m 0 ls []) := by
  unfold fX19_ownAdvert at h
  refine lv_aload_n F.1 F.2.1 dX19_ownAdvert_0 rfl (lv_at hl 0 rfl) ?_
  refine gf19_143 F hx0 hr dX19_ownAdvert_1 ?_
  refine lv_aload_n F.1 F.2.1 dX19_ownAdvert_4 rfl (lv_at hl 1 rfl) ?_
  refine gf19_527 F hx1 hr dX19_ownAdvert_5 ?_
  refine lv_isub F.1 F.2.1 dX19_ownAdvert_8 ?_
  refine lv_bipush (v := (10 : Int32)) F.1 F.2.1 dX19_ownAdvert_9 (by decide) ?_
  refine lv_icmp_ge (tgt := 15) F.1 F.2.1 dX19_ownAdvert_11 (by decide) (fun c1 => ?_) (fun c1 => ?_)
  · replace h := zi_t c1 h
    refine lv_aload_n F.1 F.2.1 dX19_ownAdvert_15 rfl (lv_at hl 1 rfl) ?_
    refine gf19_448 F hx1 hr dX19_ownAdvert_16 ?_
    refine lv_aload_n F.1 F.2.1 dX19_ownAdvert_19 rfl (lv_at hl 1 rfl) ?_
    refine gf19_310 F hx1 hr dX19_ownAdvert_20 ?_
    replace h := zk_some h
    obtain ⟨c2, h⟩ := h
    refine zr_iald (k := 150) (by decide) rfl (by decide) F (zal_a F hx1 (j := 14) rfl) hr dX19_ownAdvert_23 c2 ?_
    refine lv_topi (fun v3 ev3 => ?_)
    replace h := zl_sub ev3 h
    refine lv_istore_n (lv' := [(2, .int v3), (0, .ref (B 19 x0)), (1, .ref (B 12 x1))]) F.1 F.2.1 dX19_ownAdvert_24 rfl hl (by decide) rfl (fun ls hl => ?_)
    refine lv_aload_n F.1 F.2.1 dX19_ownAdvert_25 rfl (lv_at hl 1 rfl) ?_
    refine gf19_143 F hx0 hr dX19_ownAdvert_26 ?_
    refine lv_aload_n F.1 F.2.1 dX19_ownAdvert_29 rfl (lv_at hl 2 rfl) ?_
    refine gf19_527 F hx1 hr dX19_ownAdvert_30 ?_
    refine lv_isub F.1 F.2.1 dX19_ownAdvert_33 ?_
    refine lv_sipush (v := (2000 : Int32)) F.1 F.2.1 dX19_ownAdvert_34 (by decide) ?_
    refine lv_icmp_lt (tgt := 44) F.1 F.2.1 dX19_ownAdvert_37 (by decide) (fun c4 => ?_) (fun c4 => ?_)
    · replace h := zi_t c4 h
      refine lv_iconst (v := (0 : Int32)) F.1 F.2.1 dX19_ownAdvert_44 (by decide) ?_
      exact bX19_ownAdvert_45 hst F hA E  x0 x1 v3 (0 : Int32) hx0 hx1 hr (lv_sub hl [1, 2, 0] rfl) h
    · replace h := zi_f c4 h
      refine lv_iconst (v := (1 : Int32)) F.1 F.2.1 dX19_ownAdvert_40 (by decide) ?_
      refine lv_goto (tgt := 45) F.1 F.2.1 dX19_ownAdvert_41 (by decide) ?_
      exact bX19_ownAdvert_45 hst F hA E  x0 x1 v3 (1 : Int32) hx0 hx1 hr (lv_sub hl [1, 2, 0] rfl) h
  · replace h := zi_f c1 h
    obtain ⟨rfl, rfl⟩ := zret h
    exact E _ _ _ _ dX19_ownAdvert_14 trivial hr
end SX19_ownAdvert
set_option maxRecDepth 100000 in
theorem okX19_ownAdvert (l : Launch) (D : va_G) (cy : Nat → ClassId) (B : Nat → Nat → Nat) (ids : List (Nat × Nat)) (hst : zSt B ids) (N : Nat) (x0 : Nat) (hx0 : (19, x0) ∈ ids) (x1 : Nat) (hx1 : (12, x1) ∈ ids) {z : St} {r : Int32} {z' : St} (hW : zWf ids z) (h : fX19_ownAdvert N x0 x1 z = some (r, z')) : zM l yX19_ownAdvert (zws yX19_ownAdvert cX19_ownAdvert 5 none) rmX19_ownAdvert D cy B ids [.ref (B 19 x0), .ref (B 12 x1)] none True z z' :=
  zM_of hst hW (by decide +kernel) (Nat.le_of_ble_eq_true rfl) (fun p e s m args below meth c A ls F hA hret hlocks hr hl => bX19_ownAdvert_0 hst F hA (zEnd_v F hret hlocks) x0 x1 hx0 hx1 hr hl h)
abbrev rmX19_greet : Room := { frames := 5, cells := 0, slots := 0, locals := 128 }
theorem hdX19_greet : yX19_greet.cls ≠ "java/lang/invoke/MethodHandle" ∧ yX19_greet.cls ≠ "java/lang/invoke/VarHandle" ∧ (parseMethodDescriptor yX19_greet.desc).map (fun d => d.parameters.length) = some 2 := by decide +kernel
theorem hroX19_greet_X18_address : rmX18_address.frames + 1 ≤ rmX19_greet.frames ∧ 8 + (1 + 11) + rmX18_address.locals ≤ rmX19_greet.locals := by decide
theorem hroX19_greet_X19_carry : rmX19_carry.frames + 1 ≤ rmX19_greet.frames ∧ 8 + (9 + 11) + rmX19_carry.locals ≤ rmX19_greet.locals := by decide
theorem hroX19_greet_X19_drop : rmX19_drop.frames + 1 ≤ rmX19_greet.frames ∧ 8 + (2 + 11) + rmX19_drop.locals ≤ rmX19_greet.locals := by decide
theorem hroX19_greet_X19_make : rmX19_make.frames + 1 ≤ rmX19_greet.frames ∧ 8 + (7 + 11) + rmX19_make.locals ≤ rmX19_greet.locals := by decide
theorem hroX19_greet_X19_set : rmX19_set.frames + 1 ≤ rmX19_greet.frames ∧ 8 + (4 + 11) + rmX19_set.locals ≤ rmX19_greet.locals := by decide
section SX19_greet
variable {p : Program} {l : Launch} {e : Env} {s : State} {m : MethodId} {args : Array Value} {below : List Frame} {meth : Method} {c : Code} {Q : State → Prop} {D : va_G} {cy : Nat → ClassId} {B : Nat → Nat → Nat} {ids : List (Nat × Nat)} {A : Nat → Prop}
def fX19_greet_59 (N : Nat) (K16 : Nat → Nat → Int32 → Option Nat → Int32 → Int32 → Int32 → St → Option (Int32 × St)) (x0 : Nat) (x1 : Nat) (x2 : Int32) (x3 : Option Nat) (x4 : Int32) (x5 : Int32) (x6 : Int32) (z : St) : Option (Int32 × St) := zl (x6 + 1) fun v1 => K16 x0 x1 x2 x3 x4 x5 v1 z
set_option maxHeartbeats 4000000 in
set_option maxRecDepth 100000 in
theorem bX19_greet_59 (hst : zSt B ids) (F : zFx p m c cX19_greet 7 s args RX19 D cy B ids A) (hA : ∀ q : Nat, s.heap.size ≤ q → A q) {r : Int32} {z' : St} (E : zEnd p l e rmX19_greet s m args below meth c cX19_greet D cy B ids A Q none z' .return_ True) {N : Nat} {K16 : Nat → Nat → Int32 → Option Nat → Int32 → Int32 → Int32 → St → Option (Int32 × St)} (hK16 : ∀ (x0 : Nat) (x1 : Nat) (x2 : Int32) (x3 : Option Nat) (x4 : Int32) (x5 : Int32) (x6 : Int32) (hx0 : (19, x0) ∈ ids) (hx1 : (12, x1) ∈ ids) (hx3 : ∀ t, x3 = some t → (18, t) ∈ ids) {z : St} {H : Heap} {locs : List Loc} {ls : Array Slot} (hr : zRep D cy B ids A s.heap z H locs) (hl : lv_has ls 7 [(0, .ref (B 19 x0)), (1, .ref (B 12 x1)), (2, .int x2), (3, va_rf (Option.map (B 18) x3)), (4, .int x4), (5, .int x5), (6, .int x6)]), K16 x0 x1 x2 x3 x4 x5 x6 z = some (r, z') → W p l e rmX19_greet s m args below meth c H locs 0 0 Q (F0 m 16 ls [])) (x0 : Nat) (x1 : Nat) (x2 : Int32) (x3 : Option Nat) (x4 : Int32) (x5 : Int32) (x6 : Int32) (hx0 : (19, x0) ∈ ids) (hx1 : (12, x1) ∈ ids) (hx3 : ∀ t, x3 = some t → (18, t) ∈ ids) {z : St} {H : Heap} {locs : List Loc} {ls : Array Slot} (hr : zRep D cy B ids A s.heap z H locs) (hl : lv_has ls 7 [(0, .ref (B 19 x0)), (1, .ref (B 12 x1)), (2, .int x2), (3, va_rf (Option.map (B 18) x3)), (4, .int x4), (5, .int x5), (6, .int x6)]) (h : fX19_greet_59 N K16 x0 x1 x2 x3 x4 x5 x6 z = some (r, z')) : W p l e rmX19_greet s m args below meth c H locs 0 0 Q (F0 m 59 ls []) := by
  unfold fX19_greet_59 at h
  obtain ⟨v1, ev1⟩ : ∃ y : Int32, y = (x6 + 1) := ⟨_, rfl⟩
  replace h := zl_sub ev1 h
  refine lv_iinc (v := v1) (lv' := [(6, .int v1), (0, .ref (B 19 x0)), (1, .ref (B 12 x1)), (2, .int x2), (3, va_rf (Option.map (B 18) x3)), (4, .int x4), (5, .int x5)]) F.1 F.2.1 dX19_greet_59 hl (k := 6) rfl (by rw [ev1]; rfl) (by decide) rfl (fun ls hl => ?_)
  refine lv_goto (tgt := 16) F.1 F.2.1 dX19_greet_62 (by decide) ?_
  exact hK16 x0 x1 x2 x3 x4 x5 v1 hx0 hx1 hx3 hr (lv_sub hl [1, 2, 3, 4, 5, 6, 0] rfl) h
def fX19_greet_16b (N : Nat) (K16 : Nat → Nat → Int32 → Option Nat → Int32 → Int32 → Int32 → St → Option (Int32 × St)) (x0 : Nat) (x1 : Nat) (x2 : Int32) (x3 : Option Nat) (x4 : Int32) (x5 : Int32) (x6 : Int32) (z : St) : Option (Int32 × St) := if (zgI z 12 13 x1) ≤ x6 then (zd x3 fun a2 => zc (fX18_address N a2 z) fun r3 z4 => zc (fX19_make N x0 x1 (2 : Int32) ((8 : Int32) + ((2 : Int32) * x5)) r3 (0 : Int32) z4) fun r7 z8 => zc (fX19_set N x0 r7 (12 : Int32) (zgI z8 12 0 x1) z8) fun _ z12 => zc (fX19_set N x0 r7 (13 : Int32) x4 z12) fun _ z16 => zc (fX19_carry N x0 a2 (-1 : Int32) r7 z16) fun _ z20 => zc (fX19_drop N x0 r7 z20) fun _ z24 => some (0, z24)) else (zk x6 16 <| zl (zgQ z 149 x1 (Int32.toNatClampNeg x6)) fun y28 => zd y28 fun a29 => if ¬ (zgI z 15 0 a29) = x2 then (fX19_greet_59 N K16 x0 x1 x2 x3 x4 x5 x6 z) else (zk x6 16 <| zl (zgQ z 149 x1 (Int32.toNatClampNeg x6)) fun y32 => zd y32 fun a33 => zl (x4 ||| ((1 : Int32) <<< ((zgI z 15 1 a33) &&& 31))) fun v34 => zl (x5 + 1) fun v35 => fX19_greet_59 N K16 x0 x1 x2 x3 v34 v35 x6 z))
def fX19_greet_16 (N : Nat)  : Nat → Nat → Nat → Int32 → Option Nat → Int32 → Int32 → Int32 → St → Option (Int32 × St)
  | 0 => fun _ _ _ _ _ _ _ _ => none
  | n + 1 => fX19_greet_16b N (fX19_greet_16 N  n)
set_option maxHeartbeats 4000000 in
set_option maxRecDepth 100000 in
theorem bX19_greet_16 (hst : zSt B ids) (F : zFx p m c cX19_greet 7 s args RX19 D cy B ids A) (hA : ∀ q : Nat, s.heap.size ≤ q → A q) {r : Int32} {z' : St} (E : zEnd p l e rmX19_greet s m args below meth c cX19_greet D cy B ids A Q none z' .return_ True) {N : Nat} {K16 : Nat → Nat → Int32 → Option Nat → Int32 → Int32 → Int32 → St → Option (Int32 × St)} (hK16 : ∀ (x0 : Nat) (x1 : Nat) (x2 : Int32) (x3 : Option Nat) (x4 : Int32) (x5 : Int32) (x6 : Int32) (hx0 : (19, x0) ∈ ids) (hx1 : (12, x1) ∈ ids) (hx3 : ∀ t, x3 = some t → (18, t) ∈ ids) {z : St} {H : Heap} {locs : List Loc} {ls : Array Slot} (hr : zRep D cy B ids A s.heap z H locs) (hl : lv_has ls 7 [(0, .ref (B 19 x0)), (1, .ref (B 12 x1)), (2, .int x2), (3, va_rf (Option.map (B 18) x3)), (4, .int x4), (5, .int x5), (6, .int x6)]), K16 x0 x1 x2 x3 x4 x5 x6 z = some (r, z') → W p l e rmX19_greet s m args below meth c H locs 0 0 Q (F0 m 16 ls [])) (x0 : Nat) (x1 : Nat) (x2 : Int32) (x3 : Option Nat) (x4 : Int32) (x5 : Int32) (x6 : Int32) (hx0 : (19, x0) ∈ ids) (hx1 : (12, x1) ∈ ids) (hx3 : ∀ t, x3 = some t → (18, t) ∈ ids) {z : St} {H : Heap} {locs : List Loc} {ls : Array Slot} (hr : zRep D cy B ids A s.heap z H locs) (hl : lv_has ls 7 [(0, .ref (B 19 x0)), (1, .ref (B 12 x1)), (2, .int x2), (3, va_rf (Option.map (B 18) x3)), (4, .int x4), (5, .int x5), (6, .int x6)]) (h : fX19_greet_16b N K16 x0 x1 x2 x3 x4 x5 x6 z = some (r, z')) : W p l e rmX19_greet s m args below meth c H locs 0 0 Q (F0 m 16 ls []) := by
  unfold fX19_greet_16b at h
  refine lv_iload F.1 F.2.1 dX19_greet_16 (lv_at hl 6 rfl) ?_
  refine lv_aload_n F.1 F.2.1 dX19_greet_18 rfl (lv_at hl 1 rfl) ?_
  refine gf19_457 F hx1 hr dX19_greet_19 ?_
  refine lv_icmp_ge (tgt := 65) F.1 F.2.1 dX19_greet_22 (by decide) (fun c1 => ?_) (fun c1 => ?_)
  · replace h := zi_t c1 h
    refine lv_aload_n F.1 F.2.1 dX19_greet_65 rfl (lv_at hl 0 rfl) ?_
    refine lv_aload_n F.1 F.2.1 dX19_greet_66 rfl (lv_at hl 1 rfl) ?_
    refine lv_iconst (v := (2 : Int32)) F.1 F.2.1 dX19_greet_67 (by decide) ?_
    refine lv_bipush (v := (8 : Int32)) F.1 F.2.1 dX19_greet_68 (by decide) ?_
    refine lv_iconst (v := (2 : Int32)) F.1 F.2.1 dX19_greet_70 (by decide) ?_
    refine lv_iload F.1 F.2.1 dX19_greet_71 (lv_at hl 5 rfl) ?_
    refine lv_imul F.1 F.2.1 dX19_greet_73 ?_
    refine lv_iadd F.1 F.2.1 dX19_greet_74 ?_
    refine zr_aload_n F.1 F.2.1 dX19_greet_75 rfl (lv_at hl 3 rfl) ?_
    replace h := zd_some h
    obtain ⟨a2, rfl, h⟩ := h
    replace h := zc_some h
    obtain ⟨r3, z4, hc5, h⟩ := h
    refine zr_calli (zrun_VN (As := []) (rest := [.int ((8 : Int32) + ((2 : Int32) * x5)), .int (2 : Int32), .ref (B 12 x1), .ref (B 19 x0)]) zn_2520 zq_2522 zs_X18_address zq_2523 zq_25 hdX18_address (by decide) (T := TX18) (N := 13) rfl (okX18_address l D cy B ids hst N a2 (hx3 _ rfl) hr.2.2 hc5) F hr (hx3 _ rfl) hl.1 rfl (Nat.le_of_ble_eq_true rfl) dX19_greet_76 rfl rfl hroX19_greet_X18_address ⟨Nat.zero_le _, Nat.zero_le _⟩) F hA hr (fun H locs hw6 hr => ?_)
    clear hc5
    refine lv_iconst (v := (0 : Int32)) F.1 F.2.1 dX19_greet_79 (by decide) ?_
    replace h := zc_some h
    obtain ⟨r7, z8, hc9, h⟩ := h
    refine zr_calli (zrun_V (As := [.ref (B 12 x1), .int (2 : Int32), .int ((8 : Int32) + ((2 : Int32) * x5)), .int r3, .int (0 : Int32)]) (rest := []) zq_2765 zq_2767 zs_X19_make zq_2768 zq_4 hdX19_make (by decide) (T := TX19) (N := 32) rfl (okX19_make l D cy B ids hst N x0 hx0 x1 hx1 (2 : Int32)  ((8 : Int32) + ((2 : Int32) * x5))  r3  (0 : Int32)  hr.2.2 hc9) F hr hx0 hl.1 rfl (by decide) dX19_greet_80 rfl rfl hroX19_greet_X19_make ⟨Nat.zero_le _, Nat.zero_le _⟩) F hA hr (fun H locs hw10 hr => ?_)
    clear hc9
    refine lv_istore (lv' := [(6, .int r7), (0, .ref (B 19 x0)), (1, .ref (B 12 x1)), (2, .int x2), (3, .ref (B 18 a2)), (4, .int x4), (5, .int x5)]) F.1 F.2.1 dX19_greet_83 hl (by decide) rfl (fun ls hl => ?_)
    refine lv_aload_n F.1 F.2.1 dX19_greet_85 rfl (lv_at hl 1 rfl) ?_
    refine lv_iload F.1 F.2.1 dX19_greet_86 (lv_at hl 0 rfl) ?_
    refine lv_bipush (v := (12 : Int32)) F.1 F.2.1 dX19_greet_88 (by decide) ?_
    refine lv_aload_n F.1 F.2.1 dX19_greet_90 rfl (lv_at hl 2 rfl) ?_
    refine gf19_310 F hx1 hr dX19_greet_91 ?_
    replace h := zc_some h
    obtain ⟨r11, z12, hc13, h⟩ := h
    refine zr_callv (zrun_V (As := [.int r7, .int (12 : Int32), .int (zgI z8 12 0 x1)]) (rest := []) zq_2623 zq_2625 zs_X19_set zq_2626 zq_4 hdX19_set (by decide) (T := TX19) (N := 32) rfl (okX19_set l D cy B ids hst N x0 hx0 r7  (12 : Int32)  (zgI z8 12 0 x1)  hr.2.2 hc13) F hr hx0 hl.1 rfl (by decide) dX19_greet_94 rfl rfl hroX19_greet_X19_set ⟨Nat.zero_le _, Nat.zero_le _⟩) F hA hr (fun H locs hw14 hr => ?_)
    clear hc13
    refine lv_aload_n F.1 F.2.1 dX19_greet_97 rfl (lv_at hl 1 rfl) ?_
    refine lv_iload F.1 F.2.1 dX19_greet_98 (lv_at hl 0 rfl) ?_
    refine lv_bipush (v := (13 : Int32)) F.1 F.2.1 dX19_greet_100 (by decide) ?_
    refine lv_iload F.1 F.2.1 dX19_greet_102 (lv_at hl 5 rfl) ?_
    replace h := zc_some h
    obtain ⟨r15, z16, hc17, h⟩ := h
    refine zr_callv (zrun_V (As := [.int r7, .int (13 : Int32), .int x4]) (rest := []) zq_2623 zq_2625 zs_X19_set zq_2626 zq_4 hdX19_set (by decide) (T := TX19) (N := 32) rfl (okX19_set l D cy B ids hst N x0 hx0 r7  (13 : Int32)  x4  hr.2.2 hc17) F hr hx0 hl.1 rfl (by decide) dX19_greet_104 rfl rfl hroX19_greet_X19_set ⟨Nat.zero_le _, Nat.zero_le _⟩) F hA hr (fun H locs hw18 hr => ?_)
    clear hc17
    refine lv_aload_n F.1 F.2.1 dX19_greet_107 rfl (lv_at hl 1 rfl) ?_
    refine lv_aload_n F.1 F.2.1 dX19_greet_108 rfl (lv_at hl 4 rfl) ?_
    refine lv_iconst (v := (-1 : Int32)) F.1 F.2.1 dX19_greet_109 (by decide) ?_
    refine lv_iload F.1 F.2.1 dX19_greet_110 (lv_at hl 0 rfl) ?_
    replace h := zc_some h
    obtain ⟨r19, z20, hc21, h⟩ := h
    refine zr_callv (zrun_V (As := [.ref (B 18 a2), .int (-1 : Int32), .int r7]) (rest := []) zq_2607 zq_2609 zs_X19_carry zq_2610 zq_4 hdX19_carry (by decide) (T := TX19) (N := 32) rfl (okX19_carry l D cy B ids hst N x0 hx0 a2 (hx3 _ rfl) (-1 : Int32)  r7  hr.2.2 hc21) F hr hx0 hl.1 rfl (by decide) dX19_greet_112 rfl rfl hroX19_greet_X19_carry ⟨Nat.zero_le _, Nat.zero_le _⟩) F hA hr (fun H locs hw22 hr => ?_)
    clear hc21
    refine lv_aload_n F.1 F.2.1 dX19_greet_115 rfl (lv_at hl 1 rfl) ?_
    refine lv_iload F.1 F.2.1 dX19_greet_116 (lv_at hl 0 rfl) ?_
    replace h := zc_some h
    obtain ⟨r23, z24, hc25, h⟩ := h
    refine zr_callv (zrun_V (As := [.int r7]) (rest := []) zq_2545 zq_2547 zs_X19_drop zq_2548 zq_4 hdX19_drop (by decide) (T := TX19) (N := 32) rfl (okX19_drop l D cy B ids hst N x0 hx0 r7  hr.2.2 hc25) F hr hx0 hl.1 rfl (by decide) dX19_greet_118 rfl rfl hroX19_greet_X19_drop ⟨Nat.zero_le _, Nat.zero_le _⟩) F hA hr (fun H locs hw26 hr => ?_)
    clear hc25
    obtain ⟨rfl, rfl⟩ := zret h
    exact E _ _ _ _ dX19_greet_121 trivial hr
  · replace h := zi_f c1 h
    refine lv_aload_n F.1 F.2.1 dX19_greet_25 rfl (lv_at hl 1 rfl) ?_
    refine gf19_460 F hx1 hr dX19_greet_26 ?_
    refine lv_iload F.1 F.2.1 dX19_greet_29 (lv_at hl 6 rfl) ?_
    replace h := zk_some h
    obtain ⟨c27, h⟩ := h
    refine zr_aaldv (k := 149) (by decide) rfl rfl (zlen_d (by decide)) F (zal_a F hx1 (j := 12) rfl) hr dX19_greet_31 c27 (fun y28 ey28 => ?_)
    replace h := zl_sub ey28 h
    have hy28 := zal_q hr (zal_a F hx1 (j := 12) rfl) rfl ey28
    clear ey28
    replace h := zd_some h
    obtain ⟨a29, rfl, h⟩ := h
    refine gf19_464 F (hy28 _ rfl) hr dX19_greet_32 ?_
    refine lv_iload_n F.1 F.2.1 dX19_greet_35 rfl (lv_at hl 2 rfl) ?_
    refine lv_icmp_ne (tgt := 59) F.1 F.2.1 dX19_greet_36 (by decide) (fun c30 => ?_) (fun c30 => ?_)
    · replace h := zi_t c30 h
      exact bX19_greet_59 hst F hA E hK16 x0 x1 x2 x3 x4 x5 x6 hx0 hx1 hx3 hr (lv_sub hl [0, 1, 2, 3, 4, 5, 6] rfl) h
    · replace h := zi_f (fun q => q c30) h
      refine lv_iload F.1 F.2.1 dX19_greet_39 (lv_at hl 4 rfl) ?_
      refine lv_iconst (v := (1 : Int32)) F.1 F.2.1 dX19_greet_41 (by decide) ?_
      refine lv_aload_n F.1 F.2.1 dX19_greet_42 rfl (lv_at hl 1 rfl) ?_
      refine gf19_460 F hx1 hr dX19_greet_43 ?_
      refine lv_iload F.1 F.2.1 dX19_greet_46 (lv_at hl 6 rfl) ?_
      replace h := zk_some h
      obtain ⟨c31, h⟩ := h
      refine zr_aaldv (k := 149) (by decide) rfl rfl (zlen_d (by decide)) F (zal_a F hx1 (j := 12) rfl) hr dX19_greet_48 c31 (fun y32 ey32 => ?_)
      replace h := zl_sub ey32 h
      have hy32 := zal_q hr (zal_a F hx1 (j := 12) rfl) rfl ey32
      clear ey32
      replace h := zd_some h
      obtain ⟨a33, rfl, h⟩ := h
      refine gf19_467 F (hy32 _ rfl) hr dX19_greet_49 ?_
      refine lv_ishl F.1 F.2.1 dX19_greet_52 ?_
      refine lv_ior F.1 F.2.1 dX19_greet_53 ?_
      refine lv_topi (fun v34 ev34 => ?_)
      replace h := zl_sub ev34 h
      refine lv_istore (lv' := [(4, .int v34), (0, .ref (B 19 x0)), (1, .ref (B 12 x1)), (2, .int x2), (3, va_rf (Option.map (B 18) x3)), (5, .int x5), (6, .int x6)]) F.1 F.2.1 dX19_greet_54 hl (by decide) (by simp only [List.filter, zrf_cat]; rfl) (fun ls hl => ?_)
      obtain ⟨v35, ev35⟩ : ∃ y : Int32, y = (x5 + 1) := ⟨_, rfl⟩
      replace h := zl_sub ev35 h
      refine lv_iinc (v := v35) (lv' := [(5, .int v35), (4, .int v34), (0, .ref (B 19 x0)), (1, .ref (B 12 x1)), (2, .int x2), (3, va_rf (Option.map (B 18) x3)), (6, .int x6)]) F.1 F.2.1 dX19_greet_56 hl (k := 5) rfl (by rw [ev35]; rfl) (by decide) rfl (fun ls hl => ?_)
      exact bX19_greet_59 hst F hA E hK16 x0 x1 x2 x3 v34 v35 x6 hx0 hx1 hx3 hr (lv_sub hl [2, 3, 4, 5, 1, 0, 6] rfl) h
theorem lX19_greet_16 (hst : zSt B ids) (F : zFx p m c cX19_greet 7 s args RX19 D cy B ids A) (hA : ∀ q : Nat, s.heap.size ≤ q → A q) {r : Int32} {z' : St} (E : zEnd p l e rmX19_greet s m args below meth c cX19_greet D cy B ids A Q none z' .return_ True) {N : Nat}  : ∀ (n : Nat) (x0 : Nat) (x1 : Nat) (x2 : Int32) (x3 : Option Nat) (x4 : Int32) (x5 : Int32) (x6 : Int32) (hx0 : (19, x0) ∈ ids) (hx1 : (12, x1) ∈ ids) (hx3 : ∀ t, x3 = some t → (18, t) ∈ ids) {z : St} {H : Heap} {locs : List Loc} {ls : Array Slot} (hr : zRep D cy B ids A s.heap z H locs) (hl : lv_has ls 7 [(0, .ref (B 19 x0)), (1, .ref (B 12 x1)), (2, .int x2), (3, va_rf (Option.map (B 18) x3)), (4, .int x4), (5, .int x5), (6, .int x6)]), fX19_greet_16 N  n x0 x1 x2 x3 x4 x5 x6 z = some (r, z') → W p l e rmX19_greet s m args below meth c H locs 0 0 Q (F0 m 16 ls []) := by
  intro n
  induction n with
  | zero => intro x0 x1 x2 x3 x4 x5 x6 hx0 hx1 hx3 z H locs ls hr hl h; cases h
  | succ n ih => intro x0 x1 x2 x3 x4 x5 x6 hx0 hx1 hx3 z H locs ls hr hl h; exact bX19_greet_16 hst F hA E ih x0 x1 x2 x3 x4 x5 x6 hx0 hx1 hx3 hr hl h
def fX19_greet (N : Nat)  (x0 : Nat) (x1 : Nat) (x2 : Int32) (z : St) : Option (Int32 × St) := zk x2 6 <| zl (zgQ z 147 x1 (Int32.toNatClampNeg x2)) fun y2 => fX19_greet_16 N N x0 x1 x2 y2 (0 : Int32) (0 : Int32) (0 : Int32) z
set_option maxHeartbeats 4000000 in
set_option maxRecDepth 100000 in
theorem bX19_greet_0 (hst : zSt B ids) (F : zFx p m c cX19_greet 7 s args RX19 D cy B ids A) (hA : ∀ q : Nat, s.heap.size ≤ q → A q) {r : Int32} {z' : St} (E : zEnd p l e rmX19_greet s m args below meth c cX19_greet D cy B ids A Q none z' .return_ True) {N : Nat}  (x0 : Nat) (x1 : Nat) (x2 : Int32) (hx0 : (19, x0) ∈ ids) (hx1 : (12, x1) ∈ ids) {z : St} {H : Heap} {locs : List Loc} {ls : Array Slot} (hr : zRep D cy B ids A s.heap z H locs) (hl : lv_has ls 7 [(0, .ref (B 19 x0)), (1, .ref (B 12 x1)), (2, .int x2)]) (h : fX19_greet N x0 x1 x2 z = some (r, z')) : W p l e rmX19_greet s m args below meth c H locs 0 0 Q (F0 m 0 ls []) := by
  unfold fX19_greet at h
  refine lv_aload_n F.1 F.2.1 dX19_greet_0 rfl (lv_at hl 1 rfl) ?_
  refine gf19_276 F hx1 hr dX19_greet_1 ?_
  refine lv_iload_n F.1 F.2.1 dX19_greet_4 rfl (lv_at hl 2 rfl) ?_
  replace h := zk_some h
  obtain ⟨c1, h⟩ := h
  refine zr_aaldv (k := 147) (by decide) rfl rfl (zlen_d (by decide)) F (zal_a F hx1 (j := 2) rfl) hr dX19_greet_5 c1 (fun y2 ey2 => ?_)
  replace h := zl_sub ey2 h
  have hy2 := zal_q hr (zal_a F hx1 (j := 2) rfl) rfl ey2
  clear ey2
  refine zr_astore_n (lv' := [(3, va_rf (Option.map (B 18) y2)), (0, .ref (B 19 x0)), (1, .ref (B 12 x1)), (2, .int x2)]) F.1 F.2.1 dX19_greet_6 rfl hl (by decide) rfl (fun ls hl => ?_)
  refine lv_iconst (v := (0 : Int32)) F.1 F.2.1 dX19_greet_7 (by decide) ?_
  refine lv_istore (lv' := [(4, .int (0 : Int32)), (3, va_rf (Option.map (B 18) y2)), (0, .ref (B 19 x0)), (1, .ref (B 12 x1)), (2, .int x2)]) F.1 F.2.1 dX19_greet_8 hl (by decide) (by simp only [List.filter, zrf_cat]; rfl) (fun ls hl => ?_)
  refine lv_iconst (v := (0 : Int32)) F.1 F.2.1 dX19_greet_10 (by decide) ?_
  refine lv_istore (lv' := [(5, .int (0 : Int32)), (4, .int (0 : Int32)), (3, va_rf (Option.map (B 18) y2)), (0, .ref (B 19 x0)), (1, .ref (B 12 x1)), (2, .int x2)]) F.1 F.2.1 dX19_greet_11 hl (by decide) rfl (fun ls hl => ?_)
  refine lv_iconst (v := (0 : Int32)) F.1 F.2.1 dX19_greet_13 (by decide) ?_
  refine lv_istore (lv' := [(6, .int (0 : Int32)), (5, .int (0 : Int32)), (4, .int (0 : Int32)), (3, va_rf (Option.map (B 18) y2)), (0, .ref (B 19 x0)), (1, .ref (B 12 x1)), (2, .int x2)]) F.1 F.2.1 dX19_greet_14 hl (by decide) rfl (fun ls hl => ?_)
  exact lX19_greet_16 hst F hA E  _ x0 x1 x2 y2 (0 : Int32) (0 : Int32) (0 : Int32) hx0 hx1 hy2 hr (lv_sub hl [4, 5, 6, 3, 2, 1, 0] rfl) h
end SX19_greet
set_option maxRecDepth 100000 in
theorem okX19_greet (l : Launch) (D : va_G) (cy : Nat → ClassId) (B : Nat → Nat → Nat) (ids : List (Nat × Nat)) (hst : zSt B ids) (N : Nat) (x0 : Nat) (hx0 : (19, x0) ∈ ids) (x1 : Nat) (hx1 : (12, x1) ∈ ids) (x2 : Int32) {z : St} {r : Int32} {z' : St} (hW : zWf ids z) (h : fX19_greet N x0 x1 x2 z = some (r, z')) : zM l yX19_greet (zws yX19_greet cX19_greet 7 none) rmX19_greet D cy B ids [.ref (B 19 x0), .ref (B 12 x1), .int x2] none True z z' :=
  zM_of hst hW (by decide +kernel) (Nat.le_of_ble_eq_true rfl) (fun p e s m args below meth c A ls F hA hret hlocks hr hl => bX19_greet_0 hst F hA (zEnd_v F hret hlocks) x0 x1 x2 hx0 hx1 hr hl h)
abbrev rmX19_tellAdvert : Room := { frames := 6, cells := 0, slots := 0, locals := 153 }
theorem hdX19_tellAdvert : yX19_tellAdvert.cls ≠ "java/lang/invoke/MethodHandle" ∧ yX19_tellAdvert.cls ≠ "java/lang/invoke/VarHandle" ∧ (parseMethodDescriptor yX19_tellAdvert.desc).map (fun d => d.parameters.length) = some 3 := by decide +kernel
theorem hroX19_tellAdvert_X18_address : rmX18_address.frames + 1 ≤ rmX19_tellAdvert.frames ∧ 8 + (1 + 11) + rmX18_address.locals ≤ rmX19_tellAdvert.locals := by decide
theorem hroX19_tellAdvert_X19_ad : rmX19_ad.frames + 1 ≤ rmX19_tellAdvert.frames ∧ 8 + (3 + 11) + rmX19_ad.locals ≤ rmX19_tellAdvert.locals := by decide
theorem hroX19_tellAdvert_X19_deliver : rmX19_deliver.frames + 1 ≤ rmX19_tellAdvert.frames ∧ 8 + (6 + 11) + rmX19_deliver.locals ≤ rmX19_tellAdvert.locals := by decide
theorem hroX19_tellAdvert_X19_drop : rmX19_drop.frames + 1 ≤ rmX19_tellAdvert.frames ∧ 8 + (2 + 11) + rmX19_drop.locals ≤ rmX19_tellAdvert.locals := by decide
theorem hroX19_tellAdvert_X19_make : rmX19_make.frames + 1 ≤ rmX19_tellAdvert.frames ∧ 8 + (7 + 11) + rmX19_make.locals ≤ rmX19_tellAdvert.locals := by decide
theorem hroX19_tellAdvert_X19_set : rmX19_set.frames + 1 ≤ rmX19_tellAdvert.frames ∧ 8 + (4 + 11) + rmX19_set.locals ≤ rmX19_tellAdvert.locals := by decide
theorem hroX19_tellAdvert_X19_stationOf : rmX19_stationOf.frames + 1 ≤ rmX19_tellAdvert.frames ∧ 8 + (3 + 11) + rmX19_stationOf.locals ≤ rmX19_tellAdvert.locals := by decide
section SX19_tellAdvert
variable {p : Program} {l : Launch} {e : Env} {s : State} {m : MethodId} {args : Array Value} {below : List Frame} {meth : Method} {c : Code} {Q : State → Prop} {D : va_G} {cy : Nat → ClassId} {B : Nat → Nat → Nat} {ids : List (Nat × Nat)} {A : Nat → Prop}
def fX19_tellAdvert (N : Nat)  (x0 : Nat) (x1 : Nat) (x2 : Nat) (x3 : Int32) (z : St) : Option (Int32 × St) := zk (zgI z 15 0 x2) 6 <| zl (zgQ z 147 x1 (Int32.toNatClampNeg (zgI z 15 0 x2))) fun y2 => zk (zgI z 15 1 x2) 16 <| zl (zgQ z 186 x0 (Int32.toNatClampNeg (zgI z 15 1 x2))) fun y4 => zd y2 fun a5 => zl (zgR z 18 2 a5) fun y6 => zd y4 fun a7 => zd y6 fun a8 => zc (fX19_stationOf N a7 a8 z) fun r9 z10 => zc (fX19_ad N x0 x3 (2 : Int32) z10) fun r13 z14 => zc (fX19_ad N x0 x3 (3 : Int32) z14) fun r17 z18 => zc (fX18_address N a5 z18) fun r21 z22 => zl (zgR z22 18 2 a5) fun y25 => zd y25 fun a26 => zk r9 8 <| zl (zgQ z22 164 a26 (Int32.toNatClampNeg r9)) fun y28 => zd y28 fun a29 => zc (fX18_address N a29 z22) fun r30 z31 => zc (fX19_make N x0 x1 (3 : Int32) ((12 : Int32) + ((6 : Int32) * (r13 + r17))) r21 r30 z31) fun r34 z35 => zc (fX19_set N x0 r34 (12 : Int32) (zgI z35 12 0 x1) z35) fun _ z39 => zc (fX19_set N x0 r34 (11 : Int32) x3 z39) fun _ z43 => zk x3 2400 <| zk x3 2400 <| zl (zsA z43 179 x0 (Int32.toNatClampNeg x3) ((zgA z43 179 x0 (Int32.toNatClampNeg x3)) + (1 : Int32))) fun z48 => zc (fX19_deliver N x0 a5 r9 r34 z48) fun _ z50 => zc (fX19_drop N x0 r34 z50) fun _ z54 => some (0, z54)
set_option maxHeartbeats 4000000 in
set_option maxRecDepth 100000 in
theorem bX19_tellAdvert_0 (hst : zSt B ids) (F : zFx p m c cX19_tellAdvert 7 s args RX19 D cy B ids A) (hA : ∀ q : Nat, s.heap.size ≤ q → A q) {r : Int32} {z' : St} (E : zEnd p l e rmX19_tellAdvert s m args below meth c cX19_tellAdvert D cy B ids A Q none z' .return_ True) {N : Nat}  (x0 : Nat) (x1 : Nat) (x2 : Nat) (x3 : Int32) (hx0 : (19, x0) ∈ ids) (hx1 : (12, x1) ∈ ids) (hx2 : (15, x2) ∈ ids) {z : St} {H : Heap} {locs : List Loc} {ls : Array Slot} (hr : zRep D cy B ids A s.heap z H locs) (hl : lv_has ls 7 [(0, .ref (B 19 x0)), (1, .ref (B 12 x1)), (2, .ref (B 15 x2)), (3, .int x3)]) (h : fX19_tellAdvert N x0 x1 x2 x3 z = some (r, z')) : W p l e rmX19_tellAdvert s m args below meth c H locs 0 0 Q (F0 m 0 ls []) := by
  unfold fX19_tellAdvert at h
  refine lv_aload_n F.1 F.2.1 dX19_tellAdvert_0 rfl (lv_at hl 1 rfl) ?_
  refine gf19_276 F hx1 hr dX19_tellAdvert_1 ?_
  refine lv_aload_n F.1 F.2.1 dX19_tellAdvert_4 rfl (lv_at hl 2 rfl) ?_
  refine gf19_464 F hx2 hr dX19_tellAdvert_5 ?_
  replace h := zk_some h
  obtain ⟨c1, h⟩ := h
  refine zr_aaldv (k := 147) (by decide) rfl rfl (zlen_d (by decide)) F (zal_a F hx1 (j := 2) rfl) hr dX19_tellAdvert_8 c1 (fun y2 ey2 => ?_)
  replace h := zl_sub ey2 h
  have hy2 := zal_q hr (zal_a F hx1 (j := 2) rfl) rfl ey2
  clear ey2
  refine zr_astore (lv' := [(4, va_rf (Option.map (B 18) y2)), (0, .ref (B 19 x0)), (1, .ref (B 12 x1)), (2, .ref (B 15 x2)), (3, .int x3)]) F.1 F.2.1 dX19_tellAdvert_9 hl (by decide) rfl (fun ls hl => ?_)
  refine lv_aload_n F.1 F.2.1 dX19_tellAdvert_11 rfl (lv_at hl 1 rfl) ?_
  refine gf19_114 F hx0 hr dX19_tellAdvert_12 ?_
  refine lv_aload_n F.1 F.2.1 dX19_tellAdvert_15 rfl (lv_at hl 3 rfl) ?_
  refine gf19_467 F hx2 hr dX19_tellAdvert_16 ?_
  replace h := zk_some h
  obtain ⟨c3, h⟩ := h
  refine zr_aaldv (k := 186) (by decide) rfl rfl (zlen_d (by decide)) F (zal_a F hx0 (j := 18) rfl) hr dX19_tellAdvert_19 c3 (fun y4 ey4 => ?_)
  replace h := zl_sub ey4 h
  have hy4 := zal_q hr (zal_a F hx0 (j := 18) rfl) rfl ey4
  clear ey4
  refine zr_aload F.1 F.2.1 dX19_tellAdvert_20 (lv_at hl 0 rfl) ?_
  replace h := zd_some h
  obtain ⟨a5, rfl, h⟩ := h
  refine gf19_149 F (hy2 _ rfl) hr dX19_tellAdvert_22 (fun y6 ey6 => ?_)
  replace h := zl_sub ey6 h
  have hy6 := zal_g hr (hy2 _ rfl) (j := 2) rfl ey6
  clear ey6
  replace h := zd_some h
  obtain ⟨a7, rfl, h⟩ := h
  replace h := zd_some h
  obtain ⟨a8, rfl, h⟩ := h
  replace h := zc_some h
  obtain ⟨r9, z10, hc11, h⟩ := h
  refine zr_calli (zrun_S (As := [.ref (B 12 a7), .ref (B 16 a8)]) (rest := []) zq_2459 zq_2460 zq_2461 zq_4 hdX19_stationOf (okX19_stationOf l D cy B ids hst N a7 (hy4 _ rfl) a8 (hy6 _ rfl) hr.2.2 hc11) F hr hl.1 rfl (by decide) dX19_tellAdvert_25 rfl rfl hroX19_tellAdvert_X19_stationOf ⟨Nat.zero_le _, Nat.zero_le _⟩) F hA hr (fun H locs hw12 hr => ?_)
  clear hc11
  refine lv_istore (lv' := [(5, .int r9), (4, .ref (B 18 a5)), (0, .ref (B 19 x0)), (1, .ref (B 12 x1)), (2, .ref (B 15 x2)), (3, .int x3)]) F.1 F.2.1 dX19_tellAdvert_28 hl (by decide) rfl (fun ls hl => ?_)
  refine lv_aload_n F.1 F.2.1 dX19_tellAdvert_30 rfl (lv_at hl 2 rfl) ?_
  refine lv_aload_n F.1 F.2.1 dX19_tellAdvert_31 rfl (lv_at hl 3 rfl) ?_
  refine lv_iconst (v := (3 : Int32)) F.1 F.2.1 dX19_tellAdvert_32 (by decide) ?_
  refine lv_bipush (v := (12 : Int32)) F.1 F.2.1 dX19_tellAdvert_33 (by decide) ?_
  refine lv_bipush (v := (6 : Int32)) F.1 F.2.1 dX19_tellAdvert_35 (by decide) ?_
  refine lv_aload_n F.1 F.2.1 dX19_tellAdvert_37 rfl (lv_at hl 2 rfl) ?_
  refine lv_iload_n F.1 F.2.1 dX19_tellAdvert_38 rfl (lv_at hl 5 rfl) ?_
  refine lv_iconst (v := (2 : Int32)) F.1 F.2.1 dX19_tellAdvert_39 (by decide) ?_
  replace h := zc_some h
  obtain ⟨r13, z14, hc15, h⟩ := h
  refine zr_calli (zrun_V (As := [.int x3, .int (2 : Int32)]) (rest := [.int (6 : Int32), .int (12 : Int32), .int (3 : Int32), .ref (B 12 x1), .ref (B 19 x0)]) zq_2828 zq_2830 zs_X19_ad zq_2831 zq_4 hdX19_ad (by decide) (T := TX19) (N := 32) rfl (okX19_ad l D cy B ids hst N x0 hx0 x3  (2 : Int32)  hr.2.2 hc15) F hr hx0 hl.1 rfl (Nat.le_of_ble_eq_true rfl) dX19_tellAdvert_40 rfl rfl hroX19_tellAdvert_X19_ad ⟨Nat.zero_le _, Nat.zero_le _⟩) F hA hr (fun H locs hw16 hr => ?_)
  clear hc15
  refine lv_aload_n F.1 F.2.1 dX19_tellAdvert_43 rfl (lv_at hl 2 rfl) ?_
  refine lv_iload_n F.1 F.2.1 dX19_tellAdvert_44 rfl (lv_at hl 5 rfl) ?_
  refine lv_iconst (v := (3 : Int32)) F.1 F.2.1 dX19_tellAdvert_45 (by decide) ?_
  replace h := zc_some h
  obtain ⟨r17, z18, hc19, h⟩ := h
  refine zr_calli (zrun_V (As := [.int x3, .int (3 : Int32)]) (rest := [.int r13, .int (6 : Int32), .int (12 : Int32), .int (3 : Int32), .ref (B 12 x1), .ref (B 19 x0)]) zq_2828 zq_2830 zs_X19_ad zq_2831 zq_4 hdX19_ad (by decide) (T := TX19) (N := 32) rfl (okX19_ad l D cy B ids hst N x0 hx0 x3  (3 : Int32)  hr.2.2 hc19) F hr hx0 hl.1 rfl (Nat.le_of_ble_eq_true rfl) dX19_tellAdvert_46 rfl rfl hroX19_tellAdvert_X19_ad ⟨Nat.zero_le _, Nat.zero_le _⟩) F hA hr (fun H locs hw20 hr => ?_)
  clear hc19
  refine lv_iadd F.1 F.2.1 dX19_tellAdvert_49 ?_
  refine lv_imul F.1 F.2.1 dX19_tellAdvert_50 ?_
  refine lv_iadd F.1 F.2.1 dX19_tellAdvert_51 ?_
  refine lv_aload F.1 F.2.1 dX19_tellAdvert_52 (lv_at hl 1 rfl) ?_
  replace h := zc_some h
  obtain ⟨r21, z22, hc23, h⟩ := h
  refine zr_calli (zrun_VN (As := []) (rest := [.int ((12 : Int32) + ((6 : Int32) * (r13 + r17))), .int (3 : Int32), .ref (B 12 x1), .ref (B 19 x0)]) zn_2520 zq_2522 zs_X18_address zq_2523 zq_25 hdX18_address (by decide) (T := TX18) (N := 13) rfl (okX18_address l D cy B ids hst N a5 (hy2 _ rfl) hr.2.2 hc23) F hr (hy2 _ rfl) hl.1 rfl (Nat.le_of_ble_eq_true rfl) dX19_tellAdvert_54 rfl rfl hroX19_tellAdvert_X18_address ⟨Nat.zero_le _, Nat.zero_le _⟩) F hA hr (fun H locs hw24 hr => ?_)
  clear hc23
  refine lv_aload F.1 F.2.1 dX19_tellAdvert_57 (lv_at hl 1 rfl) ?_
  refine gf19_149 F (hy2 _ rfl) hr dX19_tellAdvert_59 (fun y25 ey25 => ?_)
  replace h := zl_sub ey25 h
  have hy25 := zal_g hr (hy2 _ rfl) (j := 2) rfl ey25
  clear ey25
  replace h := zd_some h
  obtain ⟨a26, rfl, h⟩ := h
  refine gf19_295 F (hy25 _ rfl) hr dX19_tellAdvert_62 ?_
  refine lv_iload F.1 F.2.1 dX19_tellAdvert_65 (lv_at hl 0 rfl) ?_
  replace h := zk_some h
  obtain ⟨c27, h⟩ := h
  refine zr_aaldv (k := 164) (by decide) rfl rfl (zlen_d (by decide)) F (zal_a F (hy25 _ rfl) (j := 4) rfl) hr dX19_tellAdvert_67 c27 (fun y28 ey28 => ?_)
  replace h := zl_sub ey28 h
  have hy28 := zal_q hr (zal_a F (hy25 _ rfl) (j := 4) rfl) rfl ey28
  clear ey28
  replace h := zd_some h
  obtain ⟨a29, rfl, h⟩ := h
  replace h := zc_some h
  obtain ⟨r30, z31, hc32, h⟩ := h
  refine zr_calli (zrun_VN (As := []) (rest := [.int r21, .int ((12 : Int32) + ((6 : Int32) * (r13 + r17))), .int (3 : Int32), .ref (B 12 x1), .ref (B 19 x0)]) zn_2520 zq_2522 zs_X18_address zq_2523 zq_25 hdX18_address (by decide) (T := TX18) (N := 13) rfl (okX18_address l D cy B ids hst N a29 (hy28 _ rfl) hr.2.2 hc32) F hr (hy28 _ rfl) hl.1 rfl (Nat.le_of_ble_eq_true rfl) dX19_tellAdvert_68 rfl rfl hroX19_tellAdvert_X18_address ⟨Nat.zero_le _, Nat.zero_le _⟩) F hA hr (fun H locs hw33 hr => ?_)
  clear hc32
  replace h := zc_some h
  obtain ⟨r34, z35, hc36, h⟩ := h
  refine zr_calli (zrun_V (As := [.ref (B 12 x1), .int (3 : Int32), .int ((12 : Int32) + ((6 : Int32) * (r13 + r17))), .int r21, .int r30]) (rest := []) zq_2765 zq_2767 zs_X19_make zq_2768 zq_4 hdX19_make (by decide) (T := TX19) (N := 32) rfl (okX19_make l D cy B ids hst N x0 hx0 x1 hx1 (3 : Int32)  ((12 : Int32) + ((6 : Int32) * (r13 + r17)))  r21  r30  hr.2.2 hc36) F hr hx0 hl.1 rfl (by decide) dX19_tellAdvert_71 rfl rfl hroX19_tellAdvert_X19_make ⟨Nat.zero_le _, Nat.zero_le _⟩) F hA hr (fun H locs hw37 hr => ?_)
  clear hc36
  refine lv_istore (lv' := [(6, .int r34), (5, .int r9), (4, .ref (B 18 a5)), (0, .ref (B 19 x0)), (1, .ref (B 12 x1)), (2, .ref (B 15 x2)), (3, .int x3)]) F.1 F.2.1 dX19_tellAdvert_74 hl (by decide) rfl (fun ls hl => ?_)
  refine lv_aload_n F.1 F.2.1 dX19_tellAdvert_76 rfl (lv_at hl 3 rfl) ?_
  refine lv_iload F.1 F.2.1 dX19_tellAdvert_77 (lv_at hl 0 rfl) ?_
  refine lv_bipush (v := (12 : Int32)) F.1 F.2.1 dX19_tellAdvert_79 (by decide) ?_
  refine lv_aload_n F.1 F.2.1 dX19_tellAdvert_81 rfl (lv_at hl 4 rfl) ?_
  refine gf19_310 F hx1 hr dX19_tellAdvert_82 ?_
  replace h := zc_some h
  obtain ⟨r38, z39, hc40, h⟩ := h
  refine zr_callv (zrun_V (As := [.int r34, .int (12 : Int32), .int (zgI z35 12 0 x1)]) (rest := []) zq_2623 zq_2625 zs_X19_set zq_2626 zq_4 hdX19_set (by decide) (T := TX19) (N := 32) rfl (okX19_set l D cy B ids hst N x0 hx0 r34  (12 : Int32)  (zgI z35 12 0 x1)  hr.2.2 hc40) F hr hx0 hl.1 rfl (by decide) dX19_tellAdvert_85 rfl rfl hroX19_tellAdvert_X19_set ⟨Nat.zero_le _, Nat.zero_le _⟩) F hA hr (fun H locs hw41 hr => ?_)
  clear hc40
  refine lv_aload_n F.1 F.2.1 dX19_tellAdvert_88 rfl (lv_at hl 3 rfl) ?_
  refine lv_iload F.1 F.2.1 dX19_tellAdvert_89 (lv_at hl 0 rfl) ?_
  refine lv_bipush (v := (11 : Int32)) F.1 F.2.1 dX19_tellAdvert_91 (by decide) ?_
  refine lv_iload_n F.1 F.2.1 dX19_tellAdvert_93 rfl (lv_at hl 6 rfl) ?_
  replace h := zc_some h
  obtain ⟨r42, z43, hc44, h⟩ := h
  refine zr_callv (zrun_V (As := [.int r34, .int (11 : Int32), .int x3]) (rest := []) zq_2623 zq_2625 zs_X19_set zq_2626 zq_4 hdX19_set (by decide) (T := TX19) (N := 32) rfl (okX19_set l D cy B ids hst N x0 hx0 r34  (11 : Int32)  x3  hr.2.2 hc44) F hr hx0 hl.1 rfl (by decide) dX19_tellAdvert_94 rfl rfl hroX19_tellAdvert_X19_set ⟨Nat.zero_le _, Nat.zero_le _⟩) F hA hr (fun H locs hw45 hr => ?_)
  clear hc44
  refine lv_aload_n F.1 F.2.1 dX19_tellAdvert_97 rfl (lv_at hl 3 rfl) ?_
  refine gf19_25 F hx0 hr dX19_tellAdvert_98 ?_
  refine lv_iload_n F.1 F.2.1 dX19_tellAdvert_101 rfl (lv_at hl 6 rfl) ?_
  refine lv_dup2_11 F.1 F.2.1 dX19_tellAdvert_102 rfl rfl ?_
  replace h := zk_some h
  obtain ⟨c46, h⟩ := h
  refine zr_iald (k := 179) (by decide) rfl (by decide) F (zal_a F hx0 (j := 9) rfl) hr dX19_tellAdvert_103 c46 ?_
  refine lv_iconst (v := (1 : Int32)) F.1 F.2.1 dX19_tellAdvert_104 (by decide) ?_
  refine lv_iadd F.1 F.2.1 dX19_tellAdvert_105 ?_
  replace h := zk_some h
  obtain ⟨c47, h⟩ := h
  refine zr_iast (k := 179) (by decide) rfl (by decide) F (zal_a F hx0 (j := 9) rfl) hr dX19_tellAdvert_106 c47 (fun H locs z48 ez48 hr => ?_)
  replace h := zl_sub ez48 h
  clear ez48
  refine lv_aload_n F.1 F.2.1 dX19_tellAdvert_107 rfl (lv_at hl 3 rfl) ?_
  refine lv_aload F.1 F.2.1 dX19_tellAdvert_108 (lv_at hl 2 rfl) ?_
  refine lv_iload F.1 F.2.1 dX19_tellAdvert_110 (lv_at hl 1 rfl) ?_
  refine lv_iload F.1 F.2.1 dX19_tellAdvert_112 (lv_at hl 0 rfl) ?_
  replace h := zc_some h
  obtain ⟨r49, z50, hc51, h⟩ := h
  refine zr_callv (zrun_V (As := [.ref (B 18 a5), .int r9, .int r34]) (rest := []) zq_2785 zq_2787 zs_X19_deliver zq_2788 zq_4 hdX19_deliver (by decide) (T := TX19) (N := 32) rfl (okX19_deliver l D cy B ids hst N x0 hx0 a5 (hy2 _ rfl) r9  r34  hr.2.2 hc51) F hr hx0 hl.1 rfl (by decide) dX19_tellAdvert_114 rfl rfl hroX19_tellAdvert_X19_deliver ⟨Nat.zero_le _, Nat.zero_le _⟩) F hA hr (fun H locs hw52 hr => ?_)
  clear hc51
  refine lv_aload_n F.1 F.2.1 dX19_tellAdvert_117 rfl (lv_at hl 3 rfl) ?_
  refine lv_iload F.1 F.2.1 dX19_tellAdvert_118 (lv_at hl 0 rfl) ?_
  replace h := zc_some h
  obtain ⟨r53, z54, hc55, h⟩ := h
  refine zr_callv (zrun_V (As := [.int r34]) (rest := []) zq_2545 zq_2547 zs_X19_drop zq_2548 zq_4 hdX19_drop (by decide) (T := TX19) (N := 32) rfl (okX19_drop l D cy B ids hst N x0 hx0 r34  hr.2.2 hc55) F hr hx0 hl.1 rfl (by decide) dX19_tellAdvert_120 rfl rfl hroX19_tellAdvert_X19_drop ⟨Nat.zero_le _, Nat.zero_le _⟩) F hA hr (fun H locs hw56 hr => ?_)
  clear hc55
  obtain ⟨rfl, rfl⟩ := zret h
  exact E _ _ _ _ dX19_tellAdvert_123 trivial hr
end SX19_tellAdvert
set_option maxRecDepth 100000 in
theorem okX19_tellAdvert (l : Launch) (D : va_G) (cy : Nat → ClassId) (B : Nat → Nat → Nat) (ids : List (Nat × Nat)) (hst : zSt B ids) (N : Nat) (x0 : Nat) (hx0 : (19, x0) ∈ ids) (x1 : Nat) (hx1 : (12, x1) ∈ ids) (x2 : Nat) (hx2 : (15, x2) ∈ ids) (x3 : Int32) {z : St} {r : Int32} {z' : St} (hW : zWf ids z) (h : fX19_tellAdvert N x0 x1 x2 x3 z = some (r, z')) : zM l yX19_tellAdvert (zws yX19_tellAdvert cX19_tellAdvert 7 none) rmX19_tellAdvert D cy B ids [.ref (B 19 x0), .ref (B 12 x1), .ref (B 15 x2), .int x3] none True z z' :=
  zM_of hst hW (by decide +kernel) (Nat.le_of_ble_eq_true rfl) (fun p e s m args below meth c A ls F hA hret hlocks hr hl => bX19_tellAdvert_0 hst F hA (zEnd_v F hret hlocks) x0 x1 x2 x3 hx0 hx1 hx2 hr hl h)
abbrev rmX19_routerSpeaks : Room := { frames := 7, cells := 0, slots := 0, locals := 179 }
theorem hdX19_routerSpeaks : yX19_routerSpeaks.cls ≠ "java/lang/invoke/MethodHandle" ∧ yX19_routerSpeaks.cls ≠ "java/lang/invoke/VarHandle" ∧ (parseMethodDescriptor yX19_routerSpeaks.desc).map (fun d => d.parameters.length) = some 1 := by decide +kernel
theorem hroX19_routerSpeaks_X18_address : rmX18_address.frames + 1 ≤ rmX19_routerSpeaks.frames ∧ 8 + (1 + 11) + rmX18_address.locals ≤ rmX19_routerSpeaks.locals := by decide
theorem hroX19_routerSpeaks_X19_deliver : rmX19_deliver.frames + 1 ≤ rmX19_routerSpeaks.frames ∧ 8 + (6 + 11) + rmX19_deliver.locals ≤ rmX19_routerSpeaks.locals := by decide
theorem hroX19_routerSpeaks_X19_drop : rmX19_drop.frames + 1 ≤ rmX19_routerSpeaks.frames ∧ 8 + (2 + 11) + rmX19_drop.locals ≤ rmX19_routerSpeaks.locals := by decide
theorem hroX19_routerSpeaks_X19_greet : rmX19_greet.frames + 1 ≤ rmX19_routerSpeaks.frames ∧ 8 + (7 + 11) + rmX19_greet.locals ≤ rmX19_routerSpeaks.locals := by decide
theorem hroX19_routerSpeaks_X19_make : rmX19_make.frames + 1 ≤ rmX19_routerSpeaks.frames ∧ 8 + (7 + 11) + rmX19_make.locals ≤ rmX19_routerSpeaks.locals := by decide
theorem hroX19_routerSpeaks_X19_set : rmX19_set.frames + 1 ≤ rmX19_routerSpeaks.frames ∧ 8 + (4 + 11) + rmX19_set.locals ≤ rmX19_routerSpeaks.locals := by decide
theorem hroX19_routerSpeaks_X19_tellAdvert : rmX19_tellAdvert.frames + 1 ≤ rmX19_routerSpeaks.frames ∧ 8 + (7 + 11) + rmX19_tellAdvert.locals ≤ rmX19_routerSpeaks.locals := by decide
section SX19_routerSpeaks
variable {p : Program} {l : Launch} {e : Env} {s : State} {m : MethodId} {args : Array Value} {below : List Frame} {meth : Method} {c : Code} {Q : State → Prop} {D : va_G} {cy : Nat → ClassId} {B : Nat → Nat → Nat} {ids : List (Nat × Nat)} {A : Nat → Prop}
def fX19_routerSpeaks_38 (N : Nat) (K2 : Nat → Nat → Int32 → St → Option (Int32 × St)) (x0 : Nat) (x1 : Nat) (x2 : Int32) (z : St) : Option (Int32 × St) := zl (x2 + 1) fun v1 => K2 x0 x1 v1 z
set_option maxHeartbeats 4000000 in
set_option maxRecDepth 100000 in
theorem bX19_routerSpeaks_38 (hst : zSt B ids) (F : zFx p m c cX19_routerSpeaks 6 s args RX19 D cy B ids A) (hA : ∀ q : Nat, s.heap.size ≤ q → A q) {r : Int32} {z' : St} (E : zEnd p l e rmX19_routerSpeaks s m args below meth c cX19_routerSpeaks D cy B ids A Q none z' .return_ True) {N : Nat} {K2 : Nat → Nat → Int32 → St → Option (Int32 × St)} (hK2 : ∀ (x0 : Nat) (x1 : Nat) (x2 : Int32) (hx0 : (19, x0) ∈ ids) (hx1 : (12, x1) ∈ ids) {z : St} {H : Heap} {locs : List Loc} {ls : Array Slot} (hr : zRep D cy B ids A s.heap z H locs) (hl : lv_has ls 6 [(0, .ref (B 19 x0)), (1, .ref (B 12 x1)), (2, .int x2)]), K2 x0 x1 x2 z = some (r, z') → W p l e rmX19_routerSpeaks s m args below meth c H locs 0 0 Q (F0 m 2 ls [])) (x0 : Nat) (x1 : Nat) (x2 : Int32) (hx0 : (19, x0) ∈ ids) (hx1 : (12, x1) ∈ ids) {z : St} {H : Heap} {locs : List Loc} {ls : Array Slot} (hr : zRep D cy B ids A s.heap z H locs) (hl : lv_has ls 6 [(0, .ref (B 19 x0)), (1, .ref (B 12 x1)), (2, .int x2)]) (h : fX19_routerSpeaks_38 N K2 x0 x1 x2 z = some (r, z')) : W p l e rmX19_routerSpeaks s m args below meth c H locs 0 0 Q (F0 m 38 ls []) := by
  unfold fX19_routerSpeaks_38 at h
  obtain ⟨v1, ev1⟩ : ∃ y : Int32, y = (x2 + 1) := ⟨_, rfl⟩
  replace h := zl_sub ev1 h
  refine lv_iinc (v := v1) (lv' := [(2, .int v1), (0, .ref (B 19 x0)), (1, .ref (B 12 x1))]) F.1 F.2.1 dX19_routerSpeaks_38 hl (k := 2) rfl (by rw [ev1]; rfl) (by decide) rfl (fun ls hl => ?_)
  refine lv_goto (tgt := 2) F.1 F.2.1 dX19_routerSpeaks_41 (by decide) ?_
  exact hK2 x0 x1 v1 hx0 hx1 hr (lv_sub hl [1, 2, 0] rfl) h
def fX19_routerSpeaks_255 (N : Nat) (K155 : Nat → Nat → Int32 → St → Option (Int32 × St)) (K174 : Nat → Nat → Int32 → Option Nat → Int32 → St → Option (Int32 × St)) (x0 : Nat) (x1 : Nat) (x3 : Int32) (x4 : Nat) (x5 : Int32) (z : St) : Option (Int32 × St) := zl (x5 + 1) fun v1 => K174 x0 x1 x3 (some x4) v1 z
set_option maxHeartbeats 4000000 in
set_option maxRecDepth 100000 in
theorem bX19_routerSpeaks_255 (hst : zSt B ids) (F : zFx p m c cX19_routerSpeaks 6 s args RX19 D cy B ids A) (hA : ∀ q : Nat, s.heap.size ≤ q → A q) {r : Int32} {z' : St} (E : zEnd p l e rmX19_routerSpeaks s m args below meth c cX19_routerSpeaks D cy B ids A Q none z' .return_ True) {N : Nat} {K155 : Nat → Nat → Int32 → St → Option (Int32 × St)} {K174 : Nat → Nat → Int32 → Option Nat → Int32 → St → Option (Int32 × St)} (hK155 : ∀ (x0 : Nat) (x1 : Nat) (x3 : Int32) (hx0 : (19, x0) ∈ ids) (hx1 : (12, x1) ∈ ids) {z : St} {H : Heap} {locs : List Loc} {ls : Array Slot} (hr : zRep D cy B ids A s.heap z H locs) (hl : lv_has ls 6 [(0, .ref (B 19 x0)), (1, .ref (B 12 x1)), (3, .int x3)]), K155 x0 x1 x3 z = some (r, z') → W p l e rmX19_routerSpeaks s m args below meth c H locs 0 0 Q (F0 m 155 ls [])) (hK174 : ∀ (x0 : Nat) (x1 : Nat) (x3 : Int32) (x4 : Option Nat) (x5 : Int32) (hx0 : (19, x0) ∈ ids) (hx1 : (12, x1) ∈ ids) (hx4 : ∀ t, x4 = some t → (15, t) ∈ ids) {z : St} {H : Heap} {locs : List Loc} {ls : Array Slot} (hr : zRep D cy B ids A s.heap z H locs) (hl : lv_has ls 6 [(0, .ref (B 19 x0)), (1, .ref (B 12 x1)), (3, .int x3), (4, va_rf (Option.map (B 15) x4)), (5, .int x5)]), K174 x0 x1 x3 x4 x5 z = some (r, z') → W p l e rmX19_routerSpeaks s m args below meth c H locs 0 0 Q (F0 m 174 ls [])) (x0 : Nat) (x1 : Nat) (x3 : Int32) (x4 : Nat) (x5 : Int32) (hx0 : (19, x0) ∈ ids) (hx1 : (12, x1) ∈ ids) (hx4 : (15, x4) ∈ ids) {z : St} {H : Heap} {locs : List Loc} {ls : Array Slot} (hr : zRep D cy B ids A s.heap z H locs) (hl : lv_has ls 6 [(0, .ref (B 19 x0)), (1, .ref (B 12 x1)), (3, .int x3), (4, .ref (B 15 x4)), (5, .int x5)]) (h : fX19_routerSpeaks_255 N K155 K174 x0 x1 x3 x4 x5 z = some (r, z')) : W p l e rmX19_routerSpeaks s m args below meth c H locs 0 0 Q (F0 m 255 ls []) := by
  unfold fX19_routerSpeaks_255 at h
  obtain ⟨v1, ev1⟩ : ∃ y : Int32, y = (x5 + 1) := ⟨_, rfl⟩
  replace h := zl_sub ev1 h
  refine lv_iinc (v := v1) (lv' := [(5, .int v1), (0, .ref (B 19 x0)), (1, .ref (B 12 x1)), (3, .int x3), (4, .ref (B 15 x4))]) F.1 F.2.1 dX19_routerSpeaks_255 hl (k := 4) rfl (by rw [ev1]; rfl) (by decide) rfl (fun ls hl => ?_)
  refine lv_goto (tgt := 174) F.1 F.2.1 dX19_routerSpeaks_258 (by decide) ?_
  exact hK174 x0 x1 x3 (some x4) v1 hx0 hx1 (zal_s hx4) hr (lv_sub hl [1, 2, 3, 4, 0] rfl) h
def fX19_routerSpeaks_261 (N : Nat) (K155 : Nat → Nat → Int32 → St → Option (Int32 × St)) (x0 : Nat) (x1 : Nat) (x3 : Int32) (z : St) : Option (Int32 × St) := zl (x3 + 1) fun v1 => K155 x0 x1 v1 z
set_option maxHeartbeats 4000000 in
set_option maxRecDepth 100000 in
theorem bX19_routerSpeaks_261 (hst : zSt B ids) (F : zFx p m c cX19_routerSpeaks 6 s args RX19 D cy B ids A) (hA : ∀ q : Nat, s.heap.size ≤ q → A q) {r : Int32} {z' : St} (E : zEnd p l e rmX19_routerSpeaks s m args below meth c cX19_routerSpeaks D cy B ids A Q none z' .return_ True) {N : Nat} {K155 : Nat → Nat → Int32 → St → Option (Int32 × St)} (hK155 : ∀ (x0 : Nat) (x1 : Nat) (x3 : Int32) (hx0 : (19, x0) ∈ ids) (hx1 : (12, x1) ∈ ids) {z : St} {H : Heap} {locs : List Loc} {ls : Array Slot} (hr : zRep D cy B ids A s.heap z H locs) (hl : lv_has ls 6 [(0, .ref (B 19 x0)), (1, .ref (B 12 x1)), (3, .int x3)]), K155 x0 x1 x3 z = some (r, z') → W p l e rmX19_routerSpeaks s m args below meth c H locs 0 0 Q (F0 m 155 ls [])) (x0 : Nat) (x1 : Nat) (x3 : Int32) (hx0 : (19, x0) ∈ ids) (hx1 : (12, x1) ∈ ids) {z : St} {H : Heap} {locs : List Loc} {ls : Array Slot} (hr : zRep D cy B ids A s.heap z H locs) (hl : lv_has ls 6 [(0, .ref (B 19 x0)), (1, .ref (B 12 x1)), (3, .int x3)]) (h : fX19_routerSpeaks_261 N K155 x0 x1 x3 z = some (r, z')) : W p l e rmX19_routerSpeaks s m args below meth c H locs 0 0 Q (F0 m 261 ls []) := by
  unfold fX19_routerSpeaks_261 at h
  obtain ⟨v1, ev1⟩ : ∃ y : Int32, y = (x3 + 1) := ⟨_, rfl⟩
  replace h := zl_sub ev1 h
  refine lv_iinc (v := v1) (lv' := [(3, .int v1), (0, .ref (B 19 x0)), (1, .ref (B 12 x1))]) F.1 F.2.1 dX19_routerSpeaks_261 hl (k := 2) rfl (by rw [ev1]; rfl) (by decide) rfl (fun ls hl => ?_)
  refine lv_goto (tgt := 155) F.1 F.2.1 dX19_routerSpeaks_264 (by decide) ?_
  exact hK155 x0 x1 v1 hx0 hx1 hr (lv_sub hl [1, 2, 0] rfl) h
def fX19_routerSpeaks_174b (N : Nat) (K155 : Nat → Nat → Int32 → St → Option (Int32 × St)) (K174 : Nat → Nat → Int32 → Option Nat → Int32 → St → Option (Int32 × St)) (x0 : Nat) (x1 : Nat) (x3 : Int32) (x4 : Option Nat) (x5 : Int32) (z : St) : Option (Int32 × St) := zd x4 fun a1 => if (zgI z 15 3 a1) = 0 then (fX19_routerSpeaks_261 N K155 x0 x1 x3 z) else (if (16 : Int32) ≤ x5 then (fX19_routerSpeaks_261 N K155 x0 x1 x3 z) else (zk x5 16 <| if (zgA z 162 a1 (Int32.toNatClampNeg x5)) = 0 then (fX19_routerSpeaks_255 N K155 K174 x0 x1 x3 a1 x5 z) else (zk x5 16 <| if (zgA z 150 x1 (Int32.toNatClampNeg x5)) = (-1 : Int32) then (fX19_routerSpeaks_255 N K155 K174 x0 x1 x3 a1 x5 z) else (zk x5 16 <| if (zgI z 19 24 x0) < (zgA z 163 a1 (Int32.toNatClampNeg x5)) then (fX19_routerSpeaks_255 N K155 K174 x0 x1 x3 a1 x5 z) else (zk x5 16 <| zl (zsA z 163 a1 (Int32.toNatClampNeg x5) ((zgI z 19 24 x0) + (15 : Int32))) fun z11 => zk x5 16 <| zc (fX19_tellAdvert N x0 x1 a1 (zgA z11 150 x1 (Int32.toNatClampNeg x5)) z11) fun _ z14 => fX19_routerSpeaks_255 N K155 K174 x0 x1 x3 a1 x5 z14)))))
def fX19_routerSpeaks_174 (N : Nat) (K155 : Nat → Nat → Int32 → St → Option (Int32 × St)) : Nat → Nat → Nat → Int32 → Option Nat → Int32 → St → Option (Int32 × St)
  | 0 => fun _ _ _ _ _ _ => none
  | n + 1 => fX19_routerSpeaks_174b N K155 (fX19_routerSpeaks_174 N K155 n)
set_option maxHeartbeats 4000000 in
set_option maxRecDepth 100000 in
theorem bX19_routerSpeaks_174 (hst : zSt B ids) (F : zFx p m c cX19_routerSpeaks 6 s args RX19 D cy B ids A) (hA : ∀ q : Nat, s.heap.size ≤ q → A q) {r : Int32} {z' : St} (E : zEnd p l e rmX19_routerSpeaks s m args below meth c cX19_routerSpeaks D cy B ids A Q none z' .return_ True) {N : Nat} {K155 : Nat → Nat → Int32 → St → Option (Int32 × St)} {K174 : Nat → Nat → Int32 → Option Nat → Int32 → St → Option (Int32 × St)} (hK155 : ∀ (x0 : Nat) (x1 : Nat) (x3 : Int32) (hx0 : (19, x0) ∈ ids) (hx1 : (12, x1) ∈ ids) {z : St} {H : Heap} {locs : List Loc} {ls : Array Slot} (hr : zRep D cy B ids A s.heap z H locs) (hl : lv_has ls 6 [(0, .ref (B 19 x0)), (1, .ref (B 12 x1)), (3, .int x3)]), K155 x0 x1 x3 z = some (r, z') → W p l e rmX19_routerSpeaks s m args below meth c H locs 0 0 Q (F0 m 155 ls [])) (hK174 : ∀ (x0 : Nat) (x1 : Nat) (x3 : Int32) (x4 : Option Nat) (x5 : Int32) (hx0 : (19, x0) ∈ ids) (hx1 : (12, x1) ∈ ids) (hx4 : ∀ t, x4 = some t → (15, t) ∈ ids) {z : St} {H : Heap} {locs : List Loc} {ls : Array Slot} (hr : zRep D cy B ids A s.heap z H locs) (hl : lv_has ls 6 [(0, .ref (B 19 x0)), (1, .ref (B 12 x1)), (3, .int x3), (4, va_rf (Option.map (B 15) x4)), (5, .int x5)]), K174 x0 x1 x3 x4 x5 z = some (r, z') → W p l e rmX19_routerSpeaks s m args below meth c H locs 0 0 Q (F0 m 174 ls [])) (x0 : Nat) (x1 : Nat) (x3 : Int32) (x4 : Option Nat) (x5 : Int32) (hx0 : (19, x0) ∈ ids) (hx1 : (12, x1) ∈ ids) (hx4 : ∀ t, x4 = some t → (15, t) ∈ ids) {z : St} {H : Heap} {locs : List Loc} {ls : Array Slot} (hr : zRep D cy B ids A s.heap z H locs) (hl : lv_has ls 6 [(0, .ref (B 19 x0)), (1, .ref (B 12 x1)), (3, .int x3), (4, va_rf (Option.map (B 15) x4)), (5, .int x5)]) (h : fX19_routerSpeaks_174b N K155 K174 x0 x1 x3 x4 x5 z = some (r, z')) : W p l e rmX19_routerSpeaks s m args below meth c H locs 0 0 Q (F0 m 174 ls []) := by
  unfold fX19_routerSpeaks_174b at h
  refine zr_aload F.1 F.2.1 dX19_routerSpeaks_174 (lv_at hl 3 rfl) ?_
  replace h := zd_some h
  obtain ⟨a1, rfl, h⟩ := h
  refine gf19_473 F (hx4 _ rfl) hr dX19_routerSpeaks_176 ?_
  refine lv_if_eq (tgt := 261) F.1 F.2.1 dX19_routerSpeaks_179 (by decide) (fun c2 => ?_) (fun c2 => ?_)
  · replace h := zi_t c2 h
    exact bX19_routerSpeaks_261 hst F hA E hK155 x0 x1 x3 hx0 hx1 hr (lv_sub hl [0, 1, 2] rfl) h
  · replace h := zi_f c2 h
    refine lv_iload F.1 F.2.1 dX19_routerSpeaks_182 (lv_at hl 4 rfl) ?_
    refine lv_bipush (v := (16 : Int32)) F.1 F.2.1 dX19_routerSpeaks_184 (by decide) ?_
    refine lv_icmp_ge (tgt := 261) F.1 F.2.1 dX19_routerSpeaks_186 (by decide) (fun c3 => ?_) (fun c3 => ?_)
    · replace h := zi_t c3 h
      exact bX19_routerSpeaks_261 hst F hA E hK155 x0 x1 x3 hx0 hx1 hr (lv_sub hl [0, 1, 2] rfl) h
    · replace h := zi_f c3 h
      refine lv_aload F.1 F.2.1 dX19_routerSpeaks_189 (lv_at hl 3 rfl) ?_
      refine gf19_452 F (hx4 _ rfl) hr dX19_routerSpeaks_191 ?_
      refine lv_iload F.1 F.2.1 dX19_routerSpeaks_194 (lv_at hl 4 rfl) ?_
      replace h := zk_some h
      obtain ⟨c4, h⟩ := h
      refine zr_zald (k := 162) (by decide) rfl (by decide) F (zal_a F (hx4 _ rfl) (j := 4) rfl) hr dX19_routerSpeaks_196 c4 ?_
      refine lv_if_eq (tgt := 255) F.1 F.2.1 dX19_routerSpeaks_197 (by decide) (fun c5 => ?_) (fun c5 => ?_)
      · replace h := zi_t c5 h
        exact bX19_routerSpeaks_255 hst F hA E hK155 hK174 x0 x1 x3 a1 x5 hx0 hx1 (hx4 _ rfl) hr (lv_sub hl [0, 1, 2, 3, 4] rfl) h
      · replace h := zi_f c5 h
        refine lv_aload_n F.1 F.2.1 dX19_routerSpeaks_200 rfl (lv_at hl 1 rfl) ?_
        refine gf19_448 F hx1 hr dX19_routerSpeaks_201 ?_
        refine lv_iload F.1 F.2.1 dX19_routerSpeaks_204 (lv_at hl 4 rfl) ?_
        replace h := zk_some h
        obtain ⟨c6, h⟩ := h
        refine zr_iald (k := 150) (by decide) rfl (by decide) F (zal_a F hx1 (j := 14) rfl) hr dX19_routerSpeaks_206 c6 ?_
        refine lv_iconst (v := (-1 : Int32)) F.1 F.2.1 dX19_routerSpeaks_207 (by decide) ?_
        refine lv_icmp_eq (tgt := 255) F.1 F.2.1 dX19_routerSpeaks_208 (by decide) (fun c7 => ?_) (fun c7 => ?_)
        · replace h := zi_t c7 h
          exact bX19_routerSpeaks_255 hst F hA E hK155 hK174 x0 x1 x3 a1 x5 hx0 hx1 (hx4 _ rfl) hr (lv_sub hl [0, 1, 2, 3, 4] rfl) h
        · replace h := zi_f c7 h
          refine lv_aload_n F.1 F.2.1 dX19_routerSpeaks_211 rfl (lv_at hl 0 rfl) ?_
          refine gf19_143 F hx0 hr dX19_routerSpeaks_212 ?_
          refine lv_aload F.1 F.2.1 dX19_routerSpeaks_215 (lv_at hl 3 rfl) ?_
          refine gf19_476 F (hx4 _ rfl) hr dX19_routerSpeaks_217 ?_
          refine lv_iload F.1 F.2.1 dX19_routerSpeaks_220 (lv_at hl 4 rfl) ?_
          replace h := zk_some h
          obtain ⟨c8, h⟩ := h
          refine zr_iald (k := 163) (by decide) rfl (by decide) F (zal_a F (hx4 _ rfl) (j := 5) rfl) hr dX19_routerSpeaks_222 c8 ?_
          refine lv_icmp_lt (tgt := 255) F.1 F.2.1 dX19_routerSpeaks_223 (by decide) (fun c9 => ?_) (fun c9 => ?_)
          · replace h := zi_t c9 h
            exact bX19_routerSpeaks_255 hst F hA E hK155 hK174 x0 x1 x3 a1 x5 hx0 hx1 (hx4 _ rfl) hr (lv_sub hl [0, 1, 2, 3, 4] rfl) h
          · replace h := zi_f c9 h
            refine lv_aload F.1 F.2.1 dX19_routerSpeaks_226 (lv_at hl 3 rfl) ?_
            refine gf19_476 F (hx4 _ rfl) hr dX19_routerSpeaks_228 ?_
            refine lv_iload F.1 F.2.1 dX19_routerSpeaks_231 (lv_at hl 4 rfl) ?_
            refine lv_aload_n F.1 F.2.1 dX19_routerSpeaks_233 rfl (lv_at hl 0 rfl) ?_
            refine gf19_143 F hx0 hr dX19_routerSpeaks_234 ?_
            refine lv_bipush (v := (15 : Int32)) F.1 F.2.1 dX19_routerSpeaks_237 (by decide) ?_
            refine lv_iadd F.1 F.2.1 dX19_routerSpeaks_239 ?_
            replace h := zk_some h
            obtain ⟨c10, h⟩ := h
            refine zr_iast (k := 163) (by decide) rfl (by decide) F (zal_a F (hx4 _ rfl) (j := 5) rfl) hr dX19_routerSpeaks_240 c10 (fun H locs z11 ez11 hr => ?_)
            replace h := zl_sub ez11 h
            clear ez11
            refine lv_aload_n F.1 F.2.1 dX19_routerSpeaks_241 rfl (lv_at hl 0 rfl) ?_
            refine lv_aload_n F.1 F.2.1 dX19_routerSpeaks_242 rfl (lv_at hl 1 rfl) ?_
            refine lv_aload F.1 F.2.1 dX19_routerSpeaks_243 (lv_at hl 3 rfl) ?_
            refine lv_aload_n F.1 F.2.1 dX19_routerSpeaks_245 rfl (lv_at hl 1 rfl) ?_
            refine gf19_448 F hx1 hr dX19_routerSpeaks_246 ?_
            refine lv_iload F.1 F.2.1 dX19_routerSpeaks_249 (lv_at hl 4 rfl) ?_
            replace h := zk_some h
            obtain ⟨c12, h⟩ := h
            refine zr_iald (k := 150) (by decide) rfl (by decide) F (zal_a F hx1 (j := 14) rfl) hr dX19_routerSpeaks_251 c12 ?_
            replace h := zc_some h
            obtain ⟨r13, z14, hc15, h⟩ := h
            refine zr_callv (zrun_V (As := [.ref (B 12 x1), .ref (B 15 a1), .int (zgA z11 150 x1 (Int32.toNatClampNeg x5))]) (rest := []) zq_2891 zq_2893 zs_X19_tellAdvert zq_2894 zq_4 hdX19_tellAdvert (by decide) (T := TX19) (N := 32) rfl (okX19_tellAdvert l D cy B ids hst N x0 hx0 x1 hx1 a1 (hx4 _ rfl) (zgA z11 150 x1 (Int32.toNatClampNeg x5))  hr.2.2 hc15) F hr hx0 hl.1 rfl (by decide) dX19_routerSpeaks_252 rfl rfl hroX19_routerSpeaks_X19_tellAdvert ⟨Nat.zero_le _, Nat.zero_le _⟩) F hA hr (fun H locs hw16 hr => ?_)
            clear hc15
            exact bX19_routerSpeaks_255 hst F hA E hK155 hK174 x0 x1 x3 a1 x5 hx0 hx1 (hx4 _ rfl) hr (lv_sub hl [0, 1, 2, 3, 4] rfl) h
theorem lX19_routerSpeaks_174 (hst : zSt B ids) (F : zFx p m c cX19_routerSpeaks 6 s args RX19 D cy B ids A) (hA : ∀ q : Nat, s.heap.size ≤ q → A q) {r : Int32} {z' : St} (E : zEnd p l e rmX19_routerSpeaks s m args below meth c cX19_routerSpeaks D cy B ids A Q none z' .return_ True) {N : Nat} {K155 : Nat → Nat → Int32 → St → Option (Int32 × St)} (hK155 : ∀ (x0 : Nat) (x1 : Nat) (x3 : Int32) (hx0 : (19, x0) ∈ ids) (hx1 : (12, x1) ∈ ids) {z : St} {H : Heap} {locs : List Loc} {ls : Array Slot} (hr : zRep D cy B ids A s.heap z H locs) (hl : lv_has ls 6 [(0, .ref (B 19 x0)), (1, .ref (B 12 x1)), (3, .int x3)]), K155 x0 x1 x3 z = some (r, z') → W p l e rmX19_routerSpeaks s m args below meth c H locs 0 0 Q (F0 m 155 ls [])) : ∀ (n : Nat) (x0 : Nat) (x1 : Nat) (x3 : Int32) (x4 : Option Nat) (x5 : Int32) (hx0 : (19, x0) ∈ ids) (hx1 : (12, x1) ∈ ids) (hx4 : ∀ t, x4 = some t → (15, t) ∈ ids) {z : St} {H : Heap} {locs : List Loc} {ls : Array Slot} (hr : zRep D cy B ids A s.heap z H locs) (hl : lv_has ls 6 [(0, .ref (B 19 x0)), (1, .ref (B 12 x1)), (3, .int x3), (4, va_rf (Option.map (B 15) x4)), (5, .int x5)]), fX19_routerSpeaks_174 N K155 n x0 x1 x3 x4 x5 z = some (r, z') → W p l e rmX19_routerSpeaks s m args below meth c H locs 0 0 Q (F0 m 174 ls []) := by
  intro n
  induction n with
  | zero => intro x0 x1 x3 x4 x5 hx0 hx1 hx4 z H locs ls hr hl h; cases h
  | succ n ih => intro x0 x1 x3 x4 x5 hx0 hx1 hx4 z H locs ls hr hl h; exact bX19_routerSpeaks_174 hst F hA E hK155 ih x0 x1 x3 x4 x5 hx0 hx1 hx4 hr hl h
def fX19_routerSpeaks_155b (N : Nat) (K155 : Nat → Nat → Int32 → St → Option (Int32 × St)) (x0 : Nat) (x1 : Nat) (x3 : Int32) (z : St) : Option (Int32 × St) := if (zgI z 12 13 x1) ≤ x3 then (some (0, z)) else (zk x3 16 <| zl (zgQ z 149 x1 (Int32.toNatClampNeg x3)) fun y3 => fX19_routerSpeaks_174 N K155 N x0 x1 x3 y3 (0 : Int32) z)
def fX19_routerSpeaks_155 (N : Nat)  : Nat → Nat → Nat → Int32 → St → Option (Int32 × St)
  | 0 => fun _ _ _ _ => none
  | n + 1 => fX19_routerSpeaks_155b N (fX19_routerSpeaks_155 N  n)
set_option maxHeartbeats 4000000 in
set_option maxRecDepth 100000 in
theorem bX19_routerSpeaks_155 (hst : zSt B ids) (F : zFx p m c cX19_routerSpeaks 6 s args RX19 D cy B ids A) (hA : ∀ q : Nat, s.heap.size ≤ q → A q) {r : Int32} {z' : St} (E : zEnd p l e rmX19_routerSpeaks s m args below meth c cX19_routerSpeaks D cy B ids A Q none z' .return_ True) {N : Nat} {K155 : Nat → Nat → Int32 → St → Option (Int32 × St)} (hK155 : ∀ (x0 : Nat) (x1 : Nat) (x3 : Int32) (hx0 : (19, x0) ∈ ids) (hx1 : (12, x1) ∈ ids) {z : St} {H : Heap} {locs : List Loc} {ls : Array Slot} (hr : zRep D cy B ids A s.heap z H locs) (hl : lv_has ls 6 [(0, .ref (B 19 x0)), (1, .ref (B 12 x1)), (3, .int x3)]), K155 x0 x1 x3 z = some (r, z') → W p l e rmX19_routerSpeaks s m args below meth c H locs 0 0 Q (F0 m 155 ls [])) (x0 : Nat) (x1 : Nat) (x3 : Int32) (hx0 : (19, x0) ∈ ids) (hx1 : (12, x1) ∈ ids) {z : St} {H : Heap} {locs : List Loc} {ls : Array Slot} (hr : zRep D cy B ids A s.heap z H locs) (hl : lv_has ls 6 [(0, .ref (B 19 x0)), (1, .ref (B 12 x1)), (3, .int x3)]) (h : fX19_routerSpeaks_155b N K155 x0 x1 x3 z = some (r, z')) : W p l e rmX19_routerSpeaks s m args below meth c H locs 0 0 Q (F0 m 155 ls []) := by
  unfold fX19_routerSpeaks_155b at h
  refine lv_iload_n F.1 F.2.1 dX19_routerSpeaks_155 rfl (lv_at hl 2 rfl) ?_
  refine lv_aload_n F.1 F.2.1 dX19_routerSpeaks_156 rfl (lv_at hl 1 rfl) ?_
  refine gf19_457 F hx1 hr dX19_routerSpeaks_157 ?_
  refine lv_icmp_ge (tgt := 267) F.1 F.2.1 dX19_routerSpeaks_160 (by decide) (fun c1 => ?_) (fun c1 => ?_)
  · replace h := zi_t c1 h
    obtain ⟨rfl, rfl⟩ := zret h
    exact E _ _ _ _ dX19_routerSpeaks_267 trivial hr
  · replace h := zi_f c1 h
    refine lv_aload_n F.1 F.2.1 dX19_routerSpeaks_163 rfl (lv_at hl 1 rfl) ?_
    refine gf19_460 F hx1 hr dX19_routerSpeaks_164 ?_
    refine lv_iload_n F.1 F.2.1 dX19_routerSpeaks_167 rfl (lv_at hl 2 rfl) ?_
    replace h := zk_some h
    obtain ⟨c2, h⟩ := h
    refine zr_aaldv (k := 149) (by decide) rfl rfl (zlen_d (by decide)) F (zal_a F hx1 (j := 12) rfl) hr dX19_routerSpeaks_168 c2 (fun y3 ey3 => ?_)
    replace h := zl_sub ey3 h
    have hy3 := zal_q hr (zal_a F hx1 (j := 12) rfl) rfl ey3
    clear ey3
    refine zr_astore (lv' := [(4, va_rf (Option.map (B 15) y3)), (0, .ref (B 19 x0)), (1, .ref (B 12 x1)), (3, .int x3)]) F.1 F.2.1 dX19_routerSpeaks_169 hl (by decide) rfl (fun ls hl => ?_)
    refine lv_iconst (v := (0 : Int32)) F.1 F.2.1 dX19_routerSpeaks_171 (by decide) ?_
    refine lv_istore (lv' := [(5, .int (0 : Int32)), (4, va_rf (Option.map (B 15) y3)), (0, .ref (B 19 x0)), (1, .ref (B 12 x1)), (3, .int x3)]) F.1 F.2.1 dX19_routerSpeaks_172 hl (by decide) (by simp only [List.filter, zrf_cat]; rfl) (fun ls hl => ?_)
    exact lX19_routerSpeaks_174 hst F hA E hK155 _ x0 x1 x3 y3 (0 : Int32) hx0 hx1 hy3 hr (lv_sub hl [2, 3, 4, 1, 0] rfl) h
theorem lX19_routerSpeaks_155 (hst : zSt B ids) (F : zFx p m c cX19_routerSpeaks 6 s args RX19 D cy B ids A) (hA : ∀ q : Nat, s.heap.size ≤ q → A q) {r : Int32} {z' : St} (E : zEnd p l e rmX19_routerSpeaks s m args below meth c cX19_routerSpeaks D cy B ids A Q none z' .return_ True) {N : Nat}  : ∀ (n : Nat) (x0 : Nat) (x1 : Nat) (x3 : Int32) (hx0 : (19, x0) ∈ ids) (hx1 : (12, x1) ∈ ids) {z : St} {H : Heap} {locs : List Loc} {ls : Array Slot} (hr : zRep D cy B ids A s.heap z H locs) (hl : lv_has ls 6 [(0, .ref (B 19 x0)), (1, .ref (B 12 x1)), (3, .int x3)]), fX19_routerSpeaks_155 N  n x0 x1 x3 z = some (r, z') → W p l e rmX19_routerSpeaks s m args below meth c H locs 0 0 Q (F0 m 155 ls []) := by
  intro n
  induction n with
  | zero => intro x0 x1 x3 hx0 hx1 z H locs ls hr hl h; cases h
  | succ n ih => intro x0 x1 x3 hx0 hx1 z H locs ls hr hl h; exact bX19_routerSpeaks_155 hst F hA E ih x0 x1 x3 hx0 hx1 hr hl h
def fX19_routerSpeaks_51b (N : Nat) (K51 : Nat → Nat → Int32 → Int32 → St → Option (Int32 × St)) (x0 : Nat) (x1 : Nat) (x2 : Int32) (x3 : Int32) (z : St) : Option (Int32 × St) := if x2 ≤ x3 then (zl (zsI z 12 22 x1 (0 : Int32)) fun z2 => fX19_routerSpeaks_155 N N x0 x1 (0 : Int32) z2) else (zk x3 64 <| zk (zgA z 152 x1 (Int32.toNatClampNeg x3)) 6 <| zl (zgQ z 147 x1 (Int32.toNatClampNeg (zgA z 152 x1 (Int32.toNatClampNeg x3)))) fun y5 => zd y5 fun a6 => zc (fX18_address N a6 z) fun r7 z8 => zk x3 64 <| zc (fX19_make N x0 x1 (4 : Int32) (8 : Int32) r7 (zgA z8 153 x1 (Int32.toNatClampNeg x3)) z8) fun r12 z13 => zc (fX19_set N x0 r12 (12 : Int32) (zgI z13 12 0 x1) z13) fun _ z17 => zk x3 64 <| zc (fX19_set N x0 r12 (13 : Int32) (zgA z17 154 x1 (Int32.toNatClampNeg x3)) z17) fun _ z22 => zk x3 64 <| zc (fX19_deliver N x0 a6 (((zgA z22 153 x1 (Int32.toNatClampNeg x3)) &&& (65535 : Int32)) - (1 : Int32)) r12 z22) fun _ z27 => zc (fX19_drop N x0 r12 z27) fun _ z31 => zl (x3 + 1) fun v34 => K51 x0 x1 x2 v34 z31)
def fX19_routerSpeaks_51 (N : Nat)  : Nat → Nat → Nat → Int32 → Int32 → St → Option (Int32 × St)
  | 0 => fun _ _ _ _ _ => none
  | n + 1 => fX19_routerSpeaks_51b N (fX19_routerSpeaks_51 N  n)
set_option maxHeartbeats 4000000 in
set_option maxRecDepth 100000 in
theorem bX19_routerSpeaks_51 (hst : zSt B ids) (F : zFx p m c cX19_routerSpeaks 6 s args RX19 D cy B ids A) (hA : ∀ q : Nat, s.heap.size ≤ q → A q) {r : Int32} {z' : St} (E : zEnd p l e rmX19_routerSpeaks s m args below meth c cX19_routerSpeaks D cy B ids A Q none z' .return_ True) {N : Nat} {K51 : Nat → Nat → Int32 → Int32 → St → Option (Int32 × St)} (hK51 : ∀ (x0 : Nat) (x1 : Nat) (x2 : Int32) (x3 : Int32) (hx0 : (19, x0) ∈ ids) (hx1 : (12, x1) ∈ ids) {z : St} {H : Heap} {locs : List Loc} {ls : Array Slot} (hr : zRep D cy B ids A s.heap z H locs) (hl : lv_has ls 6 [(0, .ref (B 19 x0)), (1, .ref (B 12 x1)), (2, .int x2), (3, .int x3)]), K51 x0 x1 x2 x3 z = some (r, z') → W p l e rmX19_routerSpeaks s m args below meth c H locs 0 0 Q (F0 m 51 ls [])) (x0 : Nat) (x1 : Nat) (x2 : Int32) (x3 : Int32) (hx0 : (19, x0) ∈ ids) (hx1 : (12, x1) ∈ ids) {z : St} {H : Heap} {locs : List Loc} {ls : Array Slot} (hr : zRep D cy B ids A s.heap z H locs) (hl : lv_has ls 6 [(0, .ref (B 19 x0)), (1, .ref (B 12 x1)), (2, .int x2), (3, .int x3)]) (h : fX19_routerSpeaks_51b N K51 x0 x1 x2 x3 z = some (r, z')) : W p l e rmX19_routerSpeaks s m args below meth c H locs 0 0 Q (F0 m 51 ls []) := by
  unfold fX19_routerSpeaks_51b at h
  refine lv_iload_n F.1 F.2.1 dX19_routerSpeaks_51 rfl (lv_at hl 3 rfl) ?_
  refine lv_iload_n F.1 F.2.1 dX19_routerSpeaks_52 rfl (lv_at hl 2 rfl) ?_
  refine lv_icmp_ge (tgt := 148) F.1 F.2.1 dX19_routerSpeaks_53 (by decide) (fun c1 => ?_) (fun c1 => ?_)
  · replace h := zi_t c1 h
    refine lv_aload_n F.1 F.2.1 dX19_routerSpeaks_148 rfl (lv_at hl 1 rfl) ?_
    refine lv_iconst (v := (0 : Int32)) F.1 F.2.1 dX19_routerSpeaks_149 (by decide) ?_
    refine pf19_492 F hx1 hr dX19_routerSpeaks_150 (0 : Int32) (fun H locs z2 ez2 hr => ?_)
    replace h := zl_sub ez2 h
    clear ez2
    refine lv_iconst (v := (0 : Int32)) F.1 F.2.1 dX19_routerSpeaks_153 (by decide) ?_
    refine lv_istore_n (lv' := [(3, .int (0 : Int32)), (0, .ref (B 19 x0)), (1, .ref (B 12 x1)), (2, .int x2)]) F.1 F.2.1 dX19_routerSpeaks_154 rfl hl (by decide) rfl (fun ls hl => ?_)
    exact lX19_routerSpeaks_155 hst F hA E  _ x0 x1 (0 : Int32) hx0 hx1 hr (lv_sub hl [1, 2, 0] rfl) h
  · replace h := zi_f c1 h
    refine lv_aload_n F.1 F.2.1 dX19_routerSpeaks_56 rfl (lv_at hl 1 rfl) ?_
    refine gf19_276 F hx1 hr dX19_routerSpeaks_57 ?_
    refine lv_aload_n F.1 F.2.1 dX19_routerSpeaks_60 rfl (lv_at hl 1 rfl) ?_
    refine gf19_495 F hx1 hr dX19_routerSpeaks_61 ?_
    refine lv_iload_n F.1 F.2.1 dX19_routerSpeaks_64 rfl (lv_at hl 3 rfl) ?_
    replace h := zk_some h
    obtain ⟨c3, h⟩ := h
    refine zr_iald (k := 152) (by decide) rfl (by decide) F (zal_a F hx1 (j := 19) rfl) hr dX19_routerSpeaks_65 c3 ?_
    replace h := zk_some h
    obtain ⟨c4, h⟩ := h
    refine zr_aaldv (k := 147) (by decide) rfl rfl (zlen_d (by decide)) F (zal_a F hx1 (j := 2) rfl) hr dX19_routerSpeaks_66 c4 (fun y5 ey5 => ?_)
    replace h := zl_sub ey5 h
    have hy5 := zal_q hr (zal_a F hx1 (j := 2) rfl) rfl ey5
    clear ey5
    refine zr_astore (lv' := [(4, va_rf (Option.map (B 18) y5)), (0, .ref (B 19 x0)), (1, .ref (B 12 x1)), (2, .int x2), (3, .int x3)]) F.1 F.2.1 dX19_routerSpeaks_67 hl (by decide) rfl (fun ls hl => ?_)
    refine lv_aload_n F.1 F.2.1 dX19_routerSpeaks_69 rfl (lv_at hl 1 rfl) ?_
    refine lv_aload_n F.1 F.2.1 dX19_routerSpeaks_70 rfl (lv_at hl 2 rfl) ?_
    refine lv_iconst (v := (4 : Int32)) F.1 F.2.1 dX19_routerSpeaks_71 (by decide) ?_
    refine lv_bipush (v := (8 : Int32)) F.1 F.2.1 dX19_routerSpeaks_72 (by decide) ?_
    refine zr_aload F.1 F.2.1 dX19_routerSpeaks_74 (lv_at hl 0 rfl) ?_
    replace h := zd_some h
    obtain ⟨a6, rfl, h⟩ := h
    replace h := zc_some h
    obtain ⟨r7, z8, hc9, h⟩ := h
    refine zr_calli (zrun_VN (As := []) (rest := [.int (8 : Int32), .int (4 : Int32), .ref (B 12 x1), .ref (B 19 x0)]) zn_2520 zq_2522 zs_X18_address zq_2523 zq_25 hdX18_address (by decide) (T := TX18) (N := 13) rfl (okX18_address l D cy B ids hst N a6 (hy5 _ rfl) hr.2.2 hc9) F hr (hy5 _ rfl) hl.1 rfl (Nat.le_of_ble_eq_true rfl) dX19_routerSpeaks_76 rfl rfl hroX19_routerSpeaks_X18_address ⟨Nat.zero_le _, Nat.zero_le _⟩) F hA hr (fun H locs hw10 hr => ?_)
    clear hc9
    refine lv_aload_n F.1 F.2.1 dX19_routerSpeaks_79 rfl (lv_at hl 2 rfl) ?_
    refine gf19_498 F hx1 hr dX19_routerSpeaks_80 ?_
    refine lv_iload_n F.1 F.2.1 dX19_routerSpeaks_83 rfl (lv_at hl 4 rfl) ?_
    replace h := zk_some h
    obtain ⟨c11, h⟩ := h
    refine zr_iald (k := 153) (by decide) rfl (by decide) F (zal_a F hx1 (j := 20) rfl) hr dX19_routerSpeaks_84 c11 ?_
    replace h := zc_some h
    obtain ⟨r12, z13, hc14, h⟩ := h
    refine zr_calli (zrun_V (As := [.ref (B 12 x1), .int (4 : Int32), .int (8 : Int32), .int r7, .int (zgA z8 153 x1 (Int32.toNatClampNeg x3))]) (rest := []) zq_2765 zq_2767 zs_X19_make zq_2768 zq_4 hdX19_make (by decide) (T := TX19) (N := 32) rfl (okX19_make l D cy B ids hst N x0 hx0 x1 hx1 (4 : Int32)  (8 : Int32)  r7  (zgA z8 153 x1 (Int32.toNatClampNeg x3))  hr.2.2 hc14) F hr hx0 hl.1 rfl (by decide) dX19_routerSpeaks_85 rfl rfl hroX19_routerSpeaks_X19_make ⟨Nat.zero_le _, Nat.zero_le _⟩) F hA hr (fun H locs hw15 hr => ?_)
    clear hc14
    refine lv_istore (lv' := [(5, .int r12), (4, .ref (B 18 a6)), (0, .ref (B 19 x0)), (1, .ref (B 12 x1)), (2, .int x2), (3, .int x3)]) F.1 F.2.1 dX19_routerSpeaks_88 hl (by decide) rfl (fun ls hl => ?_)
    refine lv_aload_n F.1 F.2.1 dX19_routerSpeaks_90 rfl (lv_at hl 2 rfl) ?_
    refine lv_iload F.1 F.2.1 dX19_routerSpeaks_91 (lv_at hl 0 rfl) ?_
    refine lv_bipush (v := (12 : Int32)) F.1 F.2.1 dX19_routerSpeaks_93 (by decide) ?_
    refine lv_aload_n F.1 F.2.1 dX19_routerSpeaks_95 rfl (lv_at hl 3 rfl) ?_
    refine gf19_310 F hx1 hr dX19_routerSpeaks_96 ?_
    replace h := zc_some h
    obtain ⟨r16, z17, hc18, h⟩ := h
    refine zr_callv (zrun_V (As := [.int r12, .int (12 : Int32), .int (zgI z13 12 0 x1)]) (rest := []) zq_2623 zq_2625 zs_X19_set zq_2626 zq_4 hdX19_set (by decide) (T := TX19) (N := 32) rfl (okX19_set l D cy B ids hst N x0 hx0 r12  (12 : Int32)  (zgI z13 12 0 x1)  hr.2.2 hc18) F hr hx0 hl.1 rfl (by decide) dX19_routerSpeaks_99 rfl rfl hroX19_routerSpeaks_X19_set ⟨Nat.zero_le _, Nat.zero_le _⟩) F hA hr (fun H locs hw19 hr => ?_)
    clear hc18
    refine lv_aload_n F.1 F.2.1 dX19_routerSpeaks_102 rfl (lv_at hl 2 rfl) ?_
    refine lv_iload F.1 F.2.1 dX19_routerSpeaks_103 (lv_at hl 0 rfl) ?_
    refine lv_bipush (v := (13 : Int32)) F.1 F.2.1 dX19_routerSpeaks_105 (by decide) ?_
    refine lv_aload_n F.1 F.2.1 dX19_routerSpeaks_107 rfl (lv_at hl 3 rfl) ?_
    refine gf19_501 F hx1 hr dX19_routerSpeaks_108 ?_
    refine lv_iload_n F.1 F.2.1 dX19_routerSpeaks_111 rfl (lv_at hl 5 rfl) ?_
    replace h := zk_some h
    obtain ⟨c20, h⟩ := h
    refine zr_iald (k := 154) (by decide) rfl (by decide) F (zal_a F hx1 (j := 21) rfl) hr dX19_routerSpeaks_112 c20 ?_
    replace h := zc_some h
    obtain ⟨r21, z22, hc23, h⟩ := h
    refine zr_callv (zrun_V (As := [.int r12, .int (13 : Int32), .int (zgA z17 154 x1 (Int32.toNatClampNeg x3))]) (rest := []) zq_2623 zq_2625 zs_X19_set zq_2626 zq_4 hdX19_set (by decide) (T := TX19) (N := 32) rfl (okX19_set l D cy B ids hst N x0 hx0 r12  (13 : Int32)  (zgA z17 154 x1 (Int32.toNatClampNeg x3))  hr.2.2 hc23) F hr hx0 hl.1 rfl (by decide) dX19_routerSpeaks_113 rfl rfl hroX19_routerSpeaks_X19_set ⟨Nat.zero_le _, Nat.zero_le _⟩) F hA hr (fun H locs hw24 hr => ?_)
    clear hc23
    refine lv_aload_n F.1 F.2.1 dX19_routerSpeaks_116 rfl (lv_at hl 2 rfl) ?_
    refine lv_aload F.1 F.2.1 dX19_routerSpeaks_117 (lv_at hl 1 rfl) ?_
    refine lv_aload_n F.1 F.2.1 dX19_routerSpeaks_119 rfl (lv_at hl 3 rfl) ?_
    refine gf19_498 F hx1 hr dX19_routerSpeaks_120 ?_
    refine lv_iload_n F.1 F.2.1 dX19_routerSpeaks_123 rfl (lv_at hl 5 rfl) ?_
    replace h := zk_some h
    obtain ⟨c25, h⟩ := h
    refine zr_iald (k := 153) (by decide) rfl (by decide) F (zal_a F hx1 (j := 20) rfl) hr dX19_routerSpeaks_124 c25 ?_
    refine lv_ldcw (v := (65535)) F.1 F.2.1 F.2.2.2.1 (F.2.2.2.2.1 _ zq_2784) dX19_routerSpeaks_125 ?_
    refine lv_iand F.1 F.2.1 dX19_routerSpeaks_128 ?_
    refine lv_iconst (v := (1 : Int32)) F.1 F.2.1 dX19_routerSpeaks_129 (by decide) ?_
    refine lv_isub F.1 F.2.1 dX19_routerSpeaks_130 ?_
    refine lv_iload F.1 F.2.1 dX19_routerSpeaks_131 (lv_at hl 0 rfl) ?_
    replace h := zc_some h
    obtain ⟨r26, z27, hc28, h⟩ := h
    refine zr_callv (zrun_V (As := [.ref (B 18 a6), .int (((zgA z22 153 x1 (Int32.toNatClampNeg x3)) &&& (65535 : Int32)) - (1 : Int32)), .int r12]) (rest := []) zq_2785 zq_2787 zs_X19_deliver zq_2788 zq_4 hdX19_deliver (by decide) (T := TX19) (N := 32) rfl (okX19_deliver l D cy B ids hst N x0 hx0 a6 (hy5 _ rfl) (((zgA z22 153 x1 (Int32.toNatClampNeg x3)) &&& (65535 : Int32)) - (1 : Int32))  r12  hr.2.2 hc28) F hr hx0 hl.1 rfl (by decide) dX19_routerSpeaks_133 rfl rfl hroX19_routerSpeaks_X19_deliver ⟨Nat.zero_le _, Nat.zero_le _⟩) F hA hr (fun H locs hw29 hr => ?_)
    clear hc28
    refine lv_aload_n F.1 F.2.1 dX19_routerSpeaks_136 rfl (lv_at hl 2 rfl) ?_
    refine lv_iload F.1 F.2.1 dX19_routerSpeaks_137 (lv_at hl 0 rfl) ?_
    replace h := zc_some h
    obtain ⟨r30, z31, hc32, h⟩ := h
    refine zr_callv (zrun_V (As := [.int r12]) (rest := []) zq_2545 zq_2547 zs_X19_drop zq_2548 zq_4 hdX19_drop (by decide) (T := TX19) (N := 32) rfl (okX19_drop l D cy B ids hst N x0 hx0 r12  hr.2.2 hc32) F hr hx0 hl.1 rfl (by decide) dX19_routerSpeaks_139 rfl rfl hroX19_routerSpeaks_X19_drop ⟨Nat.zero_le _, Nat.zero_le _⟩) F hA hr (fun H locs hw33 hr => ?_)
    clear hc32
    obtain ⟨v34, ev34⟩ : ∃ y : Int32, y = (x3 + 1) := ⟨_, rfl⟩
    replace h := zl_sub ev34 h
    refine lv_iinc (v := v34) (lv' := [(3, .int v34), (5, .int r12), (4, .ref (B 18 a6)), (0, .ref (B 19 x0)), (1, .ref (B 12 x1)), (2, .int x2)]) F.1 F.2.1 dX19_routerSpeaks_142 hl (k := 5) rfl (by rw [ev34]; rfl) (by decide) rfl (fun ls hl => ?_)
    refine lv_goto (tgt := 51) F.1 F.2.1 dX19_routerSpeaks_145 (by decide) ?_
    exact hK51 x0 x1 x2 v34 hx0 hx1 hr (lv_sub hl [3, 4, 5, 0] rfl) h
theorem lX19_routerSpeaks_51 (hst : zSt B ids) (F : zFx p m c cX19_routerSpeaks 6 s args RX19 D cy B ids A) (hA : ∀ q : Nat, s.heap.size ≤ q → A q) {r : Int32} {z' : St} (E : zEnd p l e rmX19_routerSpeaks s m args below meth c cX19_routerSpeaks D cy B ids A Q none z' .return_ True) {N : Nat}  : ∀ (n : Nat) (x0 : Nat) (x1 : Nat) (x2 : Int32) (x3 : Int32) (hx0 : (19, x0) ∈ ids) (hx1 : (12, x1) ∈ ids) {z : St} {H : Heap} {locs : List Loc} {ls : Array Slot} (hr : zRep D cy B ids A s.heap z H locs) (hl : lv_has ls 6 [(0, .ref (B 19 x0)), (1, .ref (B 12 x1)), (2, .int x2), (3, .int x3)]), fX19_routerSpeaks_51 N  n x0 x1 x2 x3 z = some (r, z') → W p l e rmX19_routerSpeaks s m args below meth c H locs 0 0 Q (F0 m 51 ls []) := by
  intro n
  induction n with
  | zero => intro x0 x1 x2 x3 hx0 hx1 z H locs ls hr hl h; cases h
  | succ n ih => intro x0 x1 x2 x3 hx0 hx1 z H locs ls hr hl h; exact bX19_routerSpeaks_51 hst F hA E ih x0 x1 x2 x3 hx0 hx1 hr hl h
def fX19_routerSpeaks_44 (N : Nat)  (x0 : Nat) (x1 : Nat) (z : St) : Option (Int32 × St) := zl (zgI z 12 22 x1) fun v1 => fX19_routerSpeaks_51 N N x0 x1 v1 (0 : Int32) z
set_option maxHeartbeats 4000000 in
set_option maxRecDepth 100000 in
theorem bX19_routerSpeaks_44 (hst : zSt B ids) (F : zFx p m c cX19_routerSpeaks 6 s args RX19 D cy B ids A) (hA : ∀ q : Nat, s.heap.size ≤ q → A q) {r : Int32} {z' : St} (E : zEnd p l e rmX19_routerSpeaks s m args below meth c cX19_routerSpeaks D cy B ids A Q none z' .return_ True) {N : Nat}  (x0 : Nat) (x1 : Nat) (hx0 : (19, x0) ∈ ids) (hx1 : (12, x1) ∈ ids) {z : St} {H : Heap} {locs : List Loc} {ls : Array Slot} (hr : zRep D cy B ids A s.heap z H locs) (hl : lv_has ls 6 [(0, .ref (B 19 x0)), (1, .ref (B 12 x1))]) (h : fX19_routerSpeaks_44 N x0 x1 z = some (r, z')) : W p l e rmX19_routerSpeaks s m args below meth c H locs 0 0 Q (F0 m 44 ls []) := by
  unfold fX19_routerSpeaks_44 at h
  refine lv_aload_n F.1 F.2.1 dX19_routerSpeaks_44 rfl (lv_at hl 1 rfl) ?_
  refine gf19_492 F hx1 hr dX19_routerSpeaks_45 ?_
  refine lv_topi (fun v1 ev1 => ?_)
  replace h := zl_sub ev1 h
  refine lv_istore_n (lv' := [(2, .int v1), (0, .ref (B 19 x0)), (1, .ref (B 12 x1))]) F.1 F.2.1 dX19_routerSpeaks_48 rfl hl (by decide) rfl (fun ls hl => ?_)
  refine lv_iconst (v := (0 : Int32)) F.1 F.2.1 dX19_routerSpeaks_49 (by decide) ?_
  refine lv_istore_n (lv' := [(3, .int (0 : Int32)), (2, .int v1), (0, .ref (B 19 x0)), (1, .ref (B 12 x1))]) F.1 F.2.1 dX19_routerSpeaks_50 rfl hl (by decide) rfl (fun ls hl => ?_)
  exact lX19_routerSpeaks_51 hst F hA E  _ x0 x1 v1 (0 : Int32) hx0 hx1 hr (lv_sub hl [2, 3, 1, 0] rfl) h
def fX19_routerSpeaks_2b (N : Nat) (K2 : Nat → Nat → Int32 → St → Option (Int32 × St)) (x0 : Nat) (x1 : Nat) (x2 : Int32) (z : St) : Option (Int32 × St) := if (zgI z 12 3 x1) ≤ x2 then (fX19_routerSpeaks_44 N x0 x1 z) else (if ¬ ((zgI z 19 24 x0) - (zgI z 19 24 x0) / (20 : Int32) * (20 : Int32)) = 0 then (fX19_routerSpeaks_44 N x0 x1 z) else (zk x2 6 <| zl (zgQ z 147 x1 (Int32.toNatClampNeg x2)) fun y4 => zd y4 fun a5 => if (zgI z 18 5 a5) = 0 then (fX19_routerSpeaks_38 N K2 x0 x1 x2 z) else (zc (fX19_greet N x0 x1 x2 z) fun _ z8 => fX19_routerSpeaks_38 N K2 x0 x1 x2 z8)))
def fX19_routerSpeaks_2 (N : Nat)  : Nat → Nat → Nat → Int32 → St → Option (Int32 × St)
  | 0 => fun _ _ _ _ => none
  | n + 1 => fX19_routerSpeaks_2b N (fX19_routerSpeaks_2 N  n)
set_option maxHeartbeats 4000000 in
set_option maxRecDepth 100000 in
theorem bX19_routerSpeaks_2 (hst : zSt B ids) (F : zFx p m c cX19_routerSpeaks 6 s args RX19 D cy B ids A) (hA : ∀ q : Nat, s.heap.size ≤ q → A q) {r : Int32} {z' : St} (E : zEnd p l e rmX19_routerSpeaks s m args below meth c cX19_routerSpeaks D cy B ids A Q none z' .return_ True) {N : Nat} {K2 : Nat → Nat → Int32 → St → Option (Int32 × St)} (hK2 : ∀ (x0 : Nat) (x1 : Nat) (x2 : Int32) (hx0 : (19, x0) ∈ ids) (hx1 : (12, x1) ∈ ids) {z : St} {H : Heap} {locs : List Loc} {ls : Array Slot} (hr : zRep D cy B ids A s.heap z H locs) (hl : lv_has ls 6 [(0, .ref (B 19 x0)), (1, .ref (B 12 x1)), (2, .int x2)]), K2 x0 x1 x2 z = some (r, z') → W p l e rmX19_routerSpeaks s m args below meth c H locs 0 0 Q (F0 m 2 ls [])) (x0 : Nat) (x1 : Nat) (x2 : Int32) (hx0 : (19, x0) ∈ ids) (hx1 : (12, x1) ∈ ids) {z : St} {H : Heap} {locs : List Loc} {ls : Array Slot} (hr : zRep D cy B ids A s.heap z H locs) (hl : lv_has ls 6 [(0, .ref (B 19 x0)), (1, .ref (B 12 x1)), (2, .int x2)]) (h : fX19_routerSpeaks_2b N K2 x0 x1 x2 z = some (r, z')) : W p l e rmX19_routerSpeaks s m args below meth c H locs 0 0 Q (F0 m 2 ls []) := by
  unfold fX19_routerSpeaks_2b at h
  refine lv_iload_n F.1 F.2.1 dX19_routerSpeaks_2 rfl (lv_at hl 2 rfl) ?_
  refine lv_aload_n F.1 F.2.1 dX19_routerSpeaks_3 rfl (lv_at hl 1 rfl) ?_
  refine gf19_273 F hx1 hr dX19_routerSpeaks_4 ?_
  refine lv_icmp_ge (tgt := 44) F.1 F.2.1 dX19_routerSpeaks_7 (by decide) (fun c1 => ?_) (fun c1 => ?_)
  · replace h := zi_t c1 h
    exact bX19_routerSpeaks_44 hst F hA E  x0 x1 hx0 hx1 hr (lv_sub hl [0, 1] rfl) h
  · replace h := zi_f c1 h
    refine lv_aload_n F.1 F.2.1 dX19_routerSpeaks_10 rfl (lv_at hl 0 rfl) ?_
    refine gf19_143 F hx0 hr dX19_routerSpeaks_11 ?_
    refine lv_bipush (v := (20 : Int32)) F.1 F.2.1 dX19_routerSpeaks_14 (by decide) ?_
    refine lv_irem F.1 F.2.1 dX19_routerSpeaks_16 (by decide) ?_
    refine lv_if_ne (tgt := 44) F.1 F.2.1 dX19_routerSpeaks_17 (by decide) (fun c2 => ?_) (fun c2 => ?_)
    · replace h := zi_t c2 h
      exact bX19_routerSpeaks_44 hst F hA E  x0 x1 hx0 hx1 hr (lv_sub hl [0, 1] rfl) h
    · replace h := zi_f (fun q => q c2) h
      refine lv_aload_n F.1 F.2.1 dX19_routerSpeaks_20 rfl (lv_at hl 1 rfl) ?_
      refine gf19_276 F hx1 hr dX19_routerSpeaks_21 ?_
      refine lv_iload_n F.1 F.2.1 dX19_routerSpeaks_24 rfl (lv_at hl 2 rfl) ?_
      replace h := zk_some h
      obtain ⟨c3, h⟩ := h
      refine zr_aaldv (k := 147) (by decide) rfl rfl (zlen_d (by decide)) F (zal_a F hx1 (j := 2) rfl) hr dX19_routerSpeaks_25 c3 (fun y4 ey4 => ?_)
      replace h := zl_sub ey4 h
      have hy4 := zal_q hr (zal_a F hx1 (j := 2) rfl) rfl ey4
      clear ey4
      replace h := zd_some h
      obtain ⟨a5, rfl, h⟩ := h
      refine gf19_479 F (hy4 _ rfl) hr dX19_routerSpeaks_26 ?_
      refine lv_if_eq (tgt := 38) F.1 F.2.1 dX19_routerSpeaks_29 (by decide) (fun c6 => ?_) (fun c6 => ?_)
      · replace h := zi_t c6 h
        exact bX19_routerSpeaks_38 hst F hA E hK2 x0 x1 x2 hx0 hx1 hr (lv_sub hl [0, 1, 2] rfl) h
      · replace h := zi_f c6 h
        refine lv_aload_n F.1 F.2.1 dX19_routerSpeaks_32 rfl (lv_at hl 0 rfl) ?_
        refine lv_aload_n F.1 F.2.1 dX19_routerSpeaks_33 rfl (lv_at hl 1 rfl) ?_
        refine lv_iload_n F.1 F.2.1 dX19_routerSpeaks_34 rfl (lv_at hl 2 rfl) ?_
        replace h := zc_some h
        obtain ⟨r7, z8, hc9, h⟩ := h
        refine zr_callv (zrun_V (As := [.ref (B 12 x1), .int x2]) (rest := []) zq_2887 zq_2889 zs_X19_greet zq_2890 zq_4 hdX19_greet (by decide) (T := TX19) (N := 32) rfl (okX19_greet l D cy B ids hst N x0 hx0 x1 hx1 x2  hr.2.2 hc9) F hr hx0 hl.1 rfl (by decide) dX19_routerSpeaks_35 rfl rfl hroX19_routerSpeaks_X19_greet ⟨Nat.zero_le _, Nat.zero_le _⟩) F hA hr (fun H locs hw10 hr => ?_)
        clear hc9
        exact bX19_routerSpeaks_38 hst F hA E hK2 x0 x1 x2 hx0 hx1 hr (lv_sub hl [0, 1, 2] rfl) h
theorem lX19_routerSpeaks_2 (hst : zSt B ids) (F : zFx p m c cX19_routerSpeaks 6 s args RX19 D cy B ids A) (hA : ∀ q : Nat, s.heap.size ≤ q → A q) {r : Int32} {z' : St} (E : zEnd p l e rmX19_routerSpeaks s m args below meth c cX19_routerSpeaks D cy B ids A Q none z' .return_ True) {N : Nat}  : ∀ (n : Nat) (x0 : Nat) (x1 : Nat) (x2 : Int32) (hx0 : (19, x0) ∈ ids) (hx1 : (12, x1) ∈ ids) {z : St} {H : Heap} {locs : List Loc} {ls : Array Slot} (hr : zRep D cy B ids A s.heap z H locs) (hl : lv_has ls 6 [(0, .ref (B 19 x0)), (1, .ref (B 12 x1)), (2, .int x2)]), fX19_routerSpeaks_2 N  n x0 x1 x2 z = some (r, z') → W p l e rmX19_routerSpeaks s m args below meth c H locs 0 0 Q (F0 m 2 ls []) := by
  intro n
  induction n with
  | zero => intro x0 x1 x2 hx0 hx1 z H locs ls hr hl h; cases h
  | succ n ih => intro x0 x1 x2 hx0 hx1 z H locs ls hr hl h; exact bX19_routerSpeaks_2 hst F hA E ih x0 x1 x2 hx0 hx1 hr hl h
def fX19_routerSpeaks (N : Nat)  (x0 : Nat) (x1 : Nat) (z : St) : Option (Int32 × St) := fX19_routerSpeaks_2 N N x0 x1 (0 : Int32) z
set_option maxHeartbeats 4000000 in
set_option maxRecDepth 100000 in
theorem bX19_routerSpeaks_0 (hst : zSt B ids) (F : zFx p m c cX19_routerSpeaks 6 s args RX19 D cy B ids A) (hA : ∀ q : Nat, s.heap.size ≤ q → A q) {r : Int32} {z' : St} (E : zEnd p l e rmX19_routerSpeaks s m args below meth c cX19_routerSpeaks D cy B ids A Q none z' .return_ True) {N : Nat}  (x0 : Nat) (x1 : Nat) (hx0 : (19, x0) ∈ ids) (hx1 : (12, x1) ∈ ids) {z : St} {H : Heap} {locs : List Loc} {ls : Array Slot} (hr : zRep D cy B ids A s.heap z H locs) (hl : lv_has ls 6 [(0, .ref (B 19 x0)), (1, .ref (B 12 x1))]) (h : fX19_routerSpeaks N x0 x1 z = some (r, z')) : W p l e rmX19_routerSpeaks s m args below meth c H locs 0 0 Q (F0 m 0 ls []) := by
  unfold fX19_routerSpeaks at h
  refine lv_iconst (v := (0 : Int32)) F.1 F.2.1 dX19_routerSpeaks_0 (by decide) ?_
  refine lv_istore_n (lv' := [(2, .int (0 : Int32)), (0, .ref (B 19 x0)), (1, .ref (B 12 x1))]) F.1 F.2.1 dX19_routerSpeaks_1 rfl hl (by decide) rfl (fun ls hl => ?_)
  exact lX19_routerSpeaks_2 hst F hA E  _ x0 x1 (0 : Int32) hx0 hx1 hr (lv_sub hl [1, 2, 0] rfl) h
end SX19_routerSpeaks
set_option maxRecDepth 100000 in
theorem okX19_routerSpeaks (l : Launch) (D : va_G) (cy : Nat → ClassId) (B : Nat → Nat → Nat) (ids : List (Nat × Nat)) (hst : zSt B ids) (N : Nat) (x0 : Nat) (hx0 : (19, x0) ∈ ids) (x1 : Nat) (hx1 : (12, x1) ∈ ids) {z : St} {r : Int32} {z' : St} (hW : zWf ids z) (h : fX19_routerSpeaks N x0 x1 z = some (r, z')) : zM l yX19_routerSpeaks (zws yX19_routerSpeaks cX19_routerSpeaks 6 none) rmX19_routerSpeaks D cy B ids [.ref (B 19 x0), .ref (B 12 x1)] none True z z' :=
  zM_of hst hW (by decide +kernel) (Nat.le_of_ble_eq_true rfl) (fun p e s m args below meth c A ls F hA hret hlocks hr hl => bX19_routerSpeaks_0 hst F hA (zEnd_v F hret hlocks) x0 x1 hx0 hx1 hr hl h)
