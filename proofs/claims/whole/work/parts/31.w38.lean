abbrev rmX19_canRead : Room := { frames := 1, cells := 0, slots := 0, locals := 20 }
theorem hdX19_canRead : yX19_canRead.cls ≠ "java/lang/invoke/MethodHandle" ∧ yX19_canRead.cls ≠ "java/lang/invoke/VarHandle" ∧ (parseMethodDescriptor yX19_canRead.desc).map (fun d => d.parameters.length) = some 1 := by decide +kernel
theorem hroX19_canRead_X14_isDead : rmX14_isDead.frames + 1 ≤ rmX19_canRead.frames ∧ 8 + (1 + 11) + rmX14_isDead.locals ≤ rmX19_canRead.locals := by decide
theorem hroX19_canRead_X14_readable : rmX14_readable.frames + 1 ≤ rmX19_canRead.frames ∧ 8 + (1 + 11) + rmX14_readable.locals ≤ rmX19_canRead.locals := by decide
section SX19_canRead
variable {p : Program} {l : Launch} {e : Env} {s : State} {m : MethodId} {args : Array Value} {below : List Frame} {meth : Method} {c : Code} {Q : State → Prop} {D : va_G} {cy : Nat → ClassId} {B : Nat → Nat → Nat} {ids : List (Nat × Nat)} {A : Nat → Prop}
def fX19_canRead_33 (N : Nat)   (z : St) : Option (Int32 × St) := some ((1 : Int32), z)
set_option maxHeartbeats 4000000 in
set_option maxRecDepth 100000 in
theorem bX19_canRead_33 (hst : zSt B ids) (F : zFx p m c cX19_canRead 1 s args RX19 D cy B ids A) (hA : ∀ q : Nat, s.heap.size ≤ q → A q) {r : Int32} {z' : St} (E : zEnd p l e rmX19_canRead s m args below meth c cX19_canRead D cy B ids A Q (some (.int r)) z' .ireturn (r = 0 ∨ r = 1)) {N : Nat}    {z : St} {H : Heap} {locs : List Loc} {ls : Array Slot} (hr : zRep D cy B ids A s.heap z H locs) (hl : lv_has ls 1 []) (h : fX19_canRead_33 N z = some (r, z')) : W p l e rmX19_canRead s m args below meth c H locs 0 0 Q (F0 m 33 ls []) := by
  unfold fX19_canRead_33 at h
  refine lv_iconst (v := (1 : Int32)) F.1 F.2.1 dX19_canRead_33 (by decide) ?_
  refine lv_goto (tgt := 38) F.1 F.2.1 dX19_canRead_34 (by decide) ?_
  obtain ⟨rfl, rfl⟩ := zret h
  exact E _ _ _ _ dX19_canRead_38 (by decide) hr
def fX19_canRead (N : Nat)  (x0 : Option Nat) (z : St) : Option (Int32 × St) := zo x0 (some ((0 : Int32), z)) fun a2 => zc (fX14_readable N a2 z) fun r3 z4 => if 0 < r3 then (fX19_canRead_33 N z4) else (if ¬ (zgI z4 14 23 a2) = 0 then (fX19_canRead_33 N z4) else (zc (fX14_isDead N a2 z4) fun r9 z10 => if ¬ r9 = 0 then (some ((0 : Int32), z10)) else (if (zgI z10 14 0 a2) = (1 : Int32) then (some ((0 : Int32), z10)) else (fX19_canRead_33 N z10))))
set_option maxHeartbeats 4000000 in
set_option maxRecDepth 100000 in
theorem bX19_canRead_0 (hst : zSt B ids) (F : zFx p m c cX19_canRead 1 s args RX19 D cy B ids A) (hA : ∀ q : Nat, s.heap.size ≤ q → A q) {r : Int32} {z' : St} (E : zEnd p l e rmX19_canRead s m args below meth c cX19_canRead D cy B ids A Q (some (.int r)) z' .ireturn (r = 0 ∨ r = 1)) {N : Nat}  (x0 : Option Nat) (hx0 : ∀ t, x0 = some t → (14, t) ∈ ids) {z : St} {H : Heap} {locs : List Loc} {ls : Array Slot} (hr : zRep D cy B ids A s.heap z H locs) (hl : lv_has ls 1 [(0, va_rf (Option.map (B 14) x0))]) (h : fX19_canRead N x0 z = some (r, z')) : W p l e rmX19_canRead s m args below meth c H locs 0 0 Q (F0 m 0 ls []) := by
  unfold fX19_canRead at h
  refine zr_aload_n F.1 F.2.1 dX19_canRead_0 rfl (lv_at hl 0 rfl) ?_
  refine zr_ifnull (tgt := 37) F.1 F.2.1 dX19_canRead_1 (by decide) (fun e1 => ?_) (fun a2 e1 => ?_)
  · replace h := zo_n e1 h
    subst e1
    refine lv_iconst (v := (0 : Int32)) F.1 F.2.1 dX19_canRead_37 (by decide) ?_
    obtain ⟨rfl, rfl⟩ := zret h
    exact E _ _ _ _ dX19_canRead_38 (by decide) hr
  · replace h := zo_s e1 h
    subst e1
    refine lv_aload_n F.1 F.2.1 dX19_canRead_4 rfl (lv_at hl 0 rfl) ?_
    replace h := zc_some h
    obtain ⟨r3, z4, hc5, h⟩ := h
    refine zr_calli (zrun_VN (As := []) (rest := []) zn_2728 zq_2712 zs_X14_readable zq_2713 zq_21 hdX14_readable (by decide) (T := TX14) (N := 47) rfl (okX14_readable l D cy B ids hst N a2 (hx0 _ rfl) hr.2.2 hc5) F hr (hx0 _ rfl) hl.1 rfl (by decide) dX19_canRead_5 rfl rfl hroX19_canRead_X14_readable ⟨Nat.zero_le _, Nat.zero_le _⟩) F hA hr (fun H locs hw6 hr => ?_)
    clear hc5
    refine lv_if_gt (tgt := 33) F.1 F.2.1 dX19_canRead_8 (by decide) (fun c7 => ?_) (fun c7 => ?_)
    · replace h := zi_t c7 h
      exact bX19_canRead_33 hst F hA E   hr (lv_sub hl [] rfl) h
    · replace h := zi_f c7 h
      refine lv_aload_n F.1 F.2.1 dX19_canRead_11 rfl (lv_at hl 0 rfl) ?_
      refine gf19_682 F (hx0 _ rfl) hr dX19_canRead_12 ?_
      refine lv_if_ne (tgt := 33) F.1 F.2.1 dX19_canRead_15 (by decide) (fun c8 => ?_) (fun c8 => ?_)
      · replace h := zi_t c8 h
        exact bX19_canRead_33 hst F hA E   hr (lv_sub hl [] rfl) h
      · replace h := zi_f (fun q => q c8) h
        refine lv_aload_n F.1 F.2.1 dX19_canRead_18 rfl (lv_at hl 0 rfl) ?_
        replace h := zc_some h
        obtain ⟨r9, z10, hc11, h⟩ := h
        refine zr_calli (zrun_VN (As := []) (rest := []) zn_2651 zq_2653 zs_X14_isDead zq_2654 zq_21 hdX14_isDead (by decide) (T := TX14) (N := 47) rfl (okX14_isDead l D cy B ids hst N a2 (hx0 _ rfl) hr.2.2 hc11) F hr (hx0 _ rfl) hl.1 rfl (by decide) dX19_canRead_19 rfl rfl hroX19_canRead_X14_isDead ⟨Nat.zero_le _, Nat.zero_le _⟩) F hA hr (fun H locs hw12 hr => ?_)
        clear hc11
        refine lv_if_ne (tgt := 37) F.1 F.2.1 dX19_canRead_22 (by decide) (fun c13 => ?_) (fun c13 => ?_)
        · replace h := zi_t c13 h
          refine lv_iconst (v := (0 : Int32)) F.1 F.2.1 dX19_canRead_37 (by decide) ?_
          obtain ⟨rfl, rfl⟩ := zret h
          exact E _ _ _ _ dX19_canRead_38 (by decide) hr
        · replace h := zi_f (fun q => q c13) h
          refine lv_aload_n F.1 F.2.1 dX19_canRead_25 rfl (lv_at hl 0 rfl) ?_
          refine gf19_353 F (hx0 _ rfl) hr dX19_canRead_26 ?_
          refine lv_iconst (v := (1 : Int32)) F.1 F.2.1 dX19_canRead_29 (by decide) ?_
          refine lv_icmp_eq (tgt := 37) F.1 F.2.1 dX19_canRead_30 (by decide) (fun c14 => ?_) (fun c14 => ?_)
          · replace h := zi_t c14 h
            refine lv_iconst (v := (0 : Int32)) F.1 F.2.1 dX19_canRead_37 (by decide) ?_
            obtain ⟨rfl, rfl⟩ := zret h
            exact E _ _ _ _ dX19_canRead_38 (by decide) hr
          · replace h := zi_f c14 h
            exact bX19_canRead_33 hst F hA E   hr (lv_sub hl [] rfl) h
end SX19_canRead
set_option maxRecDepth 100000 in
theorem okX19_canRead (l : Launch) (D : va_G) (cy : Nat → ClassId) (B : Nat → Nat → Nat) (ids : List (Nat × Nat)) (hst : zSt B ids) (N : Nat) (x0 : Option Nat) (hx0 : ∀ t, x0 = some t → (14, t) ∈ ids) {z : St} {r : Int32} {z' : St} (hW : zWf ids z) (h : fX19_canRead N x0 z = some (r, z')) : zM l yX19_canRead (zws yX19_canRead cX19_canRead 1 (some .boolean)) rmX19_canRead D cy B ids [va_rf (Option.map (B 14) x0)] (some (.int r)) (r = 0 ∨ r = 1) z z' :=
  zM_of hst hW (by decide +kernel) (by simp only [lg_sl, List.flatMap_cons, List.flatMap_nil, zrf_cat]; exact Nat.le_of_ble_eq_true rfl) (fun p e s m args below meth c A ls F hA hret hlocks hr hl => bX19_canRead_0 hst F hA (zEnd_z F hret hlocks) x0 hx0 hr hl h)
abbrev rmX19_read_ : Room := { frames := 4, cells := 0, slots := 0, locals := 86 }
theorem hdX19_read_ : yX19_read_.cls ≠ "java/lang/invoke/MethodHandle" ∧ yX19_read_.cls ≠ "java/lang/invoke/VarHandle" ∧ (parseMethodDescriptor yX19_read_.desc).map (fun d => d.parameters.length) = some 2 := by decide +kernel
theorem hroX19_read__X14_readable : rmX14_readable.frames + 1 ≤ rmX19_read_.frames ∧ 8 + (1 + 11) + rmX14_readable.locals ≤ rmX19_read_.locals := by decide
theorem hroX19_read__X19_canRead : rmX19_canRead.frames + 1 ≤ rmX19_read_.frames ∧ 8 + (1 + 11) + rmX19_canRead.locals ≤ rmX19_read_.locals := by decide
theorem hroX19_read__X19_endAt : rmX19_endAt.frames + 1 ≤ rmX19_read_.frames ∧ 8 + (3 + 11) + rmX19_endAt.locals ≤ rmX19_read_.locals := by decide
theorem hroX19_read__X19_fails : rmX19_fails.frames + 1 ≤ rmX19_read_.frames ∧ 8 + (3 + 11) + rmX19_fails.locals ≤ rmX19_read_.locals := by decide
theorem hroX19_read__X19_isDoor : rmX19_isDoor.frames + 1 ≤ rmX19_read_.frames ∧ 8 + (3 + 11) + rmX19_isDoor.locals ≤ rmX19_read_.locals := by decide
theorem hroX19_read__X19_read : rmX19_read.frames + 1 ≤ rmX19_read_.frames ∧ 8 + (4 + 11) + rmX19_read.locals ≤ rmX19_read_.locals := by decide
section SX19_read_
variable {p : Program} {l : Launch} {e : Env} {s : State} {m : MethodId} {args : Array Value} {below : List Frame} {meth : Method} {c : Code} {Q : State → Prop} {D : va_G} {cy : Nat → ClassId} {B : Nat → Nat → Nat} {ids : List (Nat × Nat)} {A : Nat → Prop}
def fX19_read__34 (N : Nat)  (x0 : Nat) (x3 : Option Nat) (s0 : Nat) (s1 : Int32) (s2 : Int32) (z : St) : Option (Int32 × St) := zc (fX19_fails N s0 s1 s2 z) fun r1 z2 => if r1 = 0 then (zd x3 fun a6 => zc (fX14_readable N a6 z2) fun r7 z8 => if r7 ≤ 0 then (if (zgI z8 14 23 a6) = 0 then (some ((-1 : Int32), z8)) else (some ((-2 : Int32), z8))) else (zc (fX19_read N x0 a6 z8) fun r13 z14 => some (r13, z14))) else (some ((0 : Int32), z2))
set_option maxHeartbeats 4000000 in
set_option maxRecDepth 100000 in
theorem bX19_read__34 (hst : zSt B ids) (F : zFx p m c cX19_read_ 4 s args RX19 D cy B ids A) (hA : ∀ q : Nat, s.heap.size ≤ q → A q) {r : Int32} {z' : St} (E : zEnd p l e rmX19_read_ s m args below meth c cX19_read_ D cy B ids A Q (some (.int r)) z' .ireturn True) {N : Nat}  (x0 : Nat) (x3 : Option Nat) (s0 : Nat) (s1 : Int32) (s2 : Int32) (hx0 : (19, x0) ∈ ids) (hx3 : ∀ t, x3 = some t → (14, t) ∈ ids) (hs0 : (19, s0) ∈ ids) {z : St} {H : Heap} {locs : List Loc} {ls : Array Slot} (hr : zRep D cy B ids A s.heap z H locs) (hl : lv_has ls 4 [(0, .ref (B 19 x0)), (3, va_rf (Option.map (B 14) x3))]) (h : fX19_read__34 N x0 x3 s0 s1 s2 z = some (r, z')) : W p l e rmX19_read_ s m args below meth c H locs 0 0 Q (F0 m 34 ls [.int s2, .int s1, .ref (B 19 s0)]) := by
  unfold fX19_read__34 at h
  replace h := zc_some h
  obtain ⟨r1, z2, hc3, h⟩ := h
  refine zr_calli (zrun_V (As := [.int s1, .int s2]) (rest := []) zq_2402 zq_2404 zs_X19_fails zq_2405 zq_4 hdX19_fails (by decide) (T := TX19) (N := 32) rfl (okX19_fails l D cy B ids hst N s0 hs0 s1  s2  hr.2.2 hc3) F hr hs0 hl.1 rfl (by decide) dX19_read__34 rfl rfl hroX19_read__X19_fails ⟨Nat.zero_le _, Nat.zero_le _⟩) F hA hr (fun H locs hw4 hr => ?_)
  clear hc3
  refine lv_if_eq (tgt := 42) F.1 F.2.1 dX19_read__37 (by decide) (fun c5 => ?_) (fun c5 => ?_)
  · replace h := zi_t c5 h
    refine zr_aload_n F.1 F.2.1 dX19_read__42 rfl (lv_at hl 1 rfl) ?_
    replace h := zd_some h
    obtain ⟨a6, rfl, h⟩ := h
    replace h := zc_some h
    obtain ⟨r7, z8, hc9, h⟩ := h
    refine zr_calli (zrun_VN (As := []) (rest := []) zn_2728 zq_2712 zs_X14_readable zq_2713 zq_21 hdX14_readable (by decide) (T := TX14) (N := 47) rfl (okX14_readable l D cy B ids hst N a6 (hx3 _ rfl) hr.2.2 hc9) F hr (hx3 _ rfl) hl.1 rfl (by decide) dX19_read__43 rfl rfl hroX19_read__X14_readable ⟨Nat.zero_le _, Nat.zero_le _⟩) F hA hr (fun H locs hw10 hr => ?_)
    clear hc9
    refine lv_if_le (tgt := 57) F.1 F.2.1 dX19_read__46 (by decide) (fun c11 => ?_) (fun c11 => ?_)
    · replace h := zi_t c11 h
      refine lv_aload_n F.1 F.2.1 dX19_read__57 rfl (lv_at hl 1 rfl) ?_
      refine gf19_682 F (hx3 _ rfl) hr dX19_read__58 ?_
      refine lv_if_eq (tgt := 69) F.1 F.2.1 dX19_read__61 (by decide) (fun c12 => ?_) (fun c12 => ?_)
      · replace h := zi_t c12 h
        refine lv_iconst (v := (-1 : Int32)) F.1 F.2.1 dX19_read__69 (by decide) ?_
        obtain ⟨rfl, rfl⟩ := zret h
        exact E _ _ _ _ dX19_read__70 trivial hr
      · replace h := zi_f c12 h
        refine lv_bipush (v := (-2 : Int32)) F.1 F.2.1 dX19_read__64 (by decide) ?_
        refine lv_goto (tgt := 70) F.1 F.2.1 dX19_read__66 (by decide) ?_
        obtain ⟨rfl, rfl⟩ := zret h
        exact E _ _ _ _ dX19_read__70 trivial hr
    · replace h := zi_f c11 h
      refine lv_aload_n F.1 F.2.1 dX19_read__49 rfl (lv_at hl 0 rfl) ?_
      refine lv_aload_n F.1 F.2.1 dX19_read__50 rfl (lv_at hl 1 rfl) ?_
      replace h := zc_some h
      obtain ⟨r13, z14, hc15, h⟩ := h
      refine zr_calli (zrun_V (As := [.ref (B 14 a6)]) (rest := []) zq_2978 zq_2980 zs_X19_read zq_2981 zq_4 hdX19_read (by decide) (T := TX19) (N := 32) rfl (okX19_read l D cy B ids hst N x0 hx0 a6 (hx3 _ rfl) hr.2.2 hc15) F hr hx0 hl.1 rfl (by decide) dX19_read__51 rfl rfl hroX19_read__X19_read ⟨Nat.zero_le _, Nat.zero_le _⟩) F hA hr (fun H locs hw16 hr => ?_)
      clear hc15
      refine lv_goto (tgt := 70) F.1 F.2.1 dX19_read__54 (by decide) ?_
      obtain ⟨rfl, rfl⟩ := zret h
      exact E _ _ _ _ dX19_read__70 trivial hr
  · replace h := zi_f c5 h
    refine lv_iconst (v := (0 : Int32)) F.1 F.2.1 dX19_read__40 (by decide) ?_
    obtain ⟨rfl, rfl⟩ := zret h
    exact E _ _ _ _ dX19_read__41 trivial hr
def fX19_read__22 (N : Nat)  (x0 : Nat) (x3 : Option Nat) (s0 : Nat) (s1 : Int32) (z : St) : Option (Int32 × St) := zc (fX19_canRead N x3 z) fun r1 z2 => if ¬ r1 = 0 then (fX19_read__34 N x0 x3 s0 s1 (0 : Int32) z2) else (fX19_read__34 N x0 x3 s0 s1 (1 : Int32) z2)
set_option maxHeartbeats 4000000 in
set_option maxRecDepth 100000 in
theorem bX19_read__22 (hst : zSt B ids) (F : zFx p m c cX19_read_ 4 s args RX19 D cy B ids A) (hA : ∀ q : Nat, s.heap.size ≤ q → A q) {r : Int32} {z' : St} (E : zEnd p l e rmX19_read_ s m args below meth c cX19_read_ D cy B ids A Q (some (.int r)) z' .ireturn True) {N : Nat}  (x0 : Nat) (x3 : Option Nat) (s0 : Nat) (s1 : Int32) (hx0 : (19, x0) ∈ ids) (hx3 : ∀ t, x3 = some t → (14, t) ∈ ids) (hs0 : (19, s0) ∈ ids) {z : St} {H : Heap} {locs : List Loc} {ls : Array Slot} (hr : zRep D cy B ids A s.heap z H locs) (hl : lv_has ls 4 [(0, .ref (B 19 x0)), (3, va_rf (Option.map (B 14) x3))]) (h : fX19_read__22 N x0 x3 s0 s1 z = some (r, z')) : W p l e rmX19_read_ s m args below meth c H locs 0 0 Q (F0 m 22 ls [.int s1, .ref (B 19 s0)]) := by
  unfold fX19_read__22 at h
  refine zr_aload_n F.1 F.2.1 dX19_read__22 rfl (lv_at hl 1 rfl) ?_
  replace h := zc_some h
  obtain ⟨r1, z2, hc3, h⟩ := h
  refine zr_calli (zrun_S (As := [va_rf (Option.map (B 14) x3)]) (rest := [.int s1, .ref (B 19 s0)]) zq_3049 zq_3050 zq_3051 zq_4 hdX19_canRead (okX19_canRead l D cy B ids hst N x3 hx3 hr.2.2 hc3) F hr hl.1 rfl (Nat.le_of_ble_eq_true rfl) dX19_read__23 rfl rfl hroX19_read__X19_canRead ⟨Nat.zero_le _, Nat.zero_le _⟩) F hA hr (fun H locs hw4 hr => ?_)
  clear hc3
  refine lv_if_ne (tgt := 33) F.1 F.2.1 dX19_read__26 (by decide) (fun c5 => ?_) (fun c5 => ?_)
  · replace h := zi_t c5 h
    refine lv_iconst (v := (0 : Int32)) F.1 F.2.1 dX19_read__33 (by decide) ?_
    exact bX19_read__34 hst F hA E  x0 x3 s0 s1 (0 : Int32) hx0 hx3 hs0 hr (lv_sub hl [0, 1] rfl) h
  · replace h := zi_f (fun q => q c5) h
    refine lv_iconst (v := (1 : Int32)) F.1 F.2.1 dX19_read__29 (by decide) ?_
    refine lv_goto (tgt := 34) F.1 F.2.1 dX19_read__30 (by decide) ?_
    exact bX19_read__34 hst F hA E  x0 x3 s0 s1 (1 : Int32) hx0 hx3 hs0 hr (lv_sub hl [0, 1] rfl) h
def fX19_read_ (N : Nat)  (x0 : Nat) (x1 : Int32) (x2 : Int32) (z : St) : Option (Int32 × St) := zc (fX19_endAt N x0 x1 x2 z) fun r1 z2 => zc (fX19_isDoor N x0 x1 x2 z2) fun r5 z6 => if ¬ r5 = 0 then (fX19_read__22 N x0 r1 x0 (0 : Int32) z6) else (fX19_read__22 N x0 r1 x0 (1 : Int32) z6)
set_option maxHeartbeats 4000000 in
set_option maxRecDepth 100000 in
theorem bX19_read__0 (hst : zSt B ids) (F : zFx p m c cX19_read_ 4 s args RX19 D cy B ids A) (hA : ∀ q : Nat, s.heap.size ≤ q → A q) {r : Int32} {z' : St} (E : zEnd p l e rmX19_read_ s m args below meth c cX19_read_ D cy B ids A Q (some (.int r)) z' .ireturn True) {N : Nat}  (x0 : Nat) (x1 : Int32) (x2 : Int32) (hx0 : (19, x0) ∈ ids) {z : St} {H : Heap} {locs : List Loc} {ls : Array Slot} (hr : zRep D cy B ids A s.heap z H locs) (hl : lv_has ls 4 [(0, .ref (B 19 x0)), (1, .int x1), (2, .int x2)]) (h : fX19_read_ N x0 x1 x2 z = some (r, z')) : W p l e rmX19_read_ s m args below meth c H locs 0 0 Q (F0 m 0 ls []) := by
  unfold fX19_read_ at h
  refine lv_aload_n F.1 F.2.1 dX19_read__0 rfl (lv_at hl 0 rfl) ?_
  refine lv_iload_n F.1 F.2.1 dX19_read__1 rfl (lv_at hl 1 rfl) ?_
  refine lv_iload_n F.1 F.2.1 dX19_read__2 rfl (lv_at hl 2 rfl) ?_
  replace h := zc_some h
  obtain ⟨r1, z2, hc3, h⟩ := h
  refine zr_callr (zrun_V (As := [.int x1, .int x2]) (rest := []) zq_3020 zq_3022 zs_X19_endAt zq_3023 zq_4 hdX19_endAt (by decide) (T := TX19) (N := 32) rfl (okX19_endAt l D cy B ids hst N x0 hx0 x1  x2  hr.2.2 hc3) F hr hx0 hl.1 rfl (by decide) dX19_read__3 rfl rfl hroX19_read__X19_endAt ⟨Nat.zero_le _, Nat.zero_le _⟩) F hA hr (fun H locs hw4 hr => ?_)
  clear hc3
  refine zr_astore_n (lv' := [(3, va_rf (Option.map (B 14) r1)), (0, .ref (B 19 x0)), (1, .int x1), (2, .int x2)]) F.1 F.2.1 dX19_read__6 rfl hl (by decide) rfl (fun ls hl => ?_)
  refine lv_aload_n F.1 F.2.1 dX19_read__7 rfl (lv_at hl 1 rfl) ?_
  refine lv_aload_n F.1 F.2.1 dX19_read__8 rfl (lv_at hl 1 rfl) ?_
  refine lv_iload_n F.1 F.2.1 dX19_read__9 rfl (lv_at hl 2 rfl) ?_
  refine lv_iload_n F.1 F.2.1 dX19_read__10 rfl (lv_at hl 3 rfl) ?_
  replace h := zc_some h
  obtain ⟨r5, z6, hc7, h⟩ := h
  refine zr_calli (zrun_V (As := [.int x1, .int x2]) (rest := [.ref (B 19 x0)]) zq_3012 zq_3014 zs_X19_isDoor zq_3015 zq_4 hdX19_isDoor (by decide) (T := TX19) (N := 32) rfl (okX19_isDoor l D cy B ids hst N x0 hx0 x1  x2  hr.2.2 hc7) F hr hx0 hl.1 rfl (Nat.le_of_ble_eq_true rfl) dX19_read__11 rfl rfl hroX19_read__X19_isDoor ⟨Nat.zero_le _, Nat.zero_le _⟩) F hA hr (fun H locs hw8 hr => ?_)
  clear hc7
  refine lv_if_ne (tgt := 21) F.1 F.2.1 dX19_read__14 (by decide) (fun c9 => ?_) (fun c9 => ?_)
  · replace h := zi_t c9 h
    refine lv_iconst (v := (0 : Int32)) F.1 F.2.1 dX19_read__21 (by decide) ?_
    exact bX19_read__22 hst F hA E  x0 r1 x0 (0 : Int32) hx0 hw4 hx0 hr (lv_sub hl [1, 0] rfl) h
  · replace h := zi_f (fun q => q c9) h
    refine lv_iconst (v := (1 : Int32)) F.1 F.2.1 dX19_read__17 (by decide) ?_
    refine lv_goto (tgt := 22) F.1 F.2.1 dX19_read__18 (by decide) ?_
    exact bX19_read__22 hst F hA E  x0 r1 x0 (1 : Int32) hx0 hw4 hx0 hr (lv_sub hl [1, 0] rfl) h
end SX19_read_
set_option maxRecDepth 100000 in
theorem okX19_read_ (l : Launch) (D : va_G) (cy : Nat → ClassId) (B : Nat → Nat → Nat) (ids : List (Nat × Nat)) (hst : zSt B ids) (N : Nat) (x0 : Nat) (hx0 : (19, x0) ∈ ids) (x1 : Int32) (x2 : Int32) {z : St} {r : Int32} {z' : St} (hW : zWf ids z) (h : fX19_read_ N x0 x1 x2 z = some (r, z')) : zM l yX19_read_ (zws yX19_read_ cX19_read_ 4 (some .int)) rmX19_read_ D cy B ids [.ref (B 19 x0), .int x1, .int x2] (some (.int r)) True z z' :=
  zM_of hst hW (by decide +kernel) (Nat.le_of_ble_eq_true rfl) (fun p e s m args below meth c A ls F hA hret hlocks hr hl => bX19_read__0 hst F hA (zEnd_i F hret hlocks) x0 x1 x2 hx0 hr hl h)
abbrev rmX19_readAll : Room := { frames := 4, cells := 0, slots := 0, locals := 86 }
theorem hdX19_readAll : yX19_readAll.cls ≠ "java/lang/invoke/MethodHandle" ∧ yX19_readAll.cls ≠ "java/lang/invoke/VarHandle" ∧ (parseMethodDescriptor yX19_readAll.desc).map (fun d => d.parameters.length) = some 3 := by decide +kernel
theorem hroX19_readAll_X14_readable : rmX14_readable.frames + 1 ≤ rmX19_readAll.frames ∧ 8 + (1 + 11) + rmX14_readable.locals ≤ rmX19_readAll.locals := by decide
theorem hroX19_readAll_X19_canRead : rmX19_canRead.frames + 1 ≤ rmX19_readAll.frames ∧ 8 + (1 + 11) + rmX19_canRead.locals ≤ rmX19_readAll.locals := by decide
theorem hroX19_readAll_X19_endAt : rmX19_endAt.frames + 1 ≤ rmX19_readAll.frames ∧ 8 + (3 + 11) + rmX19_endAt.locals ≤ rmX19_readAll.locals := by decide
theorem hroX19_readAll_X19_fails : rmX19_fails.frames + 1 ≤ rmX19_readAll.frames ∧ 8 + (3 + 11) + rmX19_fails.locals ≤ rmX19_readAll.locals := by decide
theorem hroX19_readAll_X19_isDoor : rmX19_isDoor.frames + 1 ≤ rmX19_readAll.frames ∧ 8 + (3 + 11) + rmX19_isDoor.locals ≤ rmX19_readAll.locals := by decide
theorem hroX19_readAll_X19_read : rmX19_read.frames + 1 ≤ rmX19_readAll.frames ∧ 8 + (4 + 11) + rmX19_read.locals ≤ rmX19_readAll.locals := by decide
section SX19_readAll
variable {p : Program} {l : Launch} {e : Env} {s : State} {m : MethodId} {args : Array Value} {below : List Frame} {meth : Method} {c : Code} {Q : State → Prop} {D : va_G} {cy : Nat → ClassId} {B : Nat → Nat → Nat} {ids : List (Nat × Nat)} {A : Nat → Prop}
def fX19_readAll_62b (N : Nat) (K62 : Nat → Int32 → Option Nat → Int32 → Int32 → St → Option (Int32 × St)) (x0 : Nat) (x3 : Int32) (x4 : Option Nat) (x5 : Int32) (x6 : Int32) (z : St) : Option (Int32 × St) := if x3 ≤ x6 then (some (x5, z)) else (zd x4 fun a2 => zc (fX14_readable N a2 z) fun r3 z4 => if r3 ≤ 0 then (some (x5, z4)) else (zc (fX19_read N x0 a2 z4) fun r8 z9 => zl (((31 : Int32) * x5) + r8) fun v12 => zl (x6 + 1) fun v13 => K62 x0 x3 (some a2) v12 v13 z9))
def fX19_readAll_62 (N : Nat)  : Nat → Nat → Int32 → Option Nat → Int32 → Int32 → St → Option (Int32 × St)
  | 0 => fun _ _ _ _ _ _ => none
  | n + 1 => fX19_readAll_62b N (fX19_readAll_62 N  n)
set_option maxHeartbeats 4000000 in
set_option maxRecDepth 100000 in
theorem bX19_readAll_62 (hst : zSt B ids) (F : zFx p m c cX19_readAll 7 s args RX19 D cy B ids A) (hA : ∀ q : Nat, s.heap.size ≤ q → A q) {r : Int32} {z' : St} (E : zEnd p l e rmX19_readAll s m args below meth c cX19_readAll D cy B ids A Q (some (.int r)) z' .ireturn True) {N : Nat} {K62 : Nat → Int32 → Option Nat → Int32 → Int32 → St → Option (Int32 × St)} (hK62 : ∀ (x0 : Nat) (x3 : Int32) (x4 : Option Nat) (x5 : Int32) (x6 : Int32) (hx0 : (19, x0) ∈ ids) (hx4 : ∀ t, x4 = some t → (14, t) ∈ ids) {z : St} {H : Heap} {locs : List Loc} {ls : Array Slot} (hr : zRep D cy B ids A s.heap z H locs) (hl : lv_has ls 7 [(0, .ref (B 19 x0)), (3, .int x3), (4, va_rf (Option.map (B 14) x4)), (5, .int x5), (6, .int x6)]), K62 x0 x3 x4 x5 x6 z = some (r, z') → W p l e rmX19_readAll s m args below meth c H locs 0 0 Q (F0 m 62 ls [])) (x0 : Nat) (x3 : Int32) (x4 : Option Nat) (x5 : Int32) (x6 : Int32) (hx0 : (19, x0) ∈ ids) (hx4 : ∀ t, x4 = some t → (14, t) ∈ ids) {z : St} {H : Heap} {locs : List Loc} {ls : Array Slot} (hr : zRep D cy B ids A s.heap z H locs) (hl : lv_has ls 7 [(0, .ref (B 19 x0)), (3, .int x3), (4, va_rf (Option.map (B 14) x4)), (5, .int x5), (6, .int x6)]) (h : fX19_readAll_62b N K62 x0 x3 x4 x5 x6 z = some (r, z')) : W p l e rmX19_readAll s m args below meth c H locs 0 0 Q (F0 m 62 ls []) := by
  unfold fX19_readAll_62b at h
  refine lv_iload F.1 F.2.1 dX19_readAll_62 (lv_at hl 4 rfl) ?_
  refine lv_iload_n F.1 F.2.1 dX19_readAll_64 rfl (lv_at hl 1 rfl) ?_
  refine lv_icmp_ge (tgt := 96) F.1 F.2.1 dX19_readAll_65 (by decide) (fun c1 => ?_) (fun c1 => ?_)
  · replace h := zi_t c1 h
    refine lv_iload F.1 F.2.1 dX19_readAll_96 (lv_at hl 3 rfl) ?_
    obtain ⟨rfl, rfl⟩ := zret h
    exact E _ _ _ _ dX19_readAll_98 trivial hr
  · replace h := zi_f c1 h
    refine zr_aload F.1 F.2.1 dX19_readAll_68 (lv_at hl 2 rfl) ?_
    replace h := zd_some h
    obtain ⟨a2, rfl, h⟩ := h
    replace h := zc_some h
    obtain ⟨r3, z4, hc5, h⟩ := h
    refine zr_calli (zrun_VN (As := []) (rest := []) zn_2728 zq_2712 zs_X14_readable zq_2713 zq_21 hdX14_readable (by decide) (T := TX14) (N := 47) rfl (okX14_readable l D cy B ids hst N a2 (hx4 _ rfl) hr.2.2 hc5) F hr (hx4 _ rfl) hl.1 rfl (by decide) dX19_readAll_70 rfl rfl hroX19_readAll_X14_readable ⟨Nat.zero_le _, Nat.zero_le _⟩) F hA hr (fun H locs hw6 hr => ?_)
    clear hc5
    refine lv_if_le (tgt := 96) F.1 F.2.1 dX19_readAll_73 (by decide) (fun c7 => ?_) (fun c7 => ?_)
    · replace h := zi_t c7 h
      refine lv_iload F.1 F.2.1 dX19_readAll_96 (lv_at hl 3 rfl) ?_
      obtain ⟨rfl, rfl⟩ := zret h
      exact E _ _ _ _ dX19_readAll_98 trivial hr
    · replace h := zi_f c7 h
      refine lv_bipush (v := (31 : Int32)) F.1 F.2.1 dX19_readAll_76 (by decide) ?_
      refine lv_iload F.1 F.2.1 dX19_readAll_78 (lv_at hl 3 rfl) ?_
      refine lv_imul F.1 F.2.1 dX19_readAll_80 ?_
      refine lv_aload_n F.1 F.2.1 dX19_readAll_81 rfl (lv_at hl 0 rfl) ?_
      refine lv_aload F.1 F.2.1 dX19_readAll_82 (lv_at hl 2 rfl) ?_
      replace h := zc_some h
      obtain ⟨r8, z9, hc10, h⟩ := h
      refine zr_calli (zrun_V (As := [.ref (B 14 a2)]) (rest := [.int ((31 : Int32) * x5)]) zq_2978 zq_2980 zs_X19_read zq_2981 zq_4 hdX19_read (by decide) (T := TX19) (N := 32) rfl (okX19_read l D cy B ids hst N x0 hx0 a2 (hx4 _ rfl) hr.2.2 hc10) F hr hx0 hl.1 rfl (Nat.le_of_ble_eq_true rfl) dX19_readAll_84 rfl rfl hroX19_readAll_X19_read ⟨Nat.zero_le _, Nat.zero_le _⟩) F hA hr (fun H locs hw11 hr => ?_)
      clear hc10
      refine lv_iadd F.1 F.2.1 dX19_readAll_87 ?_
      refine lv_topi (fun v12 ev12 => ?_)
      replace h := zl_sub ev12 h
      refine lv_istore (lv' := [(5, .int v12), (0, .ref (B 19 x0)), (3, .int x3), (4, .ref (B 14 a2)), (6, .int x6)]) F.1 F.2.1 dX19_readAll_88 hl (by decide) rfl (fun ls hl => ?_)
      obtain ⟨v13, ev13⟩ : ∃ y : Int32, y = (x6 + 1) := ⟨_, rfl⟩
      replace h := zl_sub ev13 h
      refine lv_iinc (v := v13) (lv' := [(6, .int v13), (5, .int v12), (0, .ref (B 19 x0)), (3, .int x3), (4, .ref (B 14 a2))]) F.1 F.2.1 dX19_readAll_90 hl (k := 4) rfl (by rw [ev13]; rfl) (by decide) rfl (fun ls hl => ?_)
      refine lv_goto (tgt := 62) F.1 F.2.1 dX19_readAll_93 (by decide) ?_
      exact hK62 x0 x3 (some a2) v12 v13 hx0 (zal_s (hx4 _ rfl)) hr (lv_sub hl [2, 3, 4, 1, 0] rfl) h
theorem lX19_readAll_62 (hst : zSt B ids) (F : zFx p m c cX19_readAll 7 s args RX19 D cy B ids A) (hA : ∀ q : Nat, s.heap.size ≤ q → A q) {r : Int32} {z' : St} (E : zEnd p l e rmX19_readAll s m args below meth c cX19_readAll D cy B ids A Q (some (.int r)) z' .ireturn True) {N : Nat}  : ∀ (n : Nat) (x0 : Nat) (x3 : Int32) (x4 : Option Nat) (x5 : Int32) (x6 : Int32) (hx0 : (19, x0) ∈ ids) (hx4 : ∀ t, x4 = some t → (14, t) ∈ ids) {z : St} {H : Heap} {locs : List Loc} {ls : Array Slot} (hr : zRep D cy B ids A s.heap z H locs) (hl : lv_has ls 7 [(0, .ref (B 19 x0)), (3, .int x3), (4, va_rf (Option.map (B 14) x4)), (5, .int x5), (6, .int x6)]), fX19_readAll_62 N  n x0 x3 x4 x5 x6 z = some (r, z') → W p l e rmX19_readAll s m args below meth c H locs 0 0 Q (F0 m 62 ls []) := by
  intro n
  induction n with
  | zero => intro x0 x3 x4 x5 x6 hx0 hx4 z H locs ls hr hl h; cases h
  | succ n ih => intro x0 x3 x4 x5 x6 hx0 hx4 z H locs ls hr hl h; exact bX19_readAll_62 hst F hA E ih x0 x3 x4 x5 x6 hx0 hx4 hr hl h
def fX19_readAll_48 (N : Nat)  (x0 : Nat) (x3 : Int32) (x4 : Option Nat) (s0 : Nat) (s1 : Int32) (s2 : Int32) (z : St) : Option (Int32 × St) := zc (fX19_fails N s0 s1 s2 z) fun r1 z2 => if r1 = 0 then (fX19_readAll_62 N N x0 x3 x4 (1 : Int32) (0 : Int32) z2) else (some ((0 : Int32), z2))
set_option maxHeartbeats 4000000 in
set_option maxRecDepth 100000 in
theorem bX19_readAll_48 (hst : zSt B ids) (F : zFx p m c cX19_readAll 7 s args RX19 D cy B ids A) (hA : ∀ q : Nat, s.heap.size ≤ q → A q) {r : Int32} {z' : St} (E : zEnd p l e rmX19_readAll s m args below meth c cX19_readAll D cy B ids A Q (some (.int r)) z' .ireturn True) {N : Nat}  (x0 : Nat) (x3 : Int32) (x4 : Option Nat) (s0 : Nat) (s1 : Int32) (s2 : Int32) (hx0 : (19, x0) ∈ ids) (hx4 : ∀ t, x4 = some t → (14, t) ∈ ids) (hs0 : (19, s0) ∈ ids) {z : St} {H : Heap} {locs : List Loc} {ls : Array Slot} (hr : zRep D cy B ids A s.heap z H locs) (hl : lv_has ls 7 [(0, .ref (B 19 x0)), (3, .int x3), (4, va_rf (Option.map (B 14) x4))]) (h : fX19_readAll_48 N x0 x3 x4 s0 s1 s2 z = some (r, z')) : W p l e rmX19_readAll s m args below meth c H locs 0 0 Q (F0 m 48 ls [.int s2, .int s1, .ref (B 19 s0)]) := by
  unfold fX19_readAll_48 at h
  replace h := zc_some h
  obtain ⟨r1, z2, hc3, h⟩ := h
  refine zr_calli (zrun_V (As := [.int s1, .int s2]) (rest := []) zq_2402 zq_2404 zs_X19_fails zq_2405 zq_4 hdX19_fails (by decide) (T := TX19) (N := 32) rfl (okX19_fails l D cy B ids hst N s0 hs0 s1  s2  hr.2.2 hc3) F hr hs0 hl.1 rfl (by decide) dX19_readAll_48 rfl rfl hroX19_readAll_X19_fails ⟨Nat.zero_le _, Nat.zero_le _⟩) F hA hr (fun H locs hw4 hr => ?_)
  clear hc3
  refine lv_if_eq (tgt := 56) F.1 F.2.1 dX19_readAll_51 (by decide) (fun c5 => ?_) (fun c5 => ?_)
  · replace h := zi_t c5 h
    refine lv_iconst (v := (1 : Int32)) F.1 F.2.1 dX19_readAll_56 (by decide) ?_
    refine lv_istore (lv' := [(5, .int (1 : Int32)), (0, .ref (B 19 x0)), (3, .int x3), (4, va_rf (Option.map (B 14) x4))]) F.1 F.2.1 dX19_readAll_57 hl (by decide) (by simp only [List.filter, zrf_cat]; rfl) (fun ls hl => ?_)
    refine lv_iconst (v := (0 : Int32)) F.1 F.2.1 dX19_readAll_59 (by decide) ?_
    refine lv_istore (lv' := [(6, .int (0 : Int32)), (5, .int (1 : Int32)), (0, .ref (B 19 x0)), (3, .int x3), (4, va_rf (Option.map (B 14) x4))]) F.1 F.2.1 dX19_readAll_60 hl (by decide) rfl (fun ls hl => ?_)
    exact lX19_readAll_62 hst F hA E  _ x0 x3 x4 (1 : Int32) (0 : Int32) hx0 hx4 hr (lv_sub hl [2, 3, 4, 1, 0] rfl) h
  · replace h := zi_f c5 h
    refine lv_iconst (v := (0 : Int32)) F.1 F.2.1 dX19_readAll_54 (by decide) ?_
    obtain ⟨rfl, rfl⟩ := zret h
    exact E _ _ _ _ dX19_readAll_55 trivial hr
def fX19_readAll_35 (N : Nat)  (x0 : Nat) (x3 : Int32) (x4 : Option Nat) (s0 : Nat) (s1 : Int32) (z : St) : Option (Int32 × St) := zc (fX19_canRead N x4 z) fun r1 z2 => if ¬ r1 = 0 then (fX19_readAll_48 N x0 x3 x4 s0 s1 (0 : Int32) z2) else (fX19_readAll_48 N x0 x3 x4 s0 s1 (1 : Int32) z2)
set_option maxHeartbeats 4000000 in
set_option maxRecDepth 100000 in
theorem bX19_readAll_35 (hst : zSt B ids) (F : zFx p m c cX19_readAll 7 s args RX19 D cy B ids A) (hA : ∀ q : Nat, s.heap.size ≤ q → A q) {r : Int32} {z' : St} (E : zEnd p l e rmX19_readAll s m args below meth c cX19_readAll D cy B ids A Q (some (.int r)) z' .ireturn True) {N : Nat}  (x0 : Nat) (x3 : Int32) (x4 : Option Nat) (s0 : Nat) (s1 : Int32) (hx0 : (19, x0) ∈ ids) (hx4 : ∀ t, x4 = some t → (14, t) ∈ ids) (hs0 : (19, s0) ∈ ids) {z : St} {H : Heap} {locs : List Loc} {ls : Array Slot} (hr : zRep D cy B ids A s.heap z H locs) (hl : lv_has ls 7 [(0, .ref (B 19 x0)), (3, .int x3), (4, va_rf (Option.map (B 14) x4))]) (h : fX19_readAll_35 N x0 x3 x4 s0 s1 z = some (r, z')) : W p l e rmX19_readAll s m args below meth c H locs 0 0 Q (F0 m 35 ls [.int s1, .ref (B 19 s0)]) := by
  unfold fX19_readAll_35 at h
  refine zr_aload F.1 F.2.1 dX19_readAll_35 (lv_at hl 2 rfl) ?_
  replace h := zc_some h
  obtain ⟨r1, z2, hc3, h⟩ := h
  refine zr_calli (zrun_S (As := [va_rf (Option.map (B 14) x4)]) (rest := [.int s1, .ref (B 19 s0)]) zq_3049 zq_3050 zq_3051 zq_4 hdX19_canRead (okX19_canRead l D cy B ids hst N x4 hx4 hr.2.2 hc3) F hr hl.1 rfl (Nat.le_of_ble_eq_true rfl) dX19_readAll_37 rfl rfl hroX19_readAll_X19_canRead ⟨Nat.zero_le _, Nat.zero_le _⟩) F hA hr (fun H locs hw4 hr => ?_)
  clear hc3
  refine lv_if_ne (tgt := 47) F.1 F.2.1 dX19_readAll_40 (by decide) (fun c5 => ?_) (fun c5 => ?_)
  · replace h := zi_t c5 h
    refine lv_iconst (v := (0 : Int32)) F.1 F.2.1 dX19_readAll_47 (by decide) ?_
    exact bX19_readAll_48 hst F hA E  x0 x3 x4 s0 s1 (0 : Int32) hx0 hx4 hs0 hr (lv_sub hl [0, 1, 2] rfl) h
  · replace h := zi_f (fun q => q c5) h
    refine lv_iconst (v := (1 : Int32)) F.1 F.2.1 dX19_readAll_43 (by decide) ?_
    refine lv_goto (tgt := 48) F.1 F.2.1 dX19_readAll_44 (by decide) ?_
    exact bX19_readAll_48 hst F hA E  x0 x3 x4 s0 s1 (1 : Int32) hx0 hx4 hs0 hr (lv_sub hl [0, 1, 2] rfl) h
def fX19_readAll_30 (N : Nat)  (x0 : Nat) (x3 : Int32) (x4 : Option Nat) (s0 : Nat) (z : St) : Option (Int32 × St) := fX19_readAll_35 N x0 x3 x4 s0 (1 : Int32) z
set_option maxHeartbeats 4000000 in
set_option maxRecDepth 100000 in
theorem bX19_readAll_30 (hst : zSt B ids) (F : zFx p m c cX19_readAll 7 s args RX19 D cy B ids A) (hA : ∀ q : Nat, s.heap.size ≤ q → A q) {r : Int32} {z' : St} (E : zEnd p l e rmX19_readAll s m args below meth c cX19_readAll D cy B ids A Q (some (.int r)) z' .ireturn True) {N : Nat}  (x0 : Nat) (x3 : Int32) (x4 : Option Nat) (s0 : Nat) (hx0 : (19, x0) ∈ ids) (hx4 : ∀ t, x4 = some t → (14, t) ∈ ids) (hs0 : (19, s0) ∈ ids) {z : St} {H : Heap} {locs : List Loc} {ls : Array Slot} (hr : zRep D cy B ids A s.heap z H locs) (hl : lv_has ls 7 [(0, .ref (B 19 x0)), (3, .int x3), (4, va_rf (Option.map (B 14) x4))]) (h : fX19_readAll_30 N x0 x3 x4 s0 z = some (r, z')) : W p l e rmX19_readAll s m args below meth c H locs 0 0 Q (F0 m 30 ls [.ref (B 19 s0)]) := by
  unfold fX19_readAll_30 at h
  refine lv_iconst (v := (1 : Int32)) F.1 F.2.1 dX19_readAll_30 (by decide) ?_
  refine lv_goto (tgt := 35) F.1 F.2.1 dX19_readAll_31 (by decide) ?_
  exact bX19_readAll_35 hst F hA E  x0 x3 x4 s0 (1 : Int32) hx0 hx4 hs0 hr (lv_sub hl [0, 1, 2] rfl) h
def fX19_readAll (N : Nat)  (x0 : Nat) (x1 : Int32) (x2 : Int32) (x3 : Int32) (z : St) : Option (Int32 × St) := zc (fX19_endAt N x0 x1 x2 z) fun r1 z2 => zc (fX19_isDoor N x0 x1 x2 z2) fun r5 z6 => if r5 = 0 then (fX19_readAll_30 N x0 x3 r1 x0 z6) else (if x3 < (1 : Int32) then (fX19_readAll_30 N x0 x3 r1 x0 z6) else (if x3 ≤ (2048 : Int32) then (fX19_readAll_35 N x0 x3 r1 x0 (0 : Int32) z6) else (fX19_readAll_30 N x0 x3 r1 x0 z6)))
set_option maxHeartbeats 4000000 in
set_option maxRecDepth 100000 in
theorem bX19_readAll_0 (hst : zSt B ids) (F : zFx p m c cX19_readAll 7 s args RX19 D cy B ids A) (hA : ∀ q : Nat, s.heap.size ≤ q → A q) {r : Int32} {z' : St} (E : zEnd p l e rmX19_readAll s m args below meth c cX19_readAll D cy B ids A Q (some (.int r)) z' .ireturn True) {N : Nat}  (x0 : Nat) (x1 : Int32) (x2 : Int32) (x3 : Int32) (hx0 : (19, x0) ∈ ids) {z : St} {H : Heap} {locs : List Loc} {ls : Array Slot} (hr : zRep D cy B ids A s.heap z H locs) (hl : lv_has ls 7 [(0, .ref (B 19 x0)), (1, .int x1), (2, .int x2), (3, .int x3)]) (h : fX19_readAll N x0 x1 x2 x3 z = some (r, z')) : W p l e rmX19_readAll s m args below meth c H locs 0 0 Q (F0 m 0 ls []) := by
  unfold fX19_readAll at h
  refine lv_aload_n F.1 F.2.1 dX19_readAll_0 rfl (lv_at hl 0 rfl) ?_
  refine lv_iload_n F.1 F.2.1 dX19_readAll_1 rfl (lv_at hl 1 rfl) ?_
  refine lv_iload_n F.1 F.2.1 dX19_readAll_2 rfl (lv_at hl 2 rfl) ?_
  replace h := zc_some h
  obtain ⟨r1, z2, hc3, h⟩ := h
  refine zr_callr (zrun_V (As := [.int x1, .int x2]) (rest := []) zq_3020 zq_3022 zs_X19_endAt zq_3023 zq_4 hdX19_endAt (by decide) (T := TX19) (N := 32) rfl (okX19_endAt l D cy B ids hst N x0 hx0 x1  x2  hr.2.2 hc3) F hr hx0 hl.1 rfl (by decide) dX19_readAll_3 rfl rfl hroX19_readAll_X19_endAt ⟨Nat.zero_le _, Nat.zero_le _⟩) F hA hr (fun H locs hw4 hr => ?_)
  clear hc3
  refine zr_astore (lv' := [(4, va_rf (Option.map (B 14) r1)), (0, .ref (B 19 x0)), (1, .int x1), (2, .int x2), (3, .int x3)]) F.1 F.2.1 dX19_readAll_6 hl (by decide) rfl (fun ls hl => ?_)
  refine lv_aload_n F.1 F.2.1 dX19_readAll_8 rfl (lv_at hl 1 rfl) ?_
  refine lv_aload_n F.1 F.2.1 dX19_readAll_9 rfl (lv_at hl 1 rfl) ?_
  refine lv_iload_n F.1 F.2.1 dX19_readAll_10 rfl (lv_at hl 2 rfl) ?_
  refine lv_iload_n F.1 F.2.1 dX19_readAll_11 rfl (lv_at hl 3 rfl) ?_
  replace h := zc_some h
  obtain ⟨r5, z6, hc7, h⟩ := h
  refine zr_calli (zrun_V (As := [.int x1, .int x2]) (rest := [.ref (B 19 x0)]) zq_3012 zq_3014 zs_X19_isDoor zq_3015 zq_4 hdX19_isDoor (by decide) (T := TX19) (N := 32) rfl (okX19_isDoor l D cy B ids hst N x0 hx0 x1  x2  hr.2.2 hc7) F hr hx0 hl.1 rfl (Nat.le_of_ble_eq_true rfl) dX19_readAll_12 rfl rfl hroX19_readAll_X19_isDoor ⟨Nat.zero_le _, Nat.zero_le _⟩) F hA hr (fun H locs hw8 hr => ?_)
  clear hc7
  refine lv_if_eq (tgt := 30) F.1 F.2.1 dX19_readAll_15 (by decide) (fun c9 => ?_) (fun c9 => ?_)
  · replace h := zi_t c9 h
    exact bX19_readAll_30 hst F hA E  x0 x3 r1 x0 hx0 hw4 hx0 hr (lv_sub hl [1, 4, 0] rfl) h
  · replace h := zi_f c9 h
    refine lv_iload_n F.1 F.2.1 dX19_readAll_18 rfl (lv_at hl 4 rfl) ?_
    refine lv_iconst (v := (1 : Int32)) F.1 F.2.1 dX19_readAll_19 (by decide) ?_
    refine lv_icmp_lt (tgt := 30) F.1 F.2.1 dX19_readAll_20 (by decide) (fun c10 => ?_) (fun c10 => ?_)
    · replace h := zi_t c10 h
      exact bX19_readAll_30 hst F hA E  x0 x3 r1 x0 hx0 hw4 hx0 hr (lv_sub hl [1, 4, 0] rfl) h
    · replace h := zi_f c10 h
      refine lv_iload_n F.1 F.2.1 dX19_readAll_23 rfl (lv_at hl 4 rfl) ?_
      refine lv_sipush (v := (2048 : Int32)) F.1 F.2.1 dX19_readAll_24 (by decide) ?_
      refine lv_icmp_le (tgt := 34) F.1 F.2.1 dX19_readAll_27 (by decide) (fun c11 => ?_) (fun c11 => ?_)
      · replace h := zi_t c11 h
        refine lv_iconst (v := (0 : Int32)) F.1 F.2.1 dX19_readAll_34 (by decide) ?_
        exact bX19_readAll_35 hst F hA E  x0 x3 r1 x0 (0 : Int32) hx0 hw4 hx0 hr (lv_sub hl [1, 4, 0] rfl) h
      · replace h := zi_f c11 h
        exact bX19_readAll_30 hst F hA E  x0 x3 r1 x0 hx0 hw4 hx0 hr (lv_sub hl [1, 4, 0] rfl) h
end SX19_readAll
set_option maxRecDepth 100000 in
theorem okX19_readAll (l : Launch) (D : va_G) (cy : Nat → ClassId) (B : Nat → Nat → Nat) (ids : List (Nat × Nat)) (hst : zSt B ids) (N : Nat) (x0 : Nat) (hx0 : (19, x0) ∈ ids) (x1 : Int32) (x2 : Int32) (x3 : Int32) {z : St} {r : Int32} {z' : St} (hW : zWf ids z) (h : fX19_readAll N x0 x1 x2 x3 z = some (r, z')) : zM l yX19_readAll (zws yX19_readAll cX19_readAll 7 (some .int)) rmX19_readAll D cy B ids [.ref (B 19 x0), .int x1, .int x2, .int x3] (some (.int r)) True z z' :=
  zM_of hst hW (by decide +kernel) (Nat.le_of_ble_eq_true rfl) (fun p e s m args below meth c A ls F hA hret hlocks hr hl => bX19_readAll_0 hst F hA (zEnd_i F hret hlocks) x0 x1 x2 x3 hx0 hr hl h)
abbrev rmX19_close : Room := { frames := 4, cells := 0, slots := 0, locals := 86 }
theorem hdX19_close : yX19_close.cls ≠ "java/lang/invoke/MethodHandle" ∧ yX19_close.cls ≠ "java/lang/invoke/VarHandle" ∧ (parseMethodDescriptor yX19_close.desc).map (fun d => d.parameters.length) = some 2 := by decide +kernel
theorem hroX19_close_X14_abort : rmX14_abort.frames + 1 ≤ rmX19_close.frames ∧ 8 + (3 + 11) + rmX14_abort.locals ≤ rmX19_close.locals := by decide
theorem hroX19_close_X14_close : rmX14_close.frames + 1 ≤ rmX19_close.frames ∧ 8 + (2 + 11) + rmX14_close.locals ≤ rmX19_close.locals := by decide
theorem hroX19_close_X14_isDead : rmX14_isDead.frames + 1 ≤ rmX19_close.frames ∧ 8 + (1 + 11) + rmX14_isDead.locals ≤ rmX19_close.locals := by decide
theorem hroX19_close_X14_persist : rmX14_persist.frames + 1 ≤ rmX19_close.frames ∧ 8 + (2 + 11) + rmX14_persist.locals ≤ rmX19_close.locals := by decide
theorem hroX19_close_X19_endAt : rmX19_endAt.frames + 1 ≤ rmX19_close.frames ∧ 8 + (3 + 11) + rmX19_endAt.locals ≤ rmX19_close.locals := by decide
theorem hroX19_close_X19_fails : rmX19_fails.frames + 1 ≤ rmX19_close.frames ∧ 8 + (3 + 11) + rmX19_fails.locals ≤ rmX19_close.locals := by decide
theorem hroX19_close_X19_isDoor : rmX19_isDoor.frames + 1 ≤ rmX19_close.frames ∧ 8 + (3 + 11) + rmX19_isDoor.locals ≤ rmX19_close.locals := by decide
theorem hroX19_close_X19_stir : rmX19_stir.frames + 1 ≤ rmX19_close.frames ∧ 8 + (1 + 11) + rmX19_stir.locals ≤ rmX19_close.locals := by decide
theorem hroX19_close_X19_takeEnd : rmX19_takeEnd.frames + 1 ≤ rmX19_close.frames ∧ 8 + (2 + 11) + rmX19_takeEnd.locals ≤ rmX19_close.locals := by decide
section SX19_close
variable {p : Program} {l : Launch} {e : Env} {s : State} {m : MethodId} {args : Array Value} {below : List Frame} {meth : Method} {c : Code} {Q : State → Prop} {D : va_G} {cy : Nat → ClassId} {B : Nat → Nat → Nat} {ids : List (Nat × Nat)} {A : Nat → Prop}
def fX19_close_201 (N : Nat) (K126 : Nat → Int32 → Int32 → Int32 → St → Option (Int32 × St)) (x0 : Nat) (x1 : Int32) (x2 : Int32) (x7 : Int32) (z : St) : Option (Int32 × St) := zl (x7 + 1) fun v1 => K126 x0 x1 x2 v1 z
set_option maxHeartbeats 4000000 in
set_option maxRecDepth 100000 in
theorem bX19_close_201 (hst : zSt B ids) (F : zFx p m c cX19_close 9 s args RX19 D cy B ids A) (hA : ∀ q : Nat, s.heap.size ≤ q → A q) {r : Int32} {z' : St} (E : zEnd p l e rmX19_close s m args below meth c cX19_close D cy B ids A Q none z' .return_ True) {N : Nat} {K126 : Nat → Int32 → Int32 → Int32 → St → Option (Int32 × St)} (hK126 : ∀ (x0 : Nat) (x1 : Int32) (x2 : Int32) (x7 : Int32) (hx0 : (19, x0) ∈ ids) {z : St} {H : Heap} {locs : List Loc} {ls : Array Slot} (hr : zRep D cy B ids A s.heap z H locs) (hl : lv_has ls 9 [(0, .ref (B 19 x0)), (1, .int x1), (2, .int x2), (7, .int x7)]), K126 x0 x1 x2 x7 z = some (r, z') → W p l e rmX19_close s m args below meth c H locs 0 0 Q (F0 m 126 ls [])) (x0 : Nat) (x1 : Int32) (x2 : Int32) (x7 : Int32) (hx0 : (19, x0) ∈ ids) {z : St} {H : Heap} {locs : List Loc} {ls : Array Slot} (hr : zRep D cy B ids A s.heap z H locs) (hl : lv_has ls 9 [(0, .ref (B 19 x0)), (1, .int x1), (2, .int x2), (7, .int x7)]) (h : fX19_close_201 N K126 x0 x1 x2 x7 z = some (r, z')) : W p l e rmX19_close s m args below meth c H locs 0 0 Q (F0 m 201 ls []) := by
  unfold fX19_close_201 at h
  obtain ⟨v1, ev1⟩ : ∃ y : Int32, y = (x7 + 1) := ⟨_, rfl⟩
  replace h := zl_sub ev1 h
  refine lv_iinc (v := v1) (lv' := [(7, .int v1), (0, .ref (B 19 x0)), (1, .int x1), (2, .int x2)]) F.1 F.2.1 dX19_close_201 hl (k := 3) rfl (by rw [ev1]; rfl) (by decide) rfl (fun ls hl => ?_)
  refine lv_goto (tgt := 126) F.1 F.2.1 dX19_close_204 (by decide) ?_
  exact hK126 x0 x1 x2 v1 hx0 hr (lv_sub hl [1, 2, 3, 0] rfl) h
def fX19_close_195 (N : Nat) (K126 : Nat → Int32 → Int32 → Int32 → St → Option (Int32 × St)) (x0 : Nat) (x1 : Int32) (x2 : Int32) (x7 : Int32) (x8 : Nat) (z : St) : Option (Int32 × St) := zl (zsI z 13 5 x8 (-1 : Int32)) fun z1 => fX19_close_201 N K126 x0 x1 x2 x7 z1
set_option maxHeartbeats 4000000 in
set_option maxRecDepth 100000 in
theorem bX19_close_195 (hst : zSt B ids) (F : zFx p m c cX19_close 9 s args RX19 D cy B ids A) (hA : ∀ q : Nat, s.heap.size ≤ q → A q) {r : Int32} {z' : St} (E : zEnd p l e rmX19_close s m args below meth c cX19_close D cy B ids A Q none z' .return_ True) {N : Nat} {K126 : Nat → Int32 → Int32 → Int32 → St → Option (Int32 × St)} (hK126 : ∀ (x0 : Nat) (x1 : Int32) (x2 : Int32) (x7 : Int32) (hx0 : (19, x0) ∈ ids) {z : St} {H : Heap} {locs : List Loc} {ls : Array Slot} (hr : zRep D cy B ids A s.heap z H locs) (hl : lv_has ls 9 [(0, .ref (B 19 x0)), (1, .int x1), (2, .int x2), (7, .int x7)]), K126 x0 x1 x2 x7 z = some (r, z') → W p l e rmX19_close s m args below meth c H locs 0 0 Q (F0 m 126 ls [])) (x0 : Nat) (x1 : Int32) (x2 : Int32) (x7 : Int32) (x8 : Nat) (hx0 : (19, x0) ∈ ids) (hx8 : (13, x8) ∈ ids) {z : St} {H : Heap} {locs : List Loc} {ls : Array Slot} (hr : zRep D cy B ids A s.heap z H locs) (hl : lv_has ls 9 [(0, .ref (B 19 x0)), (1, .int x1), (2, .int x2), (7, .int x7), (8, .ref (B 13 x8))]) (h : fX19_close_195 N K126 x0 x1 x2 x7 x8 z = some (r, z')) : W p l e rmX19_close s m args below meth c H locs 0 0 Q (F0 m 195 ls []) := by
  unfold fX19_close_195 at h
  refine lv_aload F.1 F.2.1 dX19_close_195 (lv_at hl 4 rfl) ?_
  refine lv_iconst (v := (-1 : Int32)) F.1 F.2.1 dX19_close_197 (by decide) ?_
  refine pf19_761 F hx8 hr dX19_close_198 (-1 : Int32) (fun H locs z1 ez1 hr => ?_)
  replace h := zl_sub ez1 h
  clear ez1
  exact bX19_close_201 hst F hA E hK126 x0 x1 x2 x7 hx0 hr (lv_sub hl [0, 1, 2, 3] rfl) h
def fX19_close_126b (N : Nat) (K126 : Nat → Int32 → Int32 → Int32 → St → Option (Int32 × St)) (x0 : Nat) (x1 : Int32) (x2 : Int32) (x7 : Int32) (z : St) : Option (Int32 × St) := if (6 : Int32) ≤ x7 then (some (0, z)) else (zk x1 16 <| zl (zgQ z 186 x0 (Int32.toNatClampNeg x1)) fun y3 => zd y3 fun a4 => zk x7 6 <| zl (zgQ z 158 a4 (Int32.toNatClampNeg x7)) fun y6 => zd y6 fun a7 => if (zgI z 13 3 a7) = 0 then (fX19_close_201 N K126 x0 x1 x2 x7 z) else (if ¬ (zgI z 13 5 a7) = x2 then (fX19_close_201 N K126 x0 x1 x2 x7 z) else (if ¬ (zgI z 13 7 a7) = 0 then (fX19_close_195 N K126 x0 x1 x2 x7 a7 z) else (zl (zgR z 13 4 a7) fun y11 => zd y11 fun a12 => zc (fX14_isDead N a12 z) fun r13 z14 => if ¬ r13 = 0 then (fX19_close_195 N K126 x0 x1 x2 x7 a7 z14) else (zl (zgR z14 13 4 a7) fun y18 => zd y18 fun a19 => zc (fX14_abort N a19 (zgI z14 19 24 x0) z14) fun _ z21 => fX19_close_195 N K126 x0 x1 x2 x7 a7 z21)))))
def fX19_close_126 (N : Nat)  : Nat → Nat → Int32 → Int32 → Int32 → St → Option (Int32 × St)
  | 0 => fun _ _ _ _ _ => none
  | n + 1 => fX19_close_126b N (fX19_close_126 N  n)
set_option maxHeartbeats 4000000 in
set_option maxRecDepth 100000 in
theorem bX19_close_126 (hst : zSt B ids) (F : zFx p m c cX19_close 9 s args RX19 D cy B ids A) (hA : ∀ q : Nat, s.heap.size ≤ q → A q) {r : Int32} {z' : St} (E : zEnd p l e rmX19_close s m args below meth c cX19_close D cy B ids A Q none z' .return_ True) {N : Nat} {K126 : Nat → Int32 → Int32 → Int32 → St → Option (Int32 × St)} (hK126 : ∀ (x0 : Nat) (x1 : Int32) (x2 : Int32) (x7 : Int32) (hx0 : (19, x0) ∈ ids) {z : St} {H : Heap} {locs : List Loc} {ls : Array Slot} (hr : zRep D cy B ids A s.heap z H locs) (hl : lv_has ls 9 [(0, .ref (B 19 x0)), (1, .int x1), (2, .int x2), (7, .int x7)]), K126 x0 x1 x2 x7 z = some (r, z') → W p l e rmX19_close s m args below meth c H locs 0 0 Q (F0 m 126 ls [])) (x0 : Nat) (x1 : Int32) (x2 : Int32) (x7 : Int32) (hx0 : (19, x0) ∈ ids) {z : St} {H : Heap} {locs : List Loc} {ls : Array Slot} (hr : zRep D cy B ids A s.heap z H locs) (hl : lv_has ls 9 [(0, .ref (B 19 x0)), (1, .int x1), (2, .int x2), (7, .int x7)]) (h : fX19_close_126b N K126 x0 x1 x2 x7 z = some (r, z')) : W p l e rmX19_close s m args below meth c H locs 0 0 Q (F0 m 126 ls []) := by
  unfold fX19_close_126b at h
  refine lv_iload F.1 F.2.1 dX19_close_126 (lv_at hl 3 rfl) ?_
  refine lv_bipush (v := (6 : Int32)) F.1 F.2.1 dX19_close_128 (by decide) ?_
  refine lv_icmp_ge (tgt := 207) F.1 F.2.1 dX19_close_130 (by decide) (fun c1 => ?_) (fun c1 => ?_)
  · replace h := zi_t c1 h
    refine lv_goto (tgt := 242) F.1 F.2.1 dX19_close_207 (by decide) ?_
    obtain ⟨rfl, rfl⟩ := zret h
    exact E _ _ _ _ dX19_close_242 trivial hr
  · replace h := zi_f c1 h
    refine lv_aload_n F.1 F.2.1 dX19_close_133 rfl (lv_at hl 0 rfl) ?_
    refine gf19_114 F hx0 hr dX19_close_134 ?_
    refine lv_iload_n F.1 F.2.1 dX19_close_137 rfl (lv_at hl 1 rfl) ?_
    replace h := zk_some h
    obtain ⟨c2, h⟩ := h
    refine zr_aaldv (k := 186) (by decide) rfl rfl (zlen_d (by decide)) F (zal_a F hx0 (j := 18) rfl) hr dX19_close_138 c2 (fun y3 ey3 => ?_)
    replace h := zl_sub ey3 h
    have hy3 := zal_q hr (zal_a F hx0 (j := 18) rfl) rfl ey3
    clear ey3
    replace h := zd_some h
    obtain ⟨a4, rfl, h⟩ := h
    refine gf19_340 F (hy3 _ rfl) hr dX19_close_139 ?_
    refine lv_iload F.1 F.2.1 dX19_close_142 (lv_at hl 3 rfl) ?_
    replace h := zk_some h
    obtain ⟨c5, h⟩ := h
    refine zr_aaldv (k := 158) (by decide) rfl rfl (zlen_d (by decide)) F (zal_a F (hy3 _ rfl) (j := 28) rfl) hr dX19_close_144 c5 (fun y6 ey6 => ?_)
    replace h := zl_sub ey6 h
    have hy6 := zal_q hr (zal_a F (hy3 _ rfl) (j := 28) rfl) rfl ey6
    clear ey6
    refine zr_astore (lv' := [(8, va_rf (Option.map (B 13) y6)), (0, .ref (B 19 x0)), (1, .int x1), (2, .int x2), (7, .int x7)]) F.1 F.2.1 dX19_close_145 hl (by decide) rfl (fun ls hl => ?_)
    refine zr_aload F.1 F.2.1 dX19_close_147 (lv_at hl 0 rfl) ?_
    replace h := zd_some h
    obtain ⟨a7, rfl, h⟩ := h
    refine gf19_350 F (hy6 _ rfl) hr dX19_close_149 ?_
    refine lv_if_eq (tgt := 201) F.1 F.2.1 dX19_close_152 (by decide) (fun c8 => ?_) (fun c8 => ?_)
    · replace h := zi_t c8 h
      exact bX19_close_201 hst F hA E hK126 x0 x1 x2 x7 hx0 hr (lv_sub hl [1, 2, 3, 4] rfl) h
    · replace h := zi_f c8 h
      refine lv_aload F.1 F.2.1 dX19_close_155 (lv_at hl 0 rfl) ?_
      refine gf19_761 F (hy6 _ rfl) hr dX19_close_157 ?_
      refine lv_iload_n F.1 F.2.1 dX19_close_160 rfl (lv_at hl 3 rfl) ?_
      refine lv_icmp_ne (tgt := 201) F.1 F.2.1 dX19_close_161 (by decide) (fun c9 => ?_) (fun c9 => ?_)
      · replace h := zi_t c9 h
        exact bX19_close_201 hst F hA E hK126 x0 x1 x2 x7 hx0 hr (lv_sub hl [1, 2, 3, 4] rfl) h
      · replace h := zi_f (fun q => q c9) h
        refine lv_aload F.1 F.2.1 dX19_close_164 (lv_at hl 0 rfl) ?_
        refine gf19_767 F (hy6 _ rfl) hr dX19_close_166 ?_
        refine lv_if_ne (tgt := 195) F.1 F.2.1 dX19_close_169 (by decide) (fun c10 => ?_) (fun c10 => ?_)
        · replace h := zi_t c10 h
          exact bX19_close_195 hst F hA E hK126 x0 x1 x2 x7 a7 hx0 (hy6 _ rfl) hr (lv_sub hl [1, 2, 3, 4, 0] rfl) h
        · replace h := zi_f (fun q => q c10) h
          refine lv_aload F.1 F.2.1 dX19_close_172 (lv_at hl 0 rfl) ?_
          refine gf19_344 F (hy6 _ rfl) hr dX19_close_174 (fun y11 ey11 => ?_)
          replace h := zl_sub ey11 h
          have hy11 := zal_g hr (hy6 _ rfl) (j := 4) rfl ey11
          clear ey11
          replace h := zd_some h
          obtain ⟨a12, rfl, h⟩ := h
          replace h := zc_some h
          obtain ⟨r13, z14, hc15, h⟩ := h
          refine zr_calli (zrun_VN (As := []) (rest := []) zn_2651 zq_2653 zs_X14_isDead zq_2654 zq_21 hdX14_isDead (by decide) (T := TX14) (N := 47) rfl (okX14_isDead l D cy B ids hst N a12 (hy11 _ rfl) hr.2.2 hc15) F hr (hy11 _ rfl) hl.1 rfl (by decide) dX19_close_177 rfl rfl hroX19_close_X14_isDead ⟨Nat.zero_le _, Nat.zero_le _⟩) F hA hr (fun H locs hw16 hr => ?_)
          clear hc15
          refine lv_if_ne (tgt := 195) F.1 F.2.1 dX19_close_180 (by decide) (fun c17 => ?_) (fun c17 => ?_)
          · replace h := zi_t c17 h
            exact bX19_close_195 hst F hA E hK126 x0 x1 x2 x7 a7 hx0 (hy6 _ rfl) hr (lv_sub hl [1, 2, 3, 4, 0] rfl) h
          · replace h := zi_f (fun q => q c17) h
            refine lv_aload F.1 F.2.1 dX19_close_183 (lv_at hl 0 rfl) ?_
            refine gf19_344 F (hy6 _ rfl) hr dX19_close_185 (fun y18 ey18 => ?_)
            replace h := zl_sub ey18 h
            have hy18 := zal_g hr (hy6 _ rfl) (j := 4) rfl ey18
            clear ey18
            refine lv_aload_n F.1 F.2.1 dX19_close_188 rfl (lv_at hl 1 rfl) ?_
            refine gf19_143 F hx0 hr dX19_close_189 ?_
            replace h := zd_some h
            obtain ⟨a19, rfl, h⟩ := h
            replace h := zc_some h
            obtain ⟨r20, z21, hc22, h⟩ := h
            refine zr_callv (zrun_VN (As := [.int (zgI z14 19 24 x0)]) (rest := []) zn_3060 zq_3062 zs_X14_abort zq_3063 zq_21 hdX14_abort (by decide) (T := TX14) (N := 47) rfl (okX14_abort l D cy B ids hst N a19 (hy18 _ rfl) (zgI z14 19 24 x0)  hr.2.2 hc22) F hr (hy18 _ rfl) hl.1 rfl (by decide) dX19_close_192 rfl rfl hroX19_close_X14_abort ⟨Nat.zero_le _, Nat.zero_le _⟩) F hA hr (fun H locs hw23 hr => ?_)
            clear hc22
            exact bX19_close_195 hst F hA E hK126 x0 x1 x2 x7 a7 hx0 (hy6 _ rfl) hr (lv_sub hl [1, 2, 3, 4, 0] rfl) h
theorem lX19_close_126 (hst : zSt B ids) (F : zFx p m c cX19_close 9 s args RX19 D cy B ids A) (hA : ∀ q : Nat, s.heap.size ≤ q → A q) {r : Int32} {z' : St} (E : zEnd p l e rmX19_close s m args below meth c cX19_close D cy B ids A Q none z' .return_ True) {N : Nat}  : ∀ (n : Nat) (x0 : Nat) (x1 : Int32) (x2 : Int32) (x7 : Int32) (hx0 : (19, x0) ∈ ids) {z : St} {H : Heap} {locs : List Loc} {ls : Array Slot} (hr : zRep D cy B ids A s.heap z H locs) (hl : lv_has ls 9 [(0, .ref (B 19 x0)), (1, .int x1), (2, .int x2), (7, .int x7)]), fX19_close_126 N  n x0 x1 x2 x7 z = some (r, z') → W p l e rmX19_close s m args below meth c H locs 0 0 Q (F0 m 126 ls []) := by
  intro n
  induction n with
  | zero => intro x0 x1 x2 x7 hx0 z H locs ls hr hl h; cases h
  | succ n ih => intro x0 x1 x2 x7 hx0 z H locs ls hr hl h; exact bX19_close_126 hst F hA E ih x0 x1 x2 x7 hx0 hr hl h
def fX19_close_88 (N : Nat)  (x0 : Nat) (x1 : Int32) (x2 : Int32) (x3 : Option Nat) (x5 : Int32) (s0 : Nat) (s1 : Int32) (s2 : Int32) (z : St) : Option (Int32 × St) := zc (fX19_fails N s0 s1 s2 z) fun r1 z2 => if r1 = 0 then (zk x1 16 <| zl (zgQ z2 186 x0 (Int32.toNatClampNeg x1)) fun y7 => zd y7 fun a8 => zk x2 6 <| zl (zgQ z2 158 a8 (Int32.toNatClampNeg x2)) fun y10 => zc (fX19_stir N x0 z2) fun _ z12 => if x5 = 0 then (zd x3 fun a16 => zc (fX14_isDead N a16 z12) fun r17 z18 => if r17 = 0 then (zc (fX14_close N a16 (zgI z18 19 24 x0) z18) fun _ z23 => zc (fX14_persist N a16 (zgI z23 19 24 x0) z23) fun _ z27 => some (0, z27)) else (zd y10 fun a30 => zc (fX19_takeEnd N x0 a30 z18) fun _ z32 => some (0, z32))) else (zd y10 fun a35 => zl (zsI z12 13 0 a35 (0 : Int32)) fun z36 => fX19_close_126 N N x0 x1 x2 (0 : Int32) z36)) else (some (0, z2))
set_option maxHeartbeats 4000000 in
set_option maxRecDepth 100000 in
theorem bX19_close_88 (hst : zSt B ids) (F : zFx p m c cX19_close 9 s args RX19 D cy B ids A) (hA : ∀ q : Nat, s.heap.size ≤ q → A q) {r : Int32} {z' : St} (E : zEnd p l e rmX19_close s m args below meth c cX19_close D cy B ids A Q none z' .return_ True) {N : Nat}  (x0 : Nat) (x1 : Int32) (x2 : Int32) (x3 : Option Nat) (x5 : Int32) (s0 : Nat) (s1 : Int32) (s2 : Int32) (hx0 : (19, x0) ∈ ids) (hx3 : ∀ t, x3 = some t → (14, t) ∈ ids) (hs0 : (19, s0) ∈ ids) {z : St} {H : Heap} {locs : List Loc} {ls : Array Slot} (hr : zRep D cy B ids A s.heap z H locs) (hl : lv_has ls 9 [(0, .ref (B 19 x0)), (1, .int x1), (2, .int x2), (3, va_rf (Option.map (B 14) x3)), (5, .int x5)]) (h : fX19_close_88 N x0 x1 x2 x3 x5 s0 s1 s2 z = some (r, z')) : W p l e rmX19_close s m args below meth c H locs 0 0 Q (F0 m 88 ls [.int s2, .int s1, .ref (B 19 s0)]) := by
  unfold fX19_close_88 at h
  replace h := zc_some h
  obtain ⟨r1, z2, hc3, h⟩ := h
  refine zr_calli (zrun_V (As := [.int s1, .int s2]) (rest := []) zq_2402 zq_2404 zs_X19_fails zq_2405 zq_4 hdX19_fails (by decide) (T := TX19) (N := 32) rfl (okX19_fails l D cy B ids hst N s0 hs0 s1  s2  hr.2.2 hc3) F hr hs0 hl.1 rfl (by decide) dX19_close_88 rfl rfl hroX19_close_X19_fails ⟨Nat.zero_le _, Nat.zero_le _⟩) F hA hr (fun H locs hw4 hr => ?_)
  clear hc3
  refine lv_if_eq (tgt := 95) F.1 F.2.1 dX19_close_91 (by decide) (fun c5 => ?_) (fun c5 => ?_)
  · replace h := zi_t c5 h
    refine lv_aload_n F.1 F.2.1 dX19_close_95 rfl (lv_at hl 0 rfl) ?_
    refine gf19_114 F hx0 hr dX19_close_96 ?_
    refine lv_iload_n F.1 F.2.1 dX19_close_99 rfl (lv_at hl 1 rfl) ?_
    replace h := zk_some h
    obtain ⟨c6, h⟩ := h
    refine zr_aaldv (k := 186) (by decide) rfl rfl (zlen_d (by decide)) F (zal_a F hx0 (j := 18) rfl) hr dX19_close_100 c6 (fun y7 ey7 => ?_)
    replace h := zl_sub ey7 h
    have hy7 := zal_q hr (zal_a F hx0 (j := 18) rfl) rfl ey7
    clear ey7
    replace h := zd_some h
    obtain ⟨a8, rfl, h⟩ := h
    refine gf19_340 F (hy7 _ rfl) hr dX19_close_101 ?_
    refine lv_iload_n F.1 F.2.1 dX19_close_104 rfl (lv_at hl 2 rfl) ?_
    replace h := zk_some h
    obtain ⟨c9, h⟩ := h
    refine zr_aaldv (k := 158) (by decide) rfl rfl (zlen_d (by decide)) F (zal_a F (hy7 _ rfl) (j := 28) rfl) hr dX19_close_105 c9 (fun y10 ey10 => ?_)
    replace h := zl_sub ey10 h
    have hy10 := zal_q hr (zal_a F (hy7 _ rfl) (j := 28) rfl) rfl ey10
    clear ey10
    refine zr_astore (lv' := [(6, va_rf (Option.map (B 13) y10)), (0, .ref (B 19 x0)), (1, .int x1), (2, .int x2), (3, va_rf (Option.map (B 14) x3)), (5, .int x5)]) F.1 F.2.1 dX19_close_106 hl (by decide) rfl (fun ls hl => ?_)
    refine lv_aload_n F.1 F.2.1 dX19_close_108 rfl (lv_at hl 1 rfl) ?_
    replace h := zc_some h
    obtain ⟨r11, z12, hc13, h⟩ := h
    refine zr_callv (zrun_V (As := []) (rest := []) zq_2394 zq_2396 zs_X19_stir zq_2397 zq_4 hdX19_stir (by decide) (T := TX19) (N := 32) rfl (okX19_stir l D cy B ids hst N x0 hx0 hr.2.2 hc13) F hr hx0 hl.1 rfl (by decide) dX19_close_109 rfl rfl hroX19_close_X19_stir ⟨Nat.zero_le _, Nat.zero_le _⟩) F hA hr (fun H locs hw14 hr => ?_)
    clear hc13
    refine lv_iload F.1 F.2.1 dX19_close_112 (lv_at hl 5 rfl) ?_
    refine lv_if_eq (tgt := 210) F.1 F.2.1 dX19_close_114 (by decide) (fun c15 => ?_) (fun c15 => ?_)
    · replace h := zi_t c15 h
      refine zr_aload_n F.1 F.2.1 dX19_close_210 rfl (lv_at hl 4 rfl) ?_
      replace h := zd_some h
      obtain ⟨a16, rfl, h⟩ := h
      replace h := zc_some h
      obtain ⟨r17, z18, hc19, h⟩ := h
      refine zr_calli (zrun_VN (As := []) (rest := []) zn_2651 zq_2653 zs_X14_isDead zq_2654 zq_21 hdX14_isDead (by decide) (T := TX14) (N := 47) rfl (okX14_isDead l D cy B ids hst N a16 (hx3 _ rfl) hr.2.2 hc19) F hr (hx3 _ rfl) hl.1 rfl (by decide) dX19_close_211 rfl rfl hroX19_close_X14_isDead ⟨Nat.zero_le _, Nat.zero_le _⟩) F hA hr (fun H locs hw20 hr => ?_)
      clear hc19
      refine lv_if_eq (tgt := 226) F.1 F.2.1 dX19_close_214 (by decide) (fun c21 => ?_) (fun c21 => ?_)
      · replace h := zi_t c21 h
        refine lv_aload_n F.1 F.2.1 dX19_close_226 rfl (lv_at hl 4 rfl) ?_
        refine lv_aload_n F.1 F.2.1 dX19_close_227 rfl (lv_at hl 1 rfl) ?_
        refine gf19_143 F hx0 hr dX19_close_228 ?_
        replace h := zc_some h
        obtain ⟨r22, z23, hc24, h⟩ := h
        refine zr_callv (zrun_VN (As := [.int (zgI z18 19 24 x0)]) (rest := []) zn_3065 zq_3067 zs_X14_close zq_3068 zq_21 hdX14_close (by decide) (T := TX14) (N := 47) rfl (okX14_close l D cy B ids hst N a16 (hx3 _ rfl) (zgI z18 19 24 x0)  hr.2.2 hc24) F hr (hx3 _ rfl) hl.1 rfl (by decide) dX19_close_231 rfl rfl hroX19_close_X14_close ⟨Nat.zero_le _, Nat.zero_le _⟩) F hA hr (fun H locs hw25 hr => ?_)
        clear hc24
        refine lv_aload_n F.1 F.2.1 dX19_close_234 rfl (lv_at hl 4 rfl) ?_
        refine lv_aload_n F.1 F.2.1 dX19_close_235 rfl (lv_at hl 1 rfl) ?_
        refine gf19_143 F hx0 hr dX19_close_236 ?_
        replace h := zc_some h
        obtain ⟨r26, z27, hc28, h⟩ := h
        refine zr_callv (zrun_VN (As := [.int (zgI z23 19 24 x0)]) (rest := []) zn_2973 zq_2975 zs_X14_persist zq_2976 zq_21 hdX14_persist (by decide) (T := TX14) (N := 47) rfl (okX14_persist l D cy B ids hst N a16 (hx3 _ rfl) (zgI z23 19 24 x0)  hr.2.2 hc28) F hr (hx3 _ rfl) hl.1 rfl (by decide) dX19_close_239 rfl rfl hroX19_close_X14_persist ⟨Nat.zero_le _, Nat.zero_le _⟩) F hA hr (fun H locs hw29 hr => ?_)
        clear hc28
        obtain ⟨rfl, rfl⟩ := zret h
        exact E _ _ _ _ dX19_close_242 trivial hr
      · replace h := zi_f c21 h
        refine lv_aload_n F.1 F.2.1 dX19_close_217 rfl (lv_at hl 1 rfl) ?_
        refine zr_aload F.1 F.2.1 dX19_close_218 (lv_at hl 0 rfl) ?_
        replace h := zd_some h
        obtain ⟨a30, rfl, h⟩ := h
        replace h := zc_some h
        obtain ⟨r31, z32, hc33, h⟩ := h
        refine zr_callv (zrun_V (As := [.ref (B 13 a30)]) (rest := []) zq_2990 zq_2992 zs_X19_takeEnd zq_2993 zq_4 hdX19_takeEnd (by decide) (T := TX19) (N := 32) rfl (okX19_takeEnd l D cy B ids hst N x0 hx0 a30 (hy10 _ rfl) hr.2.2 hc33) F hr hx0 hl.1 rfl (by decide) dX19_close_220 rfl rfl hroX19_close_X19_takeEnd ⟨Nat.zero_le _, Nat.zero_le _⟩) F hA hr (fun H locs hw34 hr => ?_)
        clear hc33
        refine lv_goto (tgt := 242) F.1 F.2.1 dX19_close_223 (by decide) ?_
        obtain ⟨rfl, rfl⟩ := zret h
        exact E _ _ _ _ dX19_close_242 trivial hr
    · replace h := zi_f c15 h
      refine zr_aload F.1 F.2.1 dX19_close_117 (lv_at hl 0 rfl) ?_
      refine lv_iconst (v := (0 : Int32)) F.1 F.2.1 dX19_close_119 (by decide) ?_
      replace h := zd_some h
      obtain ⟨a35, rfl, h⟩ := h
      refine pf19_747 F (hy10 _ rfl) hr dX19_close_120 (0 : Int32) (by decide) (fun H locs z36 ez36 hr => ?_)
      replace h := zl_sub ez36 h
      clear ez36
      refine lv_iconst (v := (0 : Int32)) F.1 F.2.1 dX19_close_123 (by decide) ?_
      refine lv_istore (lv' := [(7, .int (0 : Int32)), (6, .ref (B 13 a35)), (0, .ref (B 19 x0)), (1, .int x1), (2, .int x2), (3, va_rf (Option.map (B 14) x3)), (5, .int x5)]) F.1 F.2.1 dX19_close_124 hl (by decide) rfl (fun ls hl => ?_)
      exact lX19_close_126 hst F hA E  _ x0 x1 x2 (0 : Int32) hx0 hr (lv_sub hl [2, 3, 4, 0] rfl) h
  · replace h := zi_f c5 h
    obtain ⟨rfl, rfl⟩ := zret h
    exact E _ _ _ _ dX19_close_94 trivial hr
def fX19_close_83 (N : Nat)  (x0 : Nat) (x1 : Int32) (x2 : Int32) (x3 : Option Nat) (x5 : Int32) (s0 : Nat) (s1 : Int32) (z : St) : Option (Int32 × St) := fX19_close_88 N x0 x1 x2 x3 x5 s0 s1 (1 : Int32) z
set_option maxHeartbeats 4000000 in
set_option maxRecDepth 100000 in
theorem bX19_close_83 (hst : zSt B ids) (F : zFx p m c cX19_close 9 s args RX19 D cy B ids A) (hA : ∀ q : Nat, s.heap.size ≤ q → A q) {r : Int32} {z' : St} (E : zEnd p l e rmX19_close s m args below meth c cX19_close D cy B ids A Q none z' .return_ True) {N : Nat}  (x0 : Nat) (x1 : Int32) (x2 : Int32) (x3 : Option Nat) (x5 : Int32) (s0 : Nat) (s1 : Int32) (hx0 : (19, x0) ∈ ids) (hx3 : ∀ t, x3 = some t → (14, t) ∈ ids) (hs0 : (19, s0) ∈ ids) {z : St} {H : Heap} {locs : List Loc} {ls : Array Slot} (hr : zRep D cy B ids A s.heap z H locs) (hl : lv_has ls 9 [(0, .ref (B 19 x0)), (1, .int x1), (2, .int x2), (3, va_rf (Option.map (B 14) x3)), (5, .int x5)]) (h : fX19_close_83 N x0 x1 x2 x3 x5 s0 s1 z = some (r, z')) : W p l e rmX19_close s m args below meth c H locs 0 0 Q (F0 m 83 ls [.int s1, .ref (B 19 s0)]) := by
  unfold fX19_close_83 at h
  refine lv_iconst (v := (1 : Int32)) F.1 F.2.1 dX19_close_83 (by decide) ?_
  refine lv_goto (tgt := 88) F.1 F.2.1 dX19_close_84 (by decide) ?_
  exact bX19_close_88 hst F hA E  x0 x1 x2 x3 x5 s0 s1 (1 : Int32) hx0 hx3 hs0 hr (lv_sub hl [0, 1, 2, 3, 4] rfl) h
def fX19_close_87 (N : Nat)  (x0 : Nat) (x1 : Int32) (x2 : Int32) (x3 : Option Nat) (x5 : Int32) (s0 : Nat) (s1 : Int32) (z : St) : Option (Int32 × St) := fX19_close_88 N x0 x1 x2 x3 x5 s0 s1 (0 : Int32) z
set_option maxHeartbeats 4000000 in
set_option maxRecDepth 100000 in
theorem bX19_close_87 (hst : zSt B ids) (F : zFx p m c cX19_close 9 s args RX19 D cy B ids A) (hA : ∀ q : Nat, s.heap.size ≤ q → A q) {r : Int32} {z' : St} (E : zEnd p l e rmX19_close s m args below meth c cX19_close D cy B ids A Q none z' .return_ True) {N : Nat}  (x0 : Nat) (x1 : Int32) (x2 : Int32) (x3 : Option Nat) (x5 : Int32) (s0 : Nat) (s1 : Int32) (hx0 : (19, x0) ∈ ids) (hx3 : ∀ t, x3 = some t → (14, t) ∈ ids) (hs0 : (19, s0) ∈ ids) {z : St} {H : Heap} {locs : List Loc} {ls : Array Slot} (hr : zRep D cy B ids A s.heap z H locs) (hl : lv_has ls 9 [(0, .ref (B 19 x0)), (1, .int x1), (2, .int x2), (3, va_rf (Option.map (B 14) x3)), (5, .int x5)]) (h : fX19_close_87 N x0 x1 x2 x3 x5 s0 s1 z = some (r, z')) : W p l e rmX19_close s m args below meth c H locs 0 0 Q (F0 m 87 ls [.int s1, .ref (B 19 s0)]) := by
  unfold fX19_close_87 at h
  refine lv_iconst (v := (0 : Int32)) F.1 F.2.1 dX19_close_87 (by decide) ?_
  exact bX19_close_88 hst F hA E  x0 x1 x2 x3 x5 s0 s1 (0 : Int32) hx0 hx3 hs0 hr (lv_sub hl [0, 1, 2, 3, 4] rfl) h
def fX19_close_55 (N : Nat)  (x0 : Nat) (x1 : Int32) (x2 : Int32) (x3 : Option Nat) (x4 : Int32) (x5 : Int32) (s0 : Nat) (s1 : Int32) (z : St) : Option (Int32 × St) := if x4 = 0 then (fX19_close_87 N x0 x1 x2 x3 x5 s0 s1 z) else (if ¬ x5 = 0 then (fX19_close_87 N x0 x1 x2 x3 x5 s0 s1 z) else (zo x3 (fX19_close_83 N x0 x1 x2 none x5 s0 s1 z) fun a4 => if (zgI z 14 9 a4) = 0 then (fX19_close_87 N x0 x1 x2 (some a4) x5 s0 s1 z) else (zc (fX14_isDead N a4 z) fun r6 z7 => if ¬ r6 = 0 then (fX19_close_87 N x0 x1 x2 (some a4) x5 s0 s1 z7) else (fX19_close_83 N x0 x1 x2 (some a4) x5 s0 s1 z7))))
set_option maxHeartbeats 4000000 in
set_option maxRecDepth 100000 in
theorem bX19_close_55 (hst : zSt B ids) (F : zFx p m c cX19_close 9 s args RX19 D cy B ids A) (hA : ∀ q : Nat, s.heap.size ≤ q → A q) {r : Int32} {z' : St} (E : zEnd p l e rmX19_close s m args below meth c cX19_close D cy B ids A Q none z' .return_ True) {N : Nat}  (x0 : Nat) (x1 : Int32) (x2 : Int32) (x3 : Option Nat) (x4 : Int32) (x5 : Int32) (s0 : Nat) (s1 : Int32) (hx0 : (19, x0) ∈ ids) (hx3 : ∀ t, x3 = some t → (14, t) ∈ ids) (hs0 : (19, s0) ∈ ids) {z : St} {H : Heap} {locs : List Loc} {ls : Array Slot} (hr : zRep D cy B ids A s.heap z H locs) (hl : lv_has ls 9 [(0, .ref (B 19 x0)), (1, .int x1), (2, .int x2), (3, va_rf (Option.map (B 14) x3)), (4, .int x4), (5, .int x5)]) (h : fX19_close_55 N x0 x1 x2 x3 x4 x5 s0 s1 z = some (r, z')) : W p l e rmX19_close s m args below meth c H locs 0 0 Q (F0 m 55 ls [.int s1, .ref (B 19 s0)]) := by
  unfold fX19_close_55 at h
  refine lv_iload F.1 F.2.1 dX19_close_55 (lv_at hl 4 rfl) ?_
  refine lv_if_eq (tgt := 87) F.1 F.2.1 dX19_close_57 (by decide) (fun c1 => ?_) (fun c1 => ?_)
  · replace h := zi_t c1 h
    exact bX19_close_87 hst F hA E  x0 x1 x2 x3 x5 s0 s1 hx0 hx3 hs0 hr (lv_sub hl [0, 1, 2, 3, 5] rfl) h
  · replace h := zi_f c1 h
    refine lv_iload F.1 F.2.1 dX19_close_60 (lv_at hl 5 rfl) ?_
    refine lv_if_ne (tgt := 87) F.1 F.2.1 dX19_close_62 (by decide) (fun c2 => ?_) (fun c2 => ?_)
    · replace h := zi_t c2 h
      exact bX19_close_87 hst F hA E  x0 x1 x2 x3 x5 s0 s1 hx0 hx3 hs0 hr (lv_sub hl [0, 1, 2, 3, 5] rfl) h
    · replace h := zi_f (fun q => q c2) h
      refine zr_aload_n F.1 F.2.1 dX19_close_65 rfl (lv_at hl 3 rfl) ?_
      refine zr_ifnull (tgt := 83) F.1 F.2.1 dX19_close_66 (by decide) (fun e3 => ?_) (fun a4 e3 => ?_)
      · replace h := zo_n e3 h
        subst e3
        exact bX19_close_83 hst F hA E  x0 x1 x2 none x5 s0 s1 hx0 zal_0 hs0 hr (lv_sub hl [0, 1, 2, 3, 5] rfl) h
      · replace h := zo_s e3 h
        subst e3
        refine lv_aload_n F.1 F.2.1 dX19_close_69 rfl (lv_at hl 3 rfl) ?_
        refine gf19_634 F (hx3 _ rfl) hr dX19_close_70 ?_
        refine lv_if_eq (tgt := 87) F.1 F.2.1 dX19_close_73 (by decide) (fun c5 => ?_) (fun c5 => ?_)
        · replace h := zi_t c5 h
          exact bX19_close_87 hst F hA E  x0 x1 x2 (some a4) x5 s0 s1 hx0 (zal_s (hx3 _ rfl)) hs0 hr (lv_sub hl [0, 1, 2, 3, 5] rfl) h
        · replace h := zi_f c5 h
          refine lv_aload_n F.1 F.2.1 dX19_close_76 rfl (lv_at hl 3 rfl) ?_
          replace h := zc_some h
          obtain ⟨r6, z7, hc8, h⟩ := h
          refine zr_calli (zrun_VN (As := []) (rest := [.int s1, .ref (B 19 s0)]) zn_2651 zq_2653 zs_X14_isDead zq_2654 zq_21 hdX14_isDead (by decide) (T := TX14) (N := 47) rfl (okX14_isDead l D cy B ids hst N a4 (hx3 _ rfl) hr.2.2 hc8) F hr (hx3 _ rfl) hl.1 rfl (Nat.le_of_ble_eq_true rfl) dX19_close_77 rfl rfl hroX19_close_X14_isDead ⟨Nat.zero_le _, Nat.zero_le _⟩) F hA hr (fun H locs hw9 hr => ?_)
          clear hc8
          refine lv_if_ne (tgt := 87) F.1 F.2.1 dX19_close_80 (by decide) (fun c10 => ?_) (fun c10 => ?_)
          · replace h := zi_t c10 h
            exact bX19_close_87 hst F hA E  x0 x1 x2 (some a4) x5 s0 s1 hx0 (zal_s (hx3 _ rfl)) hs0 hr (lv_sub hl [0, 1, 2, 3, 5] rfl) h
          · replace h := zi_f (fun q => q c10) h
            exact bX19_close_83 hst F hA E  x0 x1 x2 (some a4) x5 s0 s1 hx0 (zal_s (hx3 _ rfl)) hs0 hr (lv_sub hl [0, 1, 2, 3, 5] rfl) h
def fX19_close_42 (N : Nat)  (x0 : Nat) (x1 : Int32) (x2 : Int32) (x3 : Option Nat) (x4 : Int32) (s0 : Int32) (z : St) : Option (Int32 × St) := if ¬ x4 = 0 then (fX19_close_55 N x0 x1 x2 x3 x4 s0 x0 (0 : Int32) z) else (fX19_close_55 N x0 x1 x2 x3 x4 s0 x0 (1 : Int32) z)
set_option maxHeartbeats 4000000 in
set_option maxRecDepth 100000 in
theorem bX19_close_42 (hst : zSt B ids) (F : zFx p m c cX19_close 9 s args RX19 D cy B ids A) (hA : ∀ q : Nat, s.heap.size ≤ q → A q) {r : Int32} {z' : St} (E : zEnd p l e rmX19_close s m args below meth c cX19_close D cy B ids A Q none z' .return_ True) {N : Nat}  (x0 : Nat) (x1 : Int32) (x2 : Int32) (x3 : Option Nat) (x4 : Int32) (s0 : Int32) (hx0 : (19, x0) ∈ ids) (hx3 : ∀ t, x3 = some t → (14, t) ∈ ids) {z : St} {H : Heap} {locs : List Loc} {ls : Array Slot} (hr : zRep D cy B ids A s.heap z H locs) (hl : lv_has ls 9 [(0, .ref (B 19 x0)), (1, .int x1), (2, .int x2), (3, va_rf (Option.map (B 14) x3)), (4, .int x4)]) (h : fX19_close_42 N x0 x1 x2 x3 x4 s0 z = some (r, z')) : W p l e rmX19_close s m args below meth c H locs 0 0 Q (F0 m 42 ls [.int s0]) := by
  unfold fX19_close_42 at h
  refine lv_istore (lv' := [(5, .int s0), (0, .ref (B 19 x0)), (1, .int x1), (2, .int x2), (3, va_rf (Option.map (B 14) x3)), (4, .int x4)]) F.1 F.2.1 dX19_close_42 hl (by decide) rfl (fun ls hl => ?_)
  refine lv_aload_n F.1 F.2.1 dX19_close_44 rfl (lv_at hl 1 rfl) ?_
  refine lv_iload F.1 F.2.1 dX19_close_45 (lv_at hl 5 rfl) ?_
  refine lv_if_ne (tgt := 54) F.1 F.2.1 dX19_close_47 (by decide) (fun c1 => ?_) (fun c1 => ?_)
  · replace h := zi_t c1 h
    refine lv_iconst (v := (0 : Int32)) F.1 F.2.1 dX19_close_54 (by decide) ?_
    exact bX19_close_55 hst F hA E  x0 x1 x2 x3 x4 s0 x0 (0 : Int32) hx0 hx3 hx0 hr (lv_sub hl [1, 2, 3, 4, 5, 0] rfl) h
  · replace h := zi_f (fun q => q c1) h
    refine lv_iconst (v := (1 : Int32)) F.1 F.2.1 dX19_close_50 (by decide) ?_
    refine lv_goto (tgt := 55) F.1 F.2.1 dX19_close_51 (by decide) ?_
    exact bX19_close_55 hst F hA E  x0 x1 x2 x3 x4 s0 x0 (1 : Int32) hx0 hx3 hx0 hr (lv_sub hl [1, 2, 3, 4, 5, 0] rfl) h
def fX19_close_41 (N : Nat)  (x0 : Nat) (x1 : Int32) (x2 : Int32) (x3 : Option Nat) (x4 : Int32) (z : St) : Option (Int32 × St) := fX19_close_42 N x0 x1 x2 x3 x4 (0 : Int32) z
set_option maxHeartbeats 4000000 in
set_option maxRecDepth 100000 in
theorem bX19_close_41 (hst : zSt B ids) (F : zFx p m c cX19_close 9 s args RX19 D cy B ids A) (hA : ∀ q : Nat, s.heap.size ≤ q → A q) {r : Int32} {z' : St} (E : zEnd p l e rmX19_close s m args below meth c cX19_close D cy B ids A Q none z' .return_ True) {N : Nat}  (x0 : Nat) (x1 : Int32) (x2 : Int32) (x3 : Option Nat) (x4 : Int32) (hx0 : (19, x0) ∈ ids) (hx3 : ∀ t, x3 = some t → (14, t) ∈ ids) {z : St} {H : Heap} {locs : List Loc} {ls : Array Slot} (hr : zRep D cy B ids A s.heap z H locs) (hl : lv_has ls 9 [(0, .ref (B 19 x0)), (1, .int x1), (2, .int x2), (3, va_rf (Option.map (B 14) x3)), (4, .int x4)]) (h : fX19_close_41 N x0 x1 x2 x3 x4 z = some (r, z')) : W p l e rmX19_close s m args below meth c H locs 0 0 Q (F0 m 41 ls []) := by
  unfold fX19_close_41 at h
  refine lv_iconst (v := (0 : Int32)) F.1 F.2.1 dX19_close_41 (by decide) ?_
  exact bX19_close_42 hst F hA E  x0 x1 x2 x3 x4 (0 : Int32) hx0 hx3 hr (lv_sub hl [0, 1, 2, 3, 4] rfl) h
def fX19_close (N : Nat)  (x0 : Nat) (x1 : Int32) (x2 : Int32) (z : St) : Option (Int32 × St) := zc (fX19_endAt N x0 x1 x2 z) fun r1 z2 => zc (fX19_isDoor N x0 x1 x2 z2) fun r5 z6 => if r5 = 0 then (fX19_close_41 N x0 x1 x2 r1 r5 z6) else (zk x1 16 <| zl (zgQ z6 186 x0 (Int32.toNatClampNeg x1)) fun y11 => zd y11 fun a12 => zk x2 6 <| zl (zgQ z6 158 a12 (Int32.toNatClampNeg x2)) fun y14 => zd y14 fun a15 => if (zgI z6 13 0 a15) = 0 then (fX19_close_41 N x0 x1 x2 r1 r5 z6) else (fX19_close_42 N x0 x1 x2 r1 r5 (1 : Int32) z6))
set_option maxHeartbeats 4000000 in
set_option maxRecDepth 100000 in
theorem bX19_close_0 (hst : zSt B ids) (F : zFx p m c cX19_close 9 s args RX19 D cy B ids A) (hA : ∀ q : Nat, s.heap.size ≤ q → A q) {r : Int32} {z' : St} (E : zEnd p l e rmX19_close s m args below meth c cX19_close D cy B ids A Q none z' .return_ True) {N : Nat}  (x0 : Nat) (x1 : Int32) (x2 : Int32) (hx0 : (19, x0) ∈ ids) {z : St} {H : Heap} {locs : List Loc} {ls : Array Slot} (hr : zRep D cy B ids A s.heap z H locs) (hl : lv_has ls 9 [(0, .ref (B 19 x0)), (1, .int x1), (2, .int x2)]) (h : fX19_close N x0 x1 x2 z = some (r, z')) : W p l e rmX19_close s m args below meth c H locs 0 0 Q (F0 m 0 ls []) := by
  unfold fX19_close at h
  refine lv_aload_n F.1 F.2.1 dX19_close_0 rfl (lv_at hl 0 rfl) ?_
  refine lv_iload_n F.1 F.2.1 dX19_close_1 rfl (lv_at hl 1 rfl) ?_
  refine lv_iload_n F.1 F.2.1 dX19_close_2 rfl (lv_at hl 2 rfl) ?_
  replace h := zc_some h
  obtain ⟨r1, z2, hc3, h⟩ := h
  refine zr_callr (zrun_V (As := [.int x1, .int x2]) (rest := []) zq_3020 zq_3022 zs_X19_endAt zq_3023 zq_4 hdX19_endAt (by decide) (T := TX19) (N := 32) rfl (okX19_endAt l D cy B ids hst N x0 hx0 x1  x2  hr.2.2 hc3) F hr hx0 hl.1 rfl (by decide) dX19_close_3 rfl rfl hroX19_close_X19_endAt ⟨Nat.zero_le _, Nat.zero_le _⟩) F hA hr (fun H locs hw4 hr => ?_)
  clear hc3
  refine zr_astore_n (lv' := [(3, va_rf (Option.map (B 14) r1)), (0, .ref (B 19 x0)), (1, .int x1), (2, .int x2)]) F.1 F.2.1 dX19_close_6 rfl hl (by decide) rfl (fun ls hl => ?_)
  refine lv_aload_n F.1 F.2.1 dX19_close_7 rfl (lv_at hl 1 rfl) ?_
  refine lv_iload_n F.1 F.2.1 dX19_close_8 rfl (lv_at hl 2 rfl) ?_
  refine lv_iload_n F.1 F.2.1 dX19_close_9 rfl (lv_at hl 3 rfl) ?_
  replace h := zc_some h
  obtain ⟨r5, z6, hc7, h⟩ := h
  refine zr_calli (zrun_V (As := [.int x1, .int x2]) (rest := []) zq_3012 zq_3014 zs_X19_isDoor zq_3015 zq_4 hdX19_isDoor (by decide) (T := TX19) (N := 32) rfl (okX19_isDoor l D cy B ids hst N x0 hx0 x1  x2  hr.2.2 hc7) F hr hx0 hl.1 rfl (by decide) dX19_close_10 rfl rfl hroX19_close_X19_isDoor ⟨Nat.zero_le _, Nat.zero_le _⟩) F hA hr (fun H locs hw8 hr => ?_)
  clear hc7
  refine lv_istore (lv' := [(4, .int r5), (3, va_rf (Option.map (B 14) r1)), (0, .ref (B 19 x0)), (1, .int x1), (2, .int x2)]) F.1 F.2.1 dX19_close_13 hl (by decide) (by simp only [List.filter, zrf_cat]; rfl) (fun ls hl => ?_)
  refine lv_iload F.1 F.2.1 dX19_close_15 (lv_at hl 0 rfl) ?_
  refine lv_if_eq (tgt := 41) F.1 F.2.1 dX19_close_17 (by decide) (fun c9 => ?_) (fun c9 => ?_)
  · replace h := zi_t c9 h
    exact bX19_close_41 hst F hA E  x0 x1 x2 r1 r5 hx0 hw4 hr (lv_sub hl [2, 3, 4, 1, 0] rfl) h
  · replace h := zi_f c9 h
    refine lv_aload_n F.1 F.2.1 dX19_close_20 rfl (lv_at hl 2 rfl) ?_
    refine gf19_114 F hx0 hr dX19_close_21 ?_
    refine lv_iload_n F.1 F.2.1 dX19_close_24 rfl (lv_at hl 3 rfl) ?_
    replace h := zk_some h
    obtain ⟨c10, h⟩ := h
    refine zr_aaldv (k := 186) (by decide) rfl rfl (zlen_d (by decide)) F (zal_a F hx0 (j := 18) rfl) hr dX19_close_25 c10 (fun y11 ey11 => ?_)
    replace h := zl_sub ey11 h
    have hy11 := zal_q hr (zal_a F hx0 (j := 18) rfl) rfl ey11
    clear ey11
    replace h := zd_some h
    obtain ⟨a12, rfl, h⟩ := h
    refine gf19_340 F (hy11 _ rfl) hr dX19_close_26 ?_
    refine lv_iload_n F.1 F.2.1 dX19_close_29 rfl (lv_at hl 4 rfl) ?_
    replace h := zk_some h
    obtain ⟨c13, h⟩ := h
    refine zr_aaldv (k := 158) (by decide) rfl rfl (zlen_d (by decide)) F (zal_a F (hy11 _ rfl) (j := 28) rfl) hr dX19_close_30 c13 (fun y14 ey14 => ?_)
    replace h := zl_sub ey14 h
    have hy14 := zal_q hr (zal_a F (hy11 _ rfl) (j := 28) rfl) rfl ey14
    clear ey14
    replace h := zd_some h
    obtain ⟨a15, rfl, h⟩ := h
    refine gf19_747 F (hy14 _ rfl) hr dX19_close_31 ?_
    refine lv_if_eq (tgt := 41) F.1 F.2.1 dX19_close_34 (by decide) (fun c16 => ?_) (fun c16 => ?_)
    · replace h := zi_t c16 h
      exact bX19_close_41 hst F hA E  x0 x1 x2 r1 r5 hx0 hw4 hr (lv_sub hl [2, 3, 4, 1, 0] rfl) h
    · replace h := zi_f c16 h
      refine lv_iconst (v := (1 : Int32)) F.1 F.2.1 dX19_close_37 (by decide) ?_
      refine lv_goto (tgt := 42) F.1 F.2.1 dX19_close_38 (by decide) ?_
      exact bX19_close_42 hst F hA E  x0 x1 x2 r1 r5 (1 : Int32) hx0 hw4 hr (lv_sub hl [2, 3, 4, 1, 0] rfl) h
end SX19_close
set_option maxRecDepth 100000 in
theorem okX19_close (l : Launch) (D : va_G) (cy : Nat → ClassId) (B : Nat → Nat → Nat) (ids : List (Nat × Nat)) (hst : zSt B ids) (N : Nat) (x0 : Nat) (hx0 : (19, x0) ∈ ids) (x1 : Int32) (x2 : Int32) {z : St} {r : Int32} {z' : St} (hW : zWf ids z) (h : fX19_close N x0 x1 x2 z = some (r, z')) : zM l yX19_close (zws yX19_close cX19_close 9 none) rmX19_close D cy B ids [.ref (B 19 x0), .int x1, .int x2] none True z z' :=
  zM_of hst hW (by decide +kernel) (Nat.le_of_ble_eq_true rfl) (fun p e s m args below meth c A ls F hA hret hlocks hr hl => bX19_close_0 hst F hA (zEnd_v F hret hlocks) x0 x1 x2 hx0 hr hl h)
abbrev rmX19_abort : Room := { frames := 4, cells := 0, slots := 0, locals := 86 }
theorem hdX19_abort : yX19_abort.cls ≠ "java/lang/invoke/MethodHandle" ∧ yX19_abort.cls ≠ "java/lang/invoke/VarHandle" ∧ (parseMethodDescriptor yX19_abort.desc).map (fun d => d.parameters.length) = some 2 := by decide +kernel
theorem hroX19_abort_X14_abort : rmX14_abort.frames + 1 ≤ rmX19_abort.frames ∧ 8 + (3 + 11) + rmX14_abort.locals ≤ rmX19_abort.locals := by decide
theorem hroX19_abort_X14_isDead : rmX14_isDead.frames + 1 ≤ rmX19_abort.frames ∧ 8 + (1 + 11) + rmX14_isDead.locals ≤ rmX19_abort.locals := by decide
theorem hroX19_abort_X19_endAt : rmX19_endAt.frames + 1 ≤ rmX19_abort.frames ∧ 8 + (3 + 11) + rmX19_endAt.locals ≤ rmX19_abort.locals := by decide
theorem hroX19_abort_X19_fails : rmX19_fails.frames + 1 ≤ rmX19_abort.frames ∧ 8 + (3 + 11) + rmX19_fails.locals ≤ rmX19_abort.locals := by decide
theorem hroX19_abort_X19_isDoor : rmX19_isDoor.frames + 1 ≤ rmX19_abort.frames ∧ 8 + (3 + 11) + rmX19_isDoor.locals ≤ rmX19_abort.locals := by decide
theorem hroX19_abort_X19_stir : rmX19_stir.frames + 1 ≤ rmX19_abort.frames ∧ 8 + (1 + 11) + rmX19_stir.locals ≤ rmX19_abort.locals := by decide
section SX19_abort
variable {p : Program} {l : Launch} {e : Env} {s : State} {m : MethodId} {args : Array Value} {below : List Frame} {meth : Method} {c : Code} {Q : State → Prop} {D : va_G} {cy : Nat → ClassId} {B : Nat → Nat → Nat} {ids : List (Nat × Nat)} {A : Nat → Prop}
def fX19_abort_38 (N : Nat)  (x0 : Nat) (x3 : Option Nat) (s0 : Nat) (s1 : Int32) (s2 : Int32) (z : St) : Option (Int32 × St) := zc (fX19_fails N s0 s1 s2 z) fun r1 z2 => if ¬ r1 = 0 then (some (0, z2)) else (zd x3 fun a6 => zc (fX14_abort N a6 (zgI z2 19 24 x0) z2) fun _ z8 => zc (fX19_stir N x0 z8) fun _ z12 => some (0, z12))
set_option maxHeartbeats 4000000 in
set_option maxRecDepth 100000 in
theorem bX19_abort_38 (hst : zSt B ids) (F : zFx p m c cX19_abort 4 s args RX19 D cy B ids A) (hA : ∀ q : Nat, s.heap.size ≤ q → A q) {r : Int32} {z' : St} (E : zEnd p l e rmX19_abort s m args below meth c cX19_abort D cy B ids A Q none z' .return_ True) {N : Nat}  (x0 : Nat) (x3 : Option Nat) (s0 : Nat) (s1 : Int32) (s2 : Int32) (hx0 : (19, x0) ∈ ids) (hx3 : ∀ t, x3 = some t → (14, t) ∈ ids) (hs0 : (19, s0) ∈ ids) {z : St} {H : Heap} {locs : List Loc} {ls : Array Slot} (hr : zRep D cy B ids A s.heap z H locs) (hl : lv_has ls 4 [(0, .ref (B 19 x0)), (3, va_rf (Option.map (B 14) x3))]) (h : fX19_abort_38 N x0 x3 s0 s1 s2 z = some (r, z')) : W p l e rmX19_abort s m args below meth c H locs 0 0 Q (F0 m 38 ls [.int s2, .int s1, .ref (B 19 s0)]) := by
  unfold fX19_abort_38 at h
  replace h := zc_some h
  obtain ⟨r1, z2, hc3, h⟩ := h
  refine zr_calli (zrun_V (As := [.int s1, .int s2]) (rest := []) zq_2402 zq_2404 zs_X19_fails zq_2405 zq_4 hdX19_fails (by decide) (T := TX19) (N := 32) rfl (okX19_fails l D cy B ids hst N s0 hs0 s1  s2  hr.2.2 hc3) F hr hs0 hl.1 rfl (by decide) dX19_abort_38 rfl rfl hroX19_abort_X19_fails ⟨Nat.zero_le _, Nat.zero_le _⟩) F hA hr (fun H locs hw4 hr => ?_)
  clear hc3
  refine lv_if_ne (tgt := 56) F.1 F.2.1 dX19_abort_41 (by decide) (fun c5 => ?_) (fun c5 => ?_)
  · replace h := zi_t c5 h
    obtain ⟨rfl, rfl⟩ := zret h
    exact E _ _ _ _ dX19_abort_56 trivial hr
  · replace h := zi_f (fun q => q c5) h
    refine zr_aload_n F.1 F.2.1 dX19_abort_44 rfl (lv_at hl 1 rfl) ?_
    refine lv_aload_n F.1 F.2.1 dX19_abort_45 rfl (lv_at hl 0 rfl) ?_
    refine gf19_143 F hx0 hr dX19_abort_46 ?_
    replace h := zd_some h
    obtain ⟨a6, rfl, h⟩ := h
    replace h := zc_some h
    obtain ⟨r7, z8, hc9, h⟩ := h
    refine zr_callv (zrun_VN (As := [.int (zgI z2 19 24 x0)]) (rest := []) zn_3060 zq_3062 zs_X14_abort zq_3063 zq_21 hdX14_abort (by decide) (T := TX14) (N := 47) rfl (okX14_abort l D cy B ids hst N a6 (hx3 _ rfl) (zgI z2 19 24 x0)  hr.2.2 hc9) F hr (hx3 _ rfl) hl.1 rfl (by decide) dX19_abort_49 rfl rfl hroX19_abort_X14_abort ⟨Nat.zero_le _, Nat.zero_le _⟩) F hA hr (fun H locs hw10 hr => ?_)
    clear hc9
    refine lv_aload_n F.1 F.2.1 dX19_abort_52 rfl (lv_at hl 0 rfl) ?_
    replace h := zc_some h
    obtain ⟨r11, z12, hc13, h⟩ := h
    refine zr_callv (zrun_V (As := []) (rest := []) zq_2394 zq_2396 zs_X19_stir zq_2397 zq_4 hdX19_stir (by decide) (T := TX19) (N := 32) rfl (okX19_stir l D cy B ids hst N x0 hx0 hr.2.2 hc13) F hr hx0 hl.1 rfl (by decide) dX19_abort_53 rfl rfl hroX19_abort_X19_stir ⟨Nat.zero_le _, Nat.zero_le _⟩) F hA hr (fun H locs hw14 hr => ?_)
    clear hc13
    obtain ⟨rfl, rfl⟩ := zret h
    exact E _ _ _ _ dX19_abort_56 trivial hr
def fX19_abort_33 (N : Nat)  (x0 : Nat) (x3 : Option Nat) (s0 : Nat) (s1 : Int32) (z : St) : Option (Int32 × St) := fX19_abort_38 N x0 x3 s0 s1 (1 : Int32) z
set_option maxHeartbeats 4000000 in
set_option maxRecDepth 100000 in
theorem bX19_abort_33 (hst : zSt B ids) (F : zFx p m c cX19_abort 4 s args RX19 D cy B ids A) (hA : ∀ q : Nat, s.heap.size ≤ q → A q) {r : Int32} {z' : St} (E : zEnd p l e rmX19_abort s m args below meth c cX19_abort D cy B ids A Q none z' .return_ True) {N : Nat}  (x0 : Nat) (x3 : Option Nat) (s0 : Nat) (s1 : Int32) (hx0 : (19, x0) ∈ ids) (hx3 : ∀ t, x3 = some t → (14, t) ∈ ids) (hs0 : (19, s0) ∈ ids) {z : St} {H : Heap} {locs : List Loc} {ls : Array Slot} (hr : zRep D cy B ids A s.heap z H locs) (hl : lv_has ls 4 [(0, .ref (B 19 x0)), (3, va_rf (Option.map (B 14) x3))]) (h : fX19_abort_33 N x0 x3 s0 s1 z = some (r, z')) : W p l e rmX19_abort s m args below meth c H locs 0 0 Q (F0 m 33 ls [.int s1, .ref (B 19 s0)]) := by
  unfold fX19_abort_33 at h
  refine lv_iconst (v := (1 : Int32)) F.1 F.2.1 dX19_abort_33 (by decide) ?_
  refine lv_goto (tgt := 38) F.1 F.2.1 dX19_abort_34 (by decide) ?_
  exact bX19_abort_38 hst F hA E  x0 x3 s0 s1 (1 : Int32) hx0 hx3 hs0 hr (lv_sub hl [0, 1] rfl) h
def fX19_abort_22 (N : Nat)  (x0 : Nat) (x3 : Option Nat) (s0 : Nat) (s1 : Int32) (z : St) : Option (Int32 × St) := zo x3 (fX19_abort_33 N x0 none s0 s1 z) fun a2 => zc (fX14_isDead N a2 z) fun r3 z4 => if r3 = 0 then (fX19_abort_38 N x0 (some a2) s0 s1 (0 : Int32) z4) else (fX19_abort_33 N x0 (some a2) s0 s1 z4)
set_option maxHeartbeats 4000000 in
set_option maxRecDepth 100000 in
theorem bX19_abort_22 (hst : zSt B ids) (F : zFx p m c cX19_abort 4 s args RX19 D cy B ids A) (hA : ∀ q : Nat, s.heap.size ≤ q → A q) {r : Int32} {z' : St} (E : zEnd p l e rmX19_abort s m args below meth c cX19_abort D cy B ids A Q none z' .return_ True) {N : Nat}  (x0 : Nat) (x3 : Option Nat) (s0 : Nat) (s1 : Int32) (hx0 : (19, x0) ∈ ids) (hx3 : ∀ t, x3 = some t → (14, t) ∈ ids) (hs0 : (19, s0) ∈ ids) {z : St} {H : Heap} {locs : List Loc} {ls : Array Slot} (hr : zRep D cy B ids A s.heap z H locs) (hl : lv_has ls 4 [(0, .ref (B 19 x0)), (3, va_rf (Option.map (B 14) x3))]) (h : fX19_abort_22 N x0 x3 s0 s1 z = some (r, z')) : W p l e rmX19_abort s m args below meth c H locs 0 0 Q (F0 m 22 ls [.int s1, .ref (B 19 s0)]) := by
  unfold fX19_abort_22 at h
  refine zr_aload_n F.1 F.2.1 dX19_abort_22 rfl (lv_at hl 1 rfl) ?_
  refine zr_ifnull (tgt := 33) F.1 F.2.1 dX19_abort_23 (by decide) (fun e1 => ?_) (fun a2 e1 => ?_)
  · replace h := zo_n e1 h
    subst e1
    exact bX19_abort_33 hst F hA E  x0 none s0 s1 hx0 zal_0 hs0 hr (lv_sub hl [0, 1] rfl) h
  · replace h := zo_s e1 h
    subst e1
    refine lv_aload_n F.1 F.2.1 dX19_abort_26 rfl (lv_at hl 1 rfl) ?_
    replace h := zc_some h
    obtain ⟨r3, z4, hc5, h⟩ := h
    refine zr_calli (zrun_VN (As := []) (rest := [.int s1, .ref (B 19 s0)]) zn_2651 zq_2653 zs_X14_isDead zq_2654 zq_21 hdX14_isDead (by decide) (T := TX14) (N := 47) rfl (okX14_isDead l D cy B ids hst N a2 (hx3 _ rfl) hr.2.2 hc5) F hr (hx3 _ rfl) hl.1 rfl (Nat.le_of_ble_eq_true rfl) dX19_abort_27 rfl rfl hroX19_abort_X14_isDead ⟨Nat.zero_le _, Nat.zero_le _⟩) F hA hr (fun H locs hw6 hr => ?_)
    clear hc5
    refine lv_if_eq (tgt := 37) F.1 F.2.1 dX19_abort_30 (by decide) (fun c7 => ?_) (fun c7 => ?_)
    · replace h := zi_t c7 h
      refine lv_iconst (v := (0 : Int32)) F.1 F.2.1 dX19_abort_37 (by decide) ?_
      exact bX19_abort_38 hst F hA E  x0 (some a2) s0 s1 (0 : Int32) hx0 (zal_s (hx3 _ rfl)) hs0 hr (lv_sub hl [0, 1] rfl) h
    · replace h := zi_f c7 h
      exact bX19_abort_33 hst F hA E  x0 (some a2) s0 s1 hx0 (zal_s (hx3 _ rfl)) hs0 hr (lv_sub hl [0, 1] rfl) h
def fX19_abort (N : Nat)  (x0 : Nat) (x1 : Int32) (x2 : Int32) (z : St) : Option (Int32 × St) := zc (fX19_endAt N x0 x1 x2 z) fun r1 z2 => zc (fX19_isDoor N x0 x1 x2 z2) fun r5 z6 => if ¬ r5 = 0 then (fX19_abort_22 N x0 r1 x0 (0 : Int32) z6) else (fX19_abort_22 N x0 r1 x0 (1 : Int32) z6)
set_option maxHeartbeats 4000000 in
set_option maxRecDepth 100000 in
theorem bX19_abort_0 (hst : zSt B ids) (F : zFx p m c cX19_abort 4 s args RX19 D cy B ids A) (hA : ∀ q : Nat, s.heap.size ≤ q → A q) {r : Int32} {z' : St} (E : zEnd p l e rmX19_abort s m args below meth c cX19_abort D cy B ids A Q none z' .return_ True) {N : Nat}  (x0 : Nat) (x1 : Int32) (x2 : Int32) (hx0 : (19, x0) ∈ ids) {z : St} {H : Heap} {locs : List Loc} {ls : Array Slot} (hr : zRep D cy B ids A s.heap z H locs) (hl : lv_has ls 4 [(0, .ref (B 19 x0)), (1, .int x1), (2, .int x2)]) (h : fX19_abort N x0 x1 x2 z = some (r, z')) : W p l e rmX19_abort s m args below meth c H locs 0 0 Q (F0 m 0 ls []) := by
  unfold fX19_abort at h
  refine lv_aload_n F.1 F.2.1 dX19_abort_0 rfl (lv_at hl 0 rfl) ?_
  refine lv_iload_n F.1 F.2.1 dX19_abort_1 rfl (lv_at hl 1 rfl) ?_
  refine lv_iload_n F.1 F.2.1 dX19_abort_2 rfl (lv_at hl 2 rfl) ?_
  replace h := zc_some h
  obtain ⟨r1, z2, hc3, h⟩ := h
  refine zr_callr (zrun_V (As := [.int x1, .int x2]) (rest := []) zq_3020 zq_3022 zs_X19_endAt zq_3023 zq_4 hdX19_endAt (by decide) (T := TX19) (N := 32) rfl (okX19_endAt l D cy B ids hst N x0 hx0 x1  x2  hr.2.2 hc3) F hr hx0 hl.1 rfl (by decide) dX19_abort_3 rfl rfl hroX19_abort_X19_endAt ⟨Nat.zero_le _, Nat.zero_le _⟩) F hA hr (fun H locs hw4 hr => ?_)
  clear hc3
  refine zr_astore_n (lv' := [(3, va_rf (Option.map (B 14) r1)), (0, .ref (B 19 x0)), (1, .int x1), (2, .int x2)]) F.1 F.2.1 dX19_abort_6 rfl hl (by decide) rfl (fun ls hl => ?_)
  refine lv_aload_n F.1 F.2.1 dX19_abort_7 rfl (lv_at hl 1 rfl) ?_
  refine lv_aload_n F.1 F.2.1 dX19_abort_8 rfl (lv_at hl 1 rfl) ?_
  refine lv_iload_n F.1 F.2.1 dX19_abort_9 rfl (lv_at hl 2 rfl) ?_
  refine lv_iload_n F.1 F.2.1 dX19_abort_10 rfl (lv_at hl 3 rfl) ?_
  replace h := zc_some h
  obtain ⟨r5, z6, hc7, h⟩ := h
  refine zr_calli (zrun_V (As := [.int x1, .int x2]) (rest := [.ref (B 19 x0)]) zq_3012 zq_3014 zs_X19_isDoor zq_3015 zq_4 hdX19_isDoor (by decide) (T := TX19) (N := 32) rfl (okX19_isDoor l D cy B ids hst N x0 hx0 x1  x2  hr.2.2 hc7) F hr hx0 hl.1 rfl (Nat.le_of_ble_eq_true rfl) dX19_abort_11 rfl rfl hroX19_abort_X19_isDoor ⟨Nat.zero_le _, Nat.zero_le _⟩) F hA hr (fun H locs hw8 hr => ?_)
  clear hc7
  refine lv_if_ne (tgt := 21) F.1 F.2.1 dX19_abort_14 (by decide) (fun c9 => ?_) (fun c9 => ?_)
  · replace h := zi_t c9 h
    refine lv_iconst (v := (0 : Int32)) F.1 F.2.1 dX19_abort_21 (by decide) ?_
    exact bX19_abort_22 hst F hA E  x0 r1 x0 (0 : Int32) hx0 hw4 hx0 hr (lv_sub hl [1, 0] rfl) h
  · replace h := zi_f (fun q => q c9) h
    refine lv_iconst (v := (1 : Int32)) F.1 F.2.1 dX19_abort_17 (by decide) ?_
    refine lv_goto (tgt := 22) F.1 F.2.1 dX19_abort_18 (by decide) ?_
    exact bX19_abort_22 hst F hA E  x0 r1 x0 (1 : Int32) hx0 hw4 hx0 hr (lv_sub hl [1, 0] rfl) h
end SX19_abort
set_option maxRecDepth 100000 in
theorem okX19_abort (l : Launch) (D : va_G) (cy : Nat → ClassId) (B : Nat → Nat → Nat) (ids : List (Nat × Nat)) (hst : zSt B ids) (N : Nat) (x0 : Nat) (hx0 : (19, x0) ∈ ids) (x1 : Int32) (x2 : Int32) {z : St} {r : Int32} {z' : St} (hW : zWf ids z) (h : fX19_abort N x0 x1 x2 z = some (r, z')) : zM l yX19_abort (zws yX19_abort cX19_abort 4 none) rmX19_abort D cy B ids [.ref (B 19 x0), .int x1, .int x2] none True z z' :=
  zM_of hst hW (by decide +kernel) (Nat.le_of_ble_eq_true rfl) (fun p e s m args below meth c A ls F hA hret hlocks hr hl => bX19_abort_0 hst F hA (zEnd_v F hret hlocks) x0 x1 x2 hx0 hr hl h)
abbrev rmX19_door : Room := { frames := 3, cells := 0, slots := 0, locals := 64 }
theorem hdX19_door : yX19_door.cls ≠ "java/lang/invoke/MethodHandle" ∧ yX19_door.cls ≠ "java/lang/invoke/VarHandle" ∧ (parseMethodDescriptor yX19_door.desc).map (fun d => d.parameters.length) = some 3 := by decide +kernel
theorem hroX19_door_X14_canWrite : rmX14_canWrite.frames + 1 ≤ rmX19_door.frames ∧ 8 + (1 + 11) + rmX14_canWrite.locals ≤ rmX19_door.locals := by decide
theorem hroX19_door_X14_readable : rmX14_readable.frames + 1 ≤ rmX19_door.frames ∧ 8 + (1 + 11) + rmX14_readable.locals ≤ rmX19_door.locals := by decide
theorem hroX19_door_X14_unthanked : rmX14_unthanked.frames + 1 ≤ rmX19_door.frames ∧ 8 + (2 + 11) + rmX14_unthanked.locals ≤ rmX19_door.locals := by decide
theorem hroX19_door_X19_fails : rmX19_fails.frames + 1 ≤ rmX19_door.frames ∧ 8 + (3 + 11) + rmX19_fails.locals ≤ rmX19_door.locals := by decide
theorem hroX19_door_X19_isDoor : rmX19_isDoor.frames + 1 ≤ rmX19_door.frames ∧ 8 + (3 + 11) + rmX19_isDoor.locals ≤ rmX19_door.locals := by decide
section SX19_door
variable {p : Program} {l : Launch} {e : Env} {s : State} {m : MethodId} {args : Array Value} {below : List Frame} {meth : Method} {c : Code} {Q : State → Prop} {D : va_G} {cy : Nat → ClassId} {B : Nat → Nat → Nat} {ids : List (Nat × Nat)} {A : Nat → Prop}
def fX19_door_221 (N : Nat)   (z : St) : Option (Int32 × St) := some ((0 : Int32), z)
set_option maxHeartbeats 4000000 in
set_option maxRecDepth 100000 in
theorem bX19_door_221 (hst : zSt B ids) (F : zFx p m c cX19_door 6 s args RX19 D cy B ids A) (hA : ∀ q : Nat, s.heap.size ≤ q → A q) {r : Int32} {z' : St} (E : zEnd p l e rmX19_door s m args below meth c cX19_door D cy B ids A Q (some (.int r)) z' .ireturn True) {N : Nat}    {z : St} {H : Heap} {locs : List Loc} {ls : Array Slot} (hr : zRep D cy B ids A s.heap z H locs) (hl : lv_has ls 6 []) (h : fX19_door_221 N z = some (r, z')) : W p l e rmX19_door s m args below meth c H locs 0 0 Q (F0 m 221 ls []) := by
  unfold fX19_door_221 at h
  refine lv_iconst (v := (0 : Int32)) F.1 F.2.1 dX19_door_221 (by decide) ?_
  refine lv_goto (tgt := 234) F.1 F.2.1 dX19_door_222 (by decide) ?_
  obtain ⟨rfl, rfl⟩ := zret h
  exact E _ _ _ _ dX19_door_234 trivial hr
def fX19_door_64 (N : Nat)  (x3 : Int32) (x4 : Nat) (s0 : Option Nat) (z : St) : Option (Int32 × St) := if x3 = (0 : Int32) then (if (zgI z 13 0 x4) = 0 then (zo s0 (some ((12 : Int32), z)) fun a4 => some ((zgI z 14 0 a4), z)) else (some ((1 : Int32), z))) else if x3 = (1 : Int32) then (if (zgI z 13 0 x4) = 0 then (zo s0 (some ((0 : Int32), z)) fun a8 => some ((zgI z 14 2 a8), z)) else (some ((zgI z 13 1 x4), z))) else if x3 = (2 : Int32) then (zo s0 (some ((0 : Int32), z)) fun a11 => some ((zgI z 14 4 a11), z)) else if x3 = (3 : Int32) then (zo s0 (some ((0 : Int32), z)) fun a14 => some ((zgI z 14 3 a14), z)) else if x3 = (4 : Int32) then (zo s0 (some ((0 : Int32), z)) fun a17 => zc (fX14_readable N a17 z) fun r18 z19 => some (r18, z19)) else if x3 = (5 : Int32) then (zo s0 (fX19_door_221 N z) fun a24 => zc (fX14_canWrite N a24 z) fun r25 z26 => if ¬ r25 = 0 then (zc (fX14_unthanked N a24 z26) fun r30 z31 => some (((2048 : Int32) - r30), z31)) else (fX19_door_221 N z26)) else (zo s0 (some ((0 : Int32), z)) fun a35 => zc (fX14_unthanked N a35 z) fun r36 z37 => some (r36, z37))
set_option maxHeartbeats 4000000 in
set_option maxRecDepth 100000 in
theorem bX19_door_64 (hst : zSt B ids) (F : zFx p m c cX19_door 6 s args RX19 D cy B ids A) (hA : ∀ q : Nat, s.heap.size ≤ q → A q) {r : Int32} {z' : St} (E : zEnd p l e rmX19_door s m args below meth c cX19_door D cy B ids A Q (some (.int r)) z' .ireturn True) {N : Nat}  (x3 : Int32) (x4 : Nat) (s0 : Option Nat) (hx4 : (13, x4) ∈ ids) (hs0 : ∀ t, s0 = some t → (14, t) ∈ ids) {z : St} {H : Heap} {locs : List Loc} {ls : Array Slot} (hr : zRep D cy B ids A s.heap z H locs) (hl : lv_has ls 6 [(3, .int x3), (4, .ref (B 13 x4))]) (h : fX19_door_64 N x3 x4 s0 z = some (r, z')) : W p l e rmX19_door s m args below meth c H locs 0 0 Q (F0 m 64 ls [va_rf (Option.map (B 14) s0)]) := by
  unfold fX19_door_64 at h
  refine zr_astore (lv' := [(5, va_rf (Option.map (B 14) s0)), (3, .int x3), (4, .ref (B 13 x4))]) F.1 F.2.1 dX19_door_64 hl (by decide) rfl (fun ls hl => ?_)
  refine lv_iload_n F.1 F.2.1 dX19_door_66 rfl (lv_at hl 1 rfl) ?_
  by_cases c1 : x3 = (0 : Int32)
  · replace h := zi_t c1 h
    refine lv_tableIn (tgt := 104) F.1 F.2.1 dX19_door_67 (by rw [c1]; decide) (by rw [c1]; decide) (by rw [c1]; rfl) (by decide) ?_
    refine lv_aload F.1 F.2.1 dX19_door_104 (lv_at hl 2 rfl) ?_
    refine gf19_747 F hx4 hr dX19_door_106 ?_
    refine lv_if_eq (tgt := 116) F.1 F.2.1 dX19_door_109 (by decide) (fun c2 => ?_) (fun c2 => ?_)
    · replace h := zi_t c2 h
      refine zr_aload F.1 F.2.1 dX19_door_116 (lv_at hl 0 rfl) ?_
      refine zr_ifnonnull (tgt := 126) F.1 F.2.1 dX19_door_118 (by decide) (fun e3 => ?_) (fun a4 e3 => ?_)
      · replace h := zo_n e3 h
        subst e3
        refine lv_bipush (v := (12 : Int32)) F.1 F.2.1 dX19_door_121 (by decide) ?_
        refine lv_goto (tgt := 131) F.1 F.2.1 dX19_door_123 (by decide) ?_
        obtain ⟨rfl, rfl⟩ := zret h
        exact E _ _ _ _ dX19_door_131 trivial hr
      · replace h := zo_s e3 h
        subst e3
        refine lv_aload F.1 F.2.1 dX19_door_126 (lv_at hl 0 rfl) ?_
        refine gf19_353 F (hs0 _ rfl) hr dX19_door_128 ?_
        obtain ⟨rfl, rfl⟩ := zret h
        exact E _ _ _ _ dX19_door_131 trivial hr
    · replace h := zi_f c2 h
      refine lv_iconst (v := (1 : Int32)) F.1 F.2.1 dX19_door_112 (by decide) ?_
      refine lv_goto (tgt := 131) F.1 F.2.1 dX19_door_113 (by decide) ?_
      obtain ⟨rfl, rfl⟩ := zret h
      exact E _ _ _ _ dX19_door_131 trivial hr
  replace h := zi_f c1 h
  by_cases c5 : x3 = (1 : Int32)
  · replace h := zi_t c5 h
    refine lv_tableIn (tgt := 132) F.1 F.2.1 dX19_door_67 (by rw [c5]; decide) (by rw [c5]; decide) (by rw [c5]; rfl) (by decide) ?_
    refine lv_aload F.1 F.2.1 dX19_door_132 (lv_at hl 2 rfl) ?_
    refine gf19_747 F hx4 hr dX19_door_134 ?_
    refine lv_if_eq (tgt := 148) F.1 F.2.1 dX19_door_137 (by decide) (fun c6 => ?_) (fun c6 => ?_)
    · replace h := zi_t c6 h
      refine zr_aload F.1 F.2.1 dX19_door_148 (lv_at hl 0 rfl) ?_
      refine zr_ifnonnull (tgt := 157) F.1 F.2.1 dX19_door_150 (by decide) (fun e7 => ?_) (fun a8 e7 => ?_)
      · replace h := zo_n e7 h
        subst e7
        refine lv_iconst (v := (0 : Int32)) F.1 F.2.1 dX19_door_153 (by decide) ?_
        refine lv_goto (tgt := 162) F.1 F.2.1 dX19_door_154 (by decide) ?_
        obtain ⟨rfl, rfl⟩ := zret h
        exact E _ _ _ _ dX19_door_162 trivial hr
      · replace h := zo_s e7 h
        subst e7
        refine lv_aload F.1 F.2.1 dX19_door_157 (lv_at hl 0 rfl) ?_
        refine gf19_358 F (hs0 _ rfl) hr dX19_door_159 ?_
        obtain ⟨rfl, rfl⟩ := zret h
        exact E _ _ _ _ dX19_door_162 trivial hr
    · replace h := zi_f c6 h
      refine lv_aload F.1 F.2.1 dX19_door_140 (lv_at hl 2 rfl) ?_
      refine gf19_783 F hx4 hr dX19_door_142 ?_
      refine lv_goto (tgt := 162) F.1 F.2.1 dX19_door_145 (by decide) ?_
      obtain ⟨rfl, rfl⟩ := zret h
      exact E _ _ _ _ dX19_door_162 trivial hr
  replace h := zi_f c5 h
  by_cases c9 : x3 = (2 : Int32)
  · replace h := zi_t c9 h
    refine lv_tableIn (tgt := 163) F.1 F.2.1 dX19_door_67 (by rw [c9]; decide) (by rw [c9]; decide) (by rw [c9]; rfl) (by decide) ?_
    refine zr_aload F.1 F.2.1 dX19_door_163 (lv_at hl 0 rfl) ?_
    refine zr_ifnonnull (tgt := 172) F.1 F.2.1 dX19_door_165 (by decide) (fun e10 => ?_) (fun a11 e10 => ?_)
    · replace h := zo_n e10 h
      subst e10
      refine lv_iconst (v := (0 : Int32)) F.1 F.2.1 dX19_door_168 (by decide) ?_
      refine lv_goto (tgt := 177) F.1 F.2.1 dX19_door_169 (by decide) ?_
      obtain ⟨rfl, rfl⟩ := zret h
      exact E _ _ _ _ dX19_door_177 trivial hr
    · replace h := zo_s e10 h
      subst e10
      refine lv_aload F.1 F.2.1 dX19_door_172 (lv_at hl 0 rfl) ?_
      refine gf19_364 F (hs0 _ rfl) hr dX19_door_174 ?_
      obtain ⟨rfl, rfl⟩ := zret h
      exact E _ _ _ _ dX19_door_177 trivial hr
  replace h := zi_f c9 h
  by_cases c12 : x3 = (3 : Int32)
  · replace h := zi_t c12 h
    refine lv_tableIn (tgt := 178) F.1 F.2.1 dX19_door_67 (by rw [c12]; decide) (by rw [c12]; decide) (by rw [c12]; rfl) (by decide) ?_
    refine zr_aload F.1 F.2.1 dX19_door_178 (lv_at hl 0 rfl) ?_
    refine zr_ifnonnull (tgt := 187) F.1 F.2.1 dX19_door_180 (by decide) (fun e13 => ?_) (fun a14 e13 => ?_)
    · replace h := zo_n e13 h
      subst e13
      refine lv_iconst (v := (0 : Int32)) F.1 F.2.1 dX19_door_183 (by decide) ?_
      refine lv_goto (tgt := 192) F.1 F.2.1 dX19_door_184 (by decide) ?_
      obtain ⟨rfl, rfl⟩ := zret h
      exact E _ _ _ _ dX19_door_192 trivial hr
    · replace h := zo_s e13 h
      subst e13
      refine lv_aload F.1 F.2.1 dX19_door_187 (lv_at hl 0 rfl) ?_
      refine gf19_361 F (hs0 _ rfl) hr dX19_door_189 ?_
      obtain ⟨rfl, rfl⟩ := zret h
      exact E _ _ _ _ dX19_door_192 trivial hr
  replace h := zi_f c12 h
  by_cases c15 : x3 = (4 : Int32)
  · replace h := zi_t c15 h
    refine lv_tableIn (tgt := 193) F.1 F.2.1 dX19_door_67 (by rw [c15]; decide) (by rw [c15]; decide) (by rw [c15]; rfl) (by decide) ?_
    refine zr_aload F.1 F.2.1 dX19_door_193 (lv_at hl 0 rfl) ?_
    refine zr_ifnonnull (tgt := 202) F.1 F.2.1 dX19_door_195 (by decide) (fun e16 => ?_) (fun a17 e16 => ?_)
    · replace h := zo_n e16 h
      subst e16
      refine lv_iconst (v := (0 : Int32)) F.1 F.2.1 dX19_door_198 (by decide) ?_
      refine lv_goto (tgt := 207) F.1 F.2.1 dX19_door_199 (by decide) ?_
      obtain ⟨rfl, rfl⟩ := zret h
      exact E _ _ _ _ dX19_door_207 trivial hr
    · replace h := zo_s e16 h
      subst e16
      refine lv_aload F.1 F.2.1 dX19_door_202 (lv_at hl 0 rfl) ?_
      replace h := zc_some h
      obtain ⟨r18, z19, hc20, h⟩ := h
      refine zr_calli (zrun_VN (As := []) (rest := []) zn_2728 zq_2712 zs_X14_readable zq_2713 zq_21 hdX14_readable (by decide) (T := TX14) (N := 47) rfl (okX14_readable l D cy B ids hst N a17 (hs0 _ rfl) hr.2.2 hc20) F hr (hs0 _ rfl) hl.1 rfl (by decide) dX19_door_204 rfl rfl hroX19_door_X14_readable ⟨Nat.zero_le _, Nat.zero_le _⟩) F hA hr (fun H locs hw21 hr => ?_)
      clear hc20
      obtain ⟨rfl, rfl⟩ := zret h
      exact E _ _ _ _ dX19_door_207 trivial hr
  replace h := zi_f c15 h
  by_cases c22 : x3 = (5 : Int32)
  · replace h := zi_t c22 h
    refine lv_tableIn (tgt := 208) F.1 F.2.1 dX19_door_67 (by rw [c22]; decide) (by rw [c22]; decide) (by rw [c22]; rfl) (by decide) ?_
    refine zr_aload F.1 F.2.1 dX19_door_208 (lv_at hl 0 rfl) ?_
    refine zr_ifnull (tgt := 221) F.1 F.2.1 dX19_door_210 (by decide) (fun e23 => ?_) (fun a24 e23 => ?_)
    · replace h := zo_n e23 h
      subst e23
      exact bX19_door_221 hst F hA E   hr (lv_sub hl [] rfl) h
    · replace h := zo_s e23 h
      subst e23
      refine lv_aload F.1 F.2.1 dX19_door_213 (lv_at hl 0 rfl) ?_
      replace h := zc_some h
      obtain ⟨r25, z26, hc27, h⟩ := h
      refine zr_calli (zrun_VN (As := []) (rest := []) zn_3024 zq_3026 zs_X14_canWrite zq_3027 zq_21 hdX14_canWrite (by decide) (T := TX14) (N := 47) rfl (okX14_canWrite l D cy B ids hst N a24 (hs0 _ rfl) hr.2.2 hc27) F hr (hs0 _ rfl) hl.1 rfl (by decide) dX19_door_215 rfl rfl hroX19_door_X14_canWrite ⟨Nat.zero_le _, Nat.zero_le _⟩) F hA hr (fun H locs hw28 hr => ?_)
      clear hc27
      refine lv_if_ne (tgt := 225) F.1 F.2.1 dX19_door_218 (by decide) (fun c29 => ?_) (fun c29 => ?_)
      · replace h := zi_t c29 h
        refine lv_sipush (v := (2048 : Int32)) F.1 F.2.1 dX19_door_225 (by decide) ?_
        refine lv_aload F.1 F.2.1 dX19_door_228 (lv_at hl 0 rfl) ?_
        replace h := zc_some h
        obtain ⟨r30, z31, hc32, h⟩ := h
        refine zr_calli (zrun_VN (As := []) (rest := [.int (2048 : Int32)]) zn_3033 zq_3035 zs_X14_unthanked zq_3036 zq_21 hdX14_unthanked (by decide) (T := TX14) (N := 47) rfl (okX14_unthanked l D cy B ids hst N a24 (hs0 _ rfl) hr.2.2 hc32) F hr (hs0 _ rfl) hl.1 rfl (Nat.le_of_ble_eq_true rfl) dX19_door_230 rfl rfl hroX19_door_X14_unthanked ⟨Nat.zero_le _, Nat.zero_le _⟩) F hA hr (fun H locs hw33 hr => ?_)
        clear hc32
        refine lv_isub F.1 F.2.1 dX19_door_233 ?_
        obtain ⟨rfl, rfl⟩ := zret h
        exact E _ _ _ _ dX19_door_234 trivial hr
      · replace h := zi_f (fun q => q c29) h
        exact bX19_door_221 hst F hA E   hr (lv_sub hl [] rfl) h
  replace h := zi_f c22 h
  refine lv_tableOut (tgt := 235) F.1 F.2.1 dX19_door_67 (zsw0_5 c1 c5 c9 c12 c15 c22) (by decide) ?_
  refine zr_aload F.1 F.2.1 dX19_door_235 (lv_at hl 0 rfl) ?_
  refine zr_ifnonnull (tgt := 244) F.1 F.2.1 dX19_door_237 (by decide) (fun e34 => ?_) (fun a35 e34 => ?_)
  · replace h := zo_n e34 h
    subst e34
    refine lv_iconst (v := (0 : Int32)) F.1 F.2.1 dX19_door_240 (by decide) ?_
    refine lv_goto (tgt := 249) F.1 F.2.1 dX19_door_241 (by decide) ?_
    obtain ⟨rfl, rfl⟩ := zret h
    exact E _ _ _ _ dX19_door_249 trivial hr
  · replace h := zo_s e34 h
    subst e34
    refine lv_aload F.1 F.2.1 dX19_door_244 (lv_at hl 0 rfl) ?_
    replace h := zc_some h
    obtain ⟨r36, z37, hc38, h⟩ := h
    refine zr_calli (zrun_VN (As := []) (rest := []) zn_3033 zq_3035 zs_X14_unthanked zq_3036 zq_21 hdX14_unthanked (by decide) (T := TX14) (N := 47) rfl (okX14_unthanked l D cy B ids hst N a35 (hs0 _ rfl) hr.2.2 hc38) F hr (hs0 _ rfl) hl.1 rfl (by decide) dX19_door_246 rfl rfl hroX19_door_X14_unthanked ⟨Nat.zero_le _, Nat.zero_le _⟩) F hA hr (fun H locs hw39 hr => ?_)
    clear hc38
    obtain ⟨rfl, rfl⟩ := zret h
    exact E _ _ _ _ dX19_door_249 trivial hr
def fX19_door_25 (N : Nat)  (x0 : Nat) (x1 : Int32) (x2 : Int32) (x3 : Int32) (s0 : Nat) (s1 : Int32) (z : St) : Option (Int32 × St) := zc (fX19_fails N s0 s1 (0 : Int32) z) fun r1 z2 => if r1 = 0 then (zk x1 16 <| zl (zgQ z2 186 x0 (Int32.toNatClampNeg x1)) fun y7 => zd y7 fun a8 => zk x2 6 <| zl (zgQ z2 158 a8 (Int32.toNatClampNeg x2)) fun y10 => zd y10 fun a11 => if (zgI z2 13 3 a11) = 0 then (fX19_door_64 N x3 a11 none z2) else (zl (zgR z2 13 4 a11) fun y13 => fX19_door_64 N x3 a11 y13 z2)) else (some ((0 : Int32), z2))
set_option maxHeartbeats 4000000 in
set_option maxRecDepth 100000 in
theorem bX19_door_25 (hst : zSt B ids) (F : zFx p m c cX19_door 6 s args RX19 D cy B ids A) (hA : ∀ q : Nat, s.heap.size ≤ q → A q) {r : Int32} {z' : St} (E : zEnd p l e rmX19_door s m args below meth c cX19_door D cy B ids A Q (some (.int r)) z' .ireturn True) {N : Nat}  (x0 : Nat) (x1 : Int32) (x2 : Int32) (x3 : Int32) (s0 : Nat) (s1 : Int32) (hx0 : (19, x0) ∈ ids) (hs0 : (19, s0) ∈ ids) {z : St} {H : Heap} {locs : List Loc} {ls : Array Slot} (hr : zRep D cy B ids A s.heap z H locs) (hl : lv_has ls 6 [(0, .ref (B 19 x0)), (1, .int x1), (2, .int x2), (3, .int x3)]) (h : fX19_door_25 N x0 x1 x2 x3 s0 s1 z = some (r, z')) : W p l e rmX19_door s m args below meth c H locs 0 0 Q (F0 m 25 ls [.int s1, .ref (B 19 s0)]) := by
  unfold fX19_door_25 at h
  refine lv_iconst (v := (0 : Int32)) F.1 F.2.1 dX19_door_25 (by decide) ?_
  replace h := zc_some h
  obtain ⟨r1, z2, hc3, h⟩ := h
  refine zr_calli (zrun_V (As := [.int s1, .int (0 : Int32)]) (rest := []) zq_2402 zq_2404 zs_X19_fails zq_2405 zq_4 hdX19_fails (by decide) (T := TX19) (N := 32) rfl (okX19_fails l D cy B ids hst N s0 hs0 s1  (0 : Int32)  hr.2.2 hc3) F hr hs0 hl.1 rfl (by decide) dX19_door_26 rfl rfl hroX19_door_X19_fails ⟨Nat.zero_le _, Nat.zero_le _⟩) F hA hr (fun H locs hw4 hr => ?_)
  clear hc3
  refine lv_if_eq (tgt := 34) F.1 F.2.1 dX19_door_29 (by decide) (fun c5 => ?_) (fun c5 => ?_)
  · replace h := zi_t c5 h
    refine lv_aload_n F.1 F.2.1 dX19_door_34 rfl (lv_at hl 0 rfl) ?_
    refine gf19_114 F hx0 hr dX19_door_35 ?_
    refine lv_iload_n F.1 F.2.1 dX19_door_38 rfl (lv_at hl 1 rfl) ?_
    replace h := zk_some h
    obtain ⟨c6, h⟩ := h
    refine zr_aaldv (k := 186) (by decide) rfl rfl (zlen_d (by decide)) F (zal_a F hx0 (j := 18) rfl) hr dX19_door_39 c6 (fun y7 ey7 => ?_)
    replace h := zl_sub ey7 h
    have hy7 := zal_q hr (zal_a F hx0 (j := 18) rfl) rfl ey7
    clear ey7
    replace h := zd_some h
    obtain ⟨a8, rfl, h⟩ := h
    refine gf19_340 F (hy7 _ rfl) hr dX19_door_40 ?_
    refine lv_iload_n F.1 F.2.1 dX19_door_43 rfl (lv_at hl 2 rfl) ?_
    replace h := zk_some h
    obtain ⟨c9, h⟩ := h
    refine zr_aaldv (k := 158) (by decide) rfl rfl (zlen_d (by decide)) F (zal_a F (hy7 _ rfl) (j := 28) rfl) hr dX19_door_44 c9 (fun y10 ey10 => ?_)
    replace h := zl_sub ey10 h
    have hy10 := zal_q hr (zal_a F (hy7 _ rfl) (j := 28) rfl) rfl ey10
    clear ey10
    refine zr_astore (lv' := [(4, va_rf (Option.map (B 13) y10)), (0, .ref (B 19 x0)), (1, .int x1), (2, .int x2), (3, .int x3)]) F.1 F.2.1 dX19_door_45 hl (by decide) rfl (fun ls hl => ?_)
    refine zr_aload F.1 F.2.1 dX19_door_47 (lv_at hl 0 rfl) ?_
    replace h := zd_some h
    obtain ⟨a11, rfl, h⟩ := h
    refine gf19_350 F (hy10 _ rfl) hr dX19_door_49 ?_
    refine lv_if_eq (tgt := 63) F.1 F.2.1 dX19_door_52 (by decide) (fun c12 => ?_) (fun c12 => ?_)
    · replace h := zi_t c12 h
      refine lv_null F.1 F.2.1 dX19_door_63 ?_
      exact bX19_door_64 hst F hA E  x3 a11 none (hy10 _ rfl) zal_0 hr (lv_sub hl [4, 0] rfl) h
    · replace h := zi_f c12 h
      refine lv_aload F.1 F.2.1 dX19_door_55 (lv_at hl 0 rfl) ?_
      refine gf19_344 F (hy10 _ rfl) hr dX19_door_57 (fun y13 ey13 => ?_)
      replace h := zl_sub ey13 h
      have hy13 := zal_g hr (hy10 _ rfl) (j := 4) rfl ey13
      clear ey13
      refine lv_goto (tgt := 64) F.1 F.2.1 dX19_door_60 (by decide) ?_
      exact bX19_door_64 hst F hA E  x3 a11 y13 (hy10 _ rfl) hy13 hr (lv_sub hl [4, 0] rfl) h
  · replace h := zi_f c5 h
    refine lv_iconst (v := (0 : Int32)) F.1 F.2.1 dX19_door_32 (by decide) ?_
    obtain ⟨rfl, rfl⟩ := zret h
    exact E _ _ _ _ dX19_door_33 trivial hr
def fX19_door_20 (N : Nat)  (x0 : Nat) (x1 : Int32) (x2 : Int32) (x3 : Int32) (s0 : Nat) (z : St) : Option (Int32 × St) := fX19_door_25 N x0 x1 x2 x3 s0 (1 : Int32) z
set_option maxHeartbeats 4000000 in
set_option maxRecDepth 100000 in
theorem bX19_door_20 (hst : zSt B ids) (F : zFx p m c cX19_door 6 s args RX19 D cy B ids A) (hA : ∀ q : Nat, s.heap.size ≤ q → A q) {r : Int32} {z' : St} (E : zEnd p l e rmX19_door s m args below meth c cX19_door D cy B ids A Q (some (.int r)) z' .ireturn True) {N : Nat}  (x0 : Nat) (x1 : Int32) (x2 : Int32) (x3 : Int32) (s0 : Nat) (hx0 : (19, x0) ∈ ids) (hs0 : (19, s0) ∈ ids) {z : St} {H : Heap} {locs : List Loc} {ls : Array Slot} (hr : zRep D cy B ids A s.heap z H locs) (hl : lv_has ls 6 [(0, .ref (B 19 x0)), (1, .int x1), (2, .int x2), (3, .int x3)]) (h : fX19_door_20 N x0 x1 x2 x3 s0 z = some (r, z')) : W p l e rmX19_door s m args below meth c H locs 0 0 Q (F0 m 20 ls [.ref (B 19 s0)]) := by
  unfold fX19_door_20 at h
  refine lv_iconst (v := (1 : Int32)) F.1 F.2.1 dX19_door_20 (by decide) ?_
  refine lv_goto (tgt := 25) F.1 F.2.1 dX19_door_21 (by decide) ?_
  exact bX19_door_25 hst F hA E  x0 x1 x2 x3 s0 (1 : Int32) hx0 hs0 hr (lv_sub hl [0, 1, 2, 3] rfl) h
def fX19_door (N : Nat)  (x0 : Nat) (x1 : Int32) (x2 : Int32) (x3 : Int32) (z : St) : Option (Int32 × St) := zc (fX19_isDoor N x0 x1 x2 z) fun r1 z2 => if r1 = 0 then (fX19_door_20 N x0 x1 x2 x3 x0 z2) else (if x3 < 0 then (fX19_door_20 N x0 x1 x2 x3 x0 z2) else (if x3 ≤ (6 : Int32) then (fX19_door_25 N x0 x1 x2 x3 x0 (0 : Int32) z2) else (fX19_door_20 N x0 x1 x2 x3 x0 z2)))
set_option maxHeartbeats 4000000 in
set_option maxRecDepth 100000 in
theorem bX19_door_0 (hst : zSt B ids) (F : zFx p m c cX19_door 6 s args RX19 D cy B ids A) (hA : ∀ q : Nat, s.heap.size ≤ q → A q) {r : Int32} {z' : St} (E : zEnd p l e rmX19_door s m args below meth c cX19_door D cy B ids A Q (some (.int r)) z' .ireturn True) {N : Nat}  (x0 : Nat) (x1 : Int32) (x2 : Int32) (x3 : Int32) (hx0 : (19, x0) ∈ ids) {z : St} {H : Heap} {locs : List Loc} {ls : Array Slot} (hr : zRep D cy B ids A s.heap z H locs) (hl : lv_has ls 6 [(0, .ref (B 19 x0)), (1, .int x1), (2, .int x2), (3, .int x3)]) (h : fX19_door N x0 x1 x2 x3 z = some (r, z')) : W p l e rmX19_door s m args below meth c H locs 0 0 Q (F0 m 0 ls []) := by
  unfold fX19_door at h
  refine lv_aload_n F.1 F.2.1 dX19_door_0 rfl (lv_at hl 0 rfl) ?_
  refine lv_aload_n F.1 F.2.1 dX19_door_1 rfl (lv_at hl 0 rfl) ?_
  refine lv_iload_n F.1 F.2.1 dX19_door_2 rfl (lv_at hl 1 rfl) ?_
  refine lv_iload_n F.1 F.2.1 dX19_door_3 rfl (lv_at hl 2 rfl) ?_
  replace h := zc_some h
  obtain ⟨r1, z2, hc3, h⟩ := h
  refine zr_calli (zrun_V (As := [.int x1, .int x2]) (rest := [.ref (B 19 x0)]) zq_3012 zq_3014 zs_X19_isDoor zq_3015 zq_4 hdX19_isDoor (by decide) (T := TX19) (N := 32) rfl (okX19_isDoor l D cy B ids hst N x0 hx0 x1  x2  hr.2.2 hc3) F hr hx0 hl.1 rfl (Nat.le_of_ble_eq_true rfl) dX19_door_4 rfl rfl hroX19_door_X19_isDoor ⟨Nat.zero_le _, Nat.zero_le _⟩) F hA hr (fun H locs hw4 hr => ?_)
  clear hc3
  refine lv_if_eq (tgt := 20) F.1 F.2.1 dX19_door_7 (by decide) (fun c5 => ?_) (fun c5 => ?_)
  · replace h := zi_t c5 h
    exact bX19_door_20 hst F hA E  x0 x1 x2 x3 x0 hx0 hx0 hr (lv_sub hl [0, 1, 2, 3] rfl) h
  · replace h := zi_f c5 h
    refine lv_iload_n F.1 F.2.1 dX19_door_10 rfl (lv_at hl 3 rfl) ?_
    refine lv_if_lt (tgt := 20) F.1 F.2.1 dX19_door_11 (by decide) (fun c6 => ?_) (fun c6 => ?_)
    · replace h := zi_t c6 h
      exact bX19_door_20 hst F hA E  x0 x1 x2 x3 x0 hx0 hx0 hr (lv_sub hl [0, 1, 2, 3] rfl) h
    · replace h := zi_f c6 h
      refine lv_iload_n F.1 F.2.1 dX19_door_14 rfl (lv_at hl 3 rfl) ?_
      refine lv_bipush (v := (6 : Int32)) F.1 F.2.1 dX19_door_15 (by decide) ?_
      refine lv_icmp_le (tgt := 24) F.1 F.2.1 dX19_door_17 (by decide) (fun c7 => ?_) (fun c7 => ?_)
      · replace h := zi_t c7 h
        refine lv_iconst (v := (0 : Int32)) F.1 F.2.1 dX19_door_24 (by decide) ?_
        exact bX19_door_25 hst F hA E  x0 x1 x2 x3 x0 (0 : Int32) hx0 hx0 hr (lv_sub hl [0, 1, 2, 3] rfl) h
      · replace h := zi_f c7 h
        exact bX19_door_20 hst F hA E  x0 x1 x2 x3 x0 hx0 hx0 hr (lv_sub hl [0, 1, 2, 3] rfl) h
end SX19_door
set_option maxRecDepth 100000 in
theorem okX19_door (l : Launch) (D : va_G) (cy : Nat → ClassId) (B : Nat → Nat → Nat) (ids : List (Nat × Nat)) (hst : zSt B ids) (N : Nat) (x0 : Nat) (hx0 : (19, x0) ∈ ids) (x1 : Int32) (x2 : Int32) (x3 : Int32) {z : St} {r : Int32} {z' : St} (hW : zWf ids z) (h : fX19_door N x0 x1 x2 x3 z = some (r, z')) : zM l yX19_door (zws yX19_door cX19_door 6 (some .int)) rmX19_door D cy B ids [.ref (B 19 x0), .int x1, .int x2, .int x3] (some (.int r)) True z z' :=
  zM_of hst hW (by decide +kernel) (Nat.le_of_ble_eq_true rfl) (fun p e s m args below meth c A ls F hA hret hlocks hr hl => bX19_door_0 hst F hA (zEnd_i F hret hlocks) x0 x1 x2 x3 hx0 hr hl h)
