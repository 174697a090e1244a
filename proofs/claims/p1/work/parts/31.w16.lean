abbrev rmX11_forgetSilent : Room := { frames := 3, cells := 0, slots := 0, locals := 70 }
theorem hdX11_forgetSilent : yX11_forgetSilent.cls ≠ "java/lang/invoke/MethodHandle" ∧ yX11_forgetSilent.cls ≠ "java/lang/invoke/VarHandle" ∧ (parseMethodDescriptor yX11_forgetSilent.desc).map (fun d => d.parameters.length) = some 1 := by decide +kernel
theorem hroX11_forgetSilent_X9_forget : rmX9_forget.frames + 1 ≤ rmX11_forgetSilent.frames ∧ 8 + (4 + 11) + rmX9_forget.locals ≤ rmX11_forgetSilent.locals := by decide
section SX11_forgetSilent
variable {p : Program} {l : Launch} {e : Env} {s : State} {m : MethodId} {args : Array Value} {below : List Frame} {meth : Method} {c : Code} {Q : State → Prop} {D : va_G} {cy : Nat → ClassId} {B : Nat → Nat → Nat} {ids : List (Nat × Nat)} {A : Nat → Prop}
def fX11_forgetSilent_69 (N : Nat) (K12 : Nat → Nat → Nat → Int32 → St → Option (Int32 × St)) (x0 : Nat) (x1 : Nat) (x2 : Nat) (x3 : Int32) (z : St) : Option (Int32 × St) := zl (x3 + (-1)) fun v1 => K12 x0 x1 x2 v1 z
set_option maxHeartbeats 4000000 in
set_option maxRecDepth 100000 in
theorem bX11_forgetSilent_69 (hst : zSt B ids) (F : zFx p m c cX11_forgetSilent 6 s args RX11 D cy B ids A) (hA : ∀ q : Nat, s.heap.size ≤ q → A q) {r : Int32} {z' : St} (E : zEnd p l e rmX11_forgetSilent s m args below meth c cX11_forgetSilent D cy B ids A Q none z' .return_ True) {N : Nat} {K12 : Nat → Nat → Nat → Int32 → St → Option (Int32 × St)} (hK12 : ∀ (x0 : Nat) (x1 : Nat) (x2 : Nat) (x3 : Int32) (hx0 : (11, x0) ∈ ids) (hx1 : (1, x1) ∈ ids) (hx2 : (9, x2) ∈ ids) {z : St} {H : Heap} {locs : List Loc} {ls : Array Slot} (hr : zRep D cy B ids A s.heap z H locs) (hl : lv_has ls 6 [(0, .ref (B 11 x0)), (1, .ref (B 1 x1)), (2, .ref (B 9 x2)), (3, .int x3)]), K12 x0 x1 x2 x3 z = some (r, z') → W p l e rmX11_forgetSilent s m args below meth c H locs 0 0 Q (F0 m 12 ls [])) (x0 : Nat) (x1 : Nat) (x2 : Nat) (x3 : Int32) (hx0 : (11, x0) ∈ ids) (hx1 : (1, x1) ∈ ids) (hx2 : (9, x2) ∈ ids) {z : St} {H : Heap} {locs : List Loc} {ls : Array Slot} (hr : zRep D cy B ids A s.heap z H locs) (hl : lv_has ls 6 [(0, .ref (B 11 x0)), (1, .ref (B 1 x1)), (2, .ref (B 9 x2)), (3, .int x3)]) (h : fX11_forgetSilent_69 N K12 x0 x1 x2 x3 z = some (r, z')) : W p l e rmX11_forgetSilent s m args below meth c H locs 0 0 Q (F0 m 69 ls []) := by
  unfold fX11_forgetSilent_69 at h
  obtain ⟨v1, ev1⟩ : ∃ y : Int32, y = (x3 + (-1)) := ⟨_, rfl⟩
  replace h := zl_sub ev1 h
  refine lv_iinc (v := v1) (lv' := [(3, .int v1), (0, .ref (B 11 x0)), (1, .ref (B 1 x1)), (2, .ref (B 9 x2))]) F.1 F.2.1 dX11_forgetSilent_69 hl (k := 3) rfl (by rw [ev1]; rfl) (by decide) rfl (fun ls hl => ?_)
  refine lv_goto (tgt := 12) F.1 F.2.1 dX11_forgetSilent_72 (by decide) ?_
  exact hK12 x0 x1 x2 v1 hx0 hx1 hx2 hr (lv_sub hl [1, 2, 3, 0] rfl) h
def fX11_forgetSilent_64 (N : Nat) (K12 : Nat → Nat → Nat → Int32 → St → Option (Int32 × St)) (x0 : Nat) (x1 : Nat) (x2 : Nat) (x3 : Int32) (z : St) : Option (Int32 × St) := zc (fX9_forget N x2 x3 z) fun _ z2 => fX11_forgetSilent_69 N K12 x0 x1 x2 x3 z2
set_option maxHeartbeats 4000000 in
set_option maxRecDepth 100000 in
theorem bX11_forgetSilent_64 (hst : zSt B ids) (F : zFx p m c cX11_forgetSilent 6 s args RX11 D cy B ids A) (hA : ∀ q : Nat, s.heap.size ≤ q → A q) {r : Int32} {z' : St} (E : zEnd p l e rmX11_forgetSilent s m args below meth c cX11_forgetSilent D cy B ids A Q none z' .return_ True) {N : Nat} {K12 : Nat → Nat → Nat → Int32 → St → Option (Int32 × St)} (hK12 : ∀ (x0 : Nat) (x1 : Nat) (x2 : Nat) (x3 : Int32) (hx0 : (11, x0) ∈ ids) (hx1 : (1, x1) ∈ ids) (hx2 : (9, x2) ∈ ids) {z : St} {H : Heap} {locs : List Loc} {ls : Array Slot} (hr : zRep D cy B ids A s.heap z H locs) (hl : lv_has ls 6 [(0, .ref (B 11 x0)), (1, .ref (B 1 x1)), (2, .ref (B 9 x2)), (3, .int x3)]), K12 x0 x1 x2 x3 z = some (r, z') → W p l e rmX11_forgetSilent s m args below meth c H locs 0 0 Q (F0 m 12 ls [])) (x0 : Nat) (x1 : Nat) (x2 : Nat) (x3 : Int32) (hx0 : (11, x0) ∈ ids) (hx1 : (1, x1) ∈ ids) (hx2 : (9, x2) ∈ ids) {z : St} {H : Heap} {locs : List Loc} {ls : Array Slot} (hr : zRep D cy B ids A s.heap z H locs) (hl : lv_has ls 6 [(0, .ref (B 11 x0)), (1, .ref (B 1 x1)), (2, .ref (B 9 x2)), (3, .int x3)]) (h : fX11_forgetSilent_64 N K12 x0 x1 x2 x3 z = some (r, z')) : W p l e rmX11_forgetSilent s m args below meth c H locs 0 0 Q (F0 m 64 ls []) := by
  unfold fX11_forgetSilent_64 at h
  refine lv_aload_n F.1 F.2.1 dX11_forgetSilent_64 rfl (lv_at hl 2 rfl) ?_
  refine lv_iload_n F.1 F.2.1 dX11_forgetSilent_65 rfl (lv_at hl 3 rfl) ?_
  replace h := zc_some h
  obtain ⟨r1, z2, hc3, h⟩ := h
  refine zr_callv (zrun_VN (As := [.int x3]) (rest := []) zn_1489 zq_1491 zs_X9_forget zq_1492 zq_10 hdX9_forget (by decide) (T := TX9) (N := 13) rfl (okX9_forget l D cy B ids hst N x2 hx2 x3  hr.2.2 hc3) F hr hx2 hl.1 rfl (by decide) dX11_forgetSilent_66 rfl rfl hroX11_forgetSilent_X9_forget ⟨Nat.zero_le _, Nat.zero_le _⟩) F hA hr (fun H locs hw4 hr => ?_)
  clear hc3
  exact bX11_forgetSilent_69 hst F hA E hK12 x0 x1 x2 x3 hx0 hx1 hx2 hr (lv_sub hl [0, 1, 2, 3] rfl) h
def fX11_forgetSilent_12b (N : Nat) (K12 : Nat → Nat → Nat → Int32 → St → Option (Int32 × St)) (x0 : Nat) (x1 : Nat) (x2 : Nat) (x3 : Int32) (z : St) : Option (Int32 × St) := if x3 < 0 then (some (0, z)) else (zk x3 16 <| zl (zgA z 131 x2 (Int32.toNatClampNeg x3)) fun v3 => zk (v3 / (16 : Int32)) 6 <| zl (zgQ z 112 x1 (Int32.toNatClampNeg (v3 / (16 : Int32)))) fun y5 => zd y5 fun a6 => zl (zgR z 8 1 a6) fun y7 => zd y7 fun a8 => if (zgI z 5 3 a8) = 0 then (fX11_forgetSilent_64 N K12 x0 x1 x2 x3 z) else (zk v3 96 <| if ((zgI z 11 4 x0) - (zgA z 132 x2 (Int32.toNatClampNeg v3))) < (80 : Int32) then (fX11_forgetSilent_69 N K12 x0 x1 x2 x3 z) else (fX11_forgetSilent_64 N K12 x0 x1 x2 x3 z)))
def fX11_forgetSilent_12 (N : Nat)  : Nat → Nat → Nat → Nat → Int32 → St → Option (Int32 × St)
  | 0 => fun _ _ _ _ _ => none
  | n + 1 => fX11_forgetSilent_12b N (fX11_forgetSilent_12 N  n)
set_option maxHeartbeats 4000000 in
set_option maxRecDepth 100000 in
theorem bX11_forgetSilent_12 (hst : zSt B ids) (F : zFx p m c cX11_forgetSilent 6 s args RX11 D cy B ids A) (hA : ∀ q : Nat, s.heap.size ≤ q → A q) {r : Int32} {z' : St} (E : zEnd p l e rmX11_forgetSilent s m args below meth c cX11_forgetSilent D cy B ids A Q none z' .return_ True) {N : Nat} {K12 : Nat → Nat → Nat → Int32 → St → Option (Int32 × St)} (hK12 : ∀ (x0 : Nat) (x1 : Nat) (x2 : Nat) (x3 : Int32) (hx0 : (11, x0) ∈ ids) (hx1 : (1, x1) ∈ ids) (hx2 : (9, x2) ∈ ids) {z : St} {H : Heap} {locs : List Loc} {ls : Array Slot} (hr : zRep D cy B ids A s.heap z H locs) (hl : lv_has ls 6 [(0, .ref (B 11 x0)), (1, .ref (B 1 x1)), (2, .ref (B 9 x2)), (3, .int x3)]), K12 x0 x1 x2 x3 z = some (r, z') → W p l e rmX11_forgetSilent s m args below meth c H locs 0 0 Q (F0 m 12 ls [])) (x0 : Nat) (x1 : Nat) (x2 : Nat) (x3 : Int32) (hx0 : (11, x0) ∈ ids) (hx1 : (1, x1) ∈ ids) (hx2 : (9, x2) ∈ ids) {z : St} {H : Heap} {locs : List Loc} {ls : Array Slot} (hr : zRep D cy B ids A s.heap z H locs) (hl : lv_has ls 6 [(0, .ref (B 11 x0)), (1, .ref (B 1 x1)), (2, .ref (B 9 x2)), (3, .int x3)]) (h : fX11_forgetSilent_12b N K12 x0 x1 x2 x3 z = some (r, z')) : W p l e rmX11_forgetSilent s m args below meth c H locs 0 0 Q (F0 m 12 ls []) := by
  unfold fX11_forgetSilent_12b at h
  refine lv_iload_n F.1 F.2.1 dX11_forgetSilent_12 rfl (lv_at hl 3 rfl) ?_
  refine lv_if_lt (tgt := 75) F.1 F.2.1 dX11_forgetSilent_13 (by decide) (fun c1 => ?_) (fun c1 => ?_)
  · replace h := zi_t c1 h
    obtain ⟨rfl, rfl⟩ := zret h
    exact E _ _ _ _ dX11_forgetSilent_75 trivial hr
  · replace h := zi_f c1 h
    refine lv_aload_n F.1 F.2.1 dX11_forgetSilent_16 rfl (lv_at hl 2 rfl) ?_
    refine gf11_765 F hx2 hr dX11_forgetSilent_17 ?_
    refine lv_iload_n F.1 F.2.1 dX11_forgetSilent_20 rfl (lv_at hl 3 rfl) ?_
    replace h := zk_some h
    obtain ⟨c2, h⟩ := h
    refine zr_iald (k := 131) (by decide) rfl (by decide) F (zal_a F hx2 (j := 0) rfl) hr dX11_forgetSilent_21 c2 ?_
    refine lv_topi (fun v3 ev3 => ?_)
    replace h := zl_sub ev3 h
    refine lv_istore (lv' := [(4, .int v3), (0, .ref (B 11 x0)), (1, .ref (B 1 x1)), (2, .ref (B 9 x2)), (3, .int x3)]) F.1 F.2.1 dX11_forgetSilent_22 hl (by decide) rfl (fun ls hl => ?_)
    refine lv_aload_n F.1 F.2.1 dX11_forgetSilent_24 rfl (lv_at hl 2 rfl) ?_
    refine gf11_134 F hx1 hr dX11_forgetSilent_25 ?_
    refine lv_iload F.1 F.2.1 dX11_forgetSilent_28 (lv_at hl 0 rfl) ?_
    refine lv_bipush (v := (16 : Int32)) F.1 F.2.1 dX11_forgetSilent_30 (by decide) ?_
    refine lv_idiv F.1 F.2.1 dX11_forgetSilent_32 (by decide) ?_
    replace h := zk_some h
    obtain ⟨c4, h⟩ := h
    refine zr_aaldv (k := 112) (by decide) rfl rfl (zlen_d (by decide)) F (zal_a F hx1 (j := 2) rfl) hr dX11_forgetSilent_33 c4 (fun y5 ey5 => ?_)
    replace h := zl_sub ey5 h
    have hy5 := zal_q hr (zal_a F hx1 (j := 2) rfl) rfl ey5
    clear ey5
    refine zr_astore (lv' := [(5, va_rf (Option.map (B 8) y5)), (4, .int v3), (0, .ref (B 11 x0)), (1, .ref (B 1 x1)), (2, .ref (B 9 x2)), (3, .int x3)]) F.1 F.2.1 dX11_forgetSilent_34 hl (by decide) rfl (fun ls hl => ?_)
    refine zr_aload F.1 F.2.1 dX11_forgetSilent_36 (lv_at hl 0 rfl) ?_
    replace h := zd_some h
    obtain ⟨a6, rfl, h⟩ := h
    refine gf11_261 F (hy5 _ rfl) hr dX11_forgetSilent_38 (fun y7 ey7 => ?_)
    replace h := zl_sub ey7 h
    have hy7 := zal_g hr (hy5 _ rfl) (j := 1) rfl ey7
    clear ey7
    replace h := zd_some h
    obtain ⟨a8, rfl, h⟩ := h
    refine gf11_158 F (hy7 _ rfl) hr dX11_forgetSilent_41 ?_
    refine lv_if_eq (tgt := 64) F.1 F.2.1 dX11_forgetSilent_44 (by decide) (fun c9 => ?_) (fun c9 => ?_)
    · replace h := zi_t c9 h
      exact bX11_forgetSilent_64 hst F hA E hK12 x0 x1 x2 x3 hx0 hx1 hx2 hr (lv_sub hl [2, 3, 4, 5] rfl) h
    · replace h := zi_f c9 h
      refine lv_aload_n F.1 F.2.1 dX11_forgetSilent_47 rfl (lv_at hl 2 rfl) ?_
      refine gf11_176 F hx0 hr dX11_forgetSilent_48 ?_
      refine lv_aload_n F.1 F.2.1 dX11_forgetSilent_51 rfl (lv_at hl 4 rfl) ?_
      refine gf11_768 F hx2 hr dX11_forgetSilent_52 ?_
      refine lv_iload F.1 F.2.1 dX11_forgetSilent_55 (lv_at hl 1 rfl) ?_
      replace h := zk_some h
      obtain ⟨c10, h⟩ := h
      refine zr_iald (k := 132) (by decide) rfl (by decide) F (zal_a F hx2 (j := 2) rfl) hr dX11_forgetSilent_57 c10 ?_
      refine lv_isub F.1 F.2.1 dX11_forgetSilent_58 ?_
      refine lv_bipush (v := (80 : Int32)) F.1 F.2.1 dX11_forgetSilent_59 (by decide) ?_
      refine lv_icmp_lt (tgt := 69) F.1 F.2.1 dX11_forgetSilent_61 (by decide) (fun c11 => ?_) (fun c11 => ?_)
      · replace h := zi_t c11 h
        exact bX11_forgetSilent_69 hst F hA E hK12 x0 x1 x2 x3 hx0 hx1 hx2 hr (lv_sub hl [2, 3, 4, 5] rfl) h
      · replace h := zi_f c11 h
        exact bX11_forgetSilent_64 hst F hA E hK12 x0 x1 x2 x3 hx0 hx1 hx2 hr (lv_sub hl [2, 3, 4, 5] rfl) h
theorem lX11_forgetSilent_12 (hst : zSt B ids) (F : zFx p m c cX11_forgetSilent 6 s args RX11 D cy B ids A) (hA : ∀ q : Nat, s.heap.size ≤ q → A q) {r : Int32} {z' : St} (E : zEnd p l e rmX11_forgetSilent s m args below meth c cX11_forgetSilent D cy B ids A Q none z' .return_ True) {N : Nat}  : ∀ (n : Nat) (x0 : Nat) (x1 : Nat) (x2 : Nat) (x3 : Int32) (hx0 : (11, x0) ∈ ids) (hx1 : (1, x1) ∈ ids) (hx2 : (9, x2) ∈ ids) {z : St} {H : Heap} {locs : List Loc} {ls : Array Slot} (hr : zRep D cy B ids A s.heap z H locs) (hl : lv_has ls 6 [(0, .ref (B 11 x0)), (1, .ref (B 1 x1)), (2, .ref (B 9 x2)), (3, .int x3)]), fX11_forgetSilent_12 N  n x0 x1 x2 x3 z = some (r, z') → W p l e rmX11_forgetSilent s m args below meth c H locs 0 0 Q (F0 m 12 ls []) := by
  intro n
  induction n with
  | zero => intro x0 x1 x2 x3 hx0 hx1 hx2 z H locs ls hr hl h; cases h
  | succ n ih => intro x0 x1 x2 x3 hx0 hx1 hx2 z H locs ls hr hl h; exact bX11_forgetSilent_12 hst F hA E ih x0 x1 x2 x3 hx0 hx1 hx2 hr hl h
def fX11_forgetSilent (N : Nat)  (x0 : Nat) (x1 : Nat) (z : St) : Option (Int32 × St) := zl (zgR z 1 10 x1) fun y1 => zd y1 fun a2 => zl ((zgI z 9 1 a2) - (1 : Int32)) fun v3 => fX11_forgetSilent_12 N N x0 x1 a2 v3 z
set_option maxHeartbeats 4000000 in
set_option maxRecDepth 100000 in
theorem bX11_forgetSilent_0 (hst : zSt B ids) (F : zFx p m c cX11_forgetSilent 6 s args RX11 D cy B ids A) (hA : ∀ q : Nat, s.heap.size ≤ q → A q) {r : Int32} {z' : St} (E : zEnd p l e rmX11_forgetSilent s m args below meth c cX11_forgetSilent D cy B ids A Q none z' .return_ True) {N : Nat}  (x0 : Nat) (x1 : Nat) (hx0 : (11, x0) ∈ ids) (hx1 : (1, x1) ∈ ids) {z : St} {H : Heap} {locs : List Loc} {ls : Array Slot} (hr : zRep D cy B ids A s.heap z H locs) (hl : lv_has ls 6 [(0, .ref (B 11 x0)), (1, .ref (B 1 x1))]) (h : fX11_forgetSilent N x0 x1 z = some (r, z')) : W p l e rmX11_forgetSilent s m args below meth c H locs 0 0 Q (F0 m 0 ls []) := by
  unfold fX11_forgetSilent at h
  refine lv_aload_n F.1 F.2.1 dX11_forgetSilent_0 rfl (lv_at hl 1 rfl) ?_
  refine gf11_395 F hx1 hr dX11_forgetSilent_1 (fun y1 ey1 => ?_)
  replace h := zl_sub ey1 h
  have hy1 := zal_g hr hx1 (j := 10) rfl ey1
  clear ey1
  refine zr_astore_n (lv' := [(2, va_rf (Option.map (B 9) y1)), (0, .ref (B 11 x0)), (1, .ref (B 1 x1))]) F.1 F.2.1 dX11_forgetSilent_4 rfl hl (by decide) rfl (fun ls hl => ?_)
  refine zr_aload_n F.1 F.2.1 dX11_forgetSilent_5 rfl (lv_at hl 0 rfl) ?_
  replace h := zd_some h
  obtain ⟨a2, rfl, h⟩ := h
  refine gf11_762 F (hy1 _ rfl) hr dX11_forgetSilent_6 ?_
  refine lv_iconst (v := (1 : Int32)) F.1 F.2.1 dX11_forgetSilent_9 (by decide) ?_
  refine lv_isub F.1 F.2.1 dX11_forgetSilent_10 ?_
  refine lv_topi (fun v3 ev3 => ?_)
  replace h := zl_sub ev3 h
  refine lv_istore_n (lv' := [(3, .int v3), (2, .ref (B 9 a2)), (0, .ref (B 11 x0)), (1, .ref (B 1 x1))]) F.1 F.2.1 dX11_forgetSilent_11 rfl hl (by decide) rfl (fun ls hl => ?_)
  exact lX11_forgetSilent_12 hst F hA E  _ x0 x1 a2 v3 hx0 hx1 (hy1 _ rfl) hr (lv_sub hl [2, 3, 1, 0] rfl) h
end SX11_forgetSilent
set_option maxRecDepth 100000 in
theorem okX11_forgetSilent (l : Launch) (D : va_G) (cy : Nat → ClassId) (B : Nat → Nat → Nat) (ids : List (Nat × Nat)) (hst : zSt B ids) (N : Nat) (x0 : Nat) (hx0 : (11, x0) ∈ ids) (x1 : Nat) (hx1 : (1, x1) ∈ ids) {z : St} {r : Int32} {z' : St} (hW : zWf ids z) (h : fX11_forgetSilent N x0 x1 z = some (r, z')) : zM l yX11_forgetSilent (zws yX11_forgetSilent cX11_forgetSilent 6 none) rmX11_forgetSilent D cy B ids [.ref (B 11 x0), .ref (B 1 x1)] none True z z' :=
  zM_of hst hW (by decide +kernel) (Nat.le_of_ble_eq_true rfl) (fun p e s m args below meth c A ls F hA hret hlocks hr hl => bX11_forgetSilent_0 hst F hA (zEnd_v F hret hlocks) x0 x1 hx0 hx1 hr hl h)
abbrev rmX11_makeOwnAdvert : Room := { frames := 3, cells := 0, slots := 0, locals := 70 }
theorem hdX11_makeOwnAdvert : yX11_makeOwnAdvert.cls ≠ "java/lang/invoke/MethodHandle" ∧ yX11_makeOwnAdvert.cls ≠ "java/lang/invoke/VarHandle" ∧ (parseMethodDescriptor yX11_makeOwnAdvert.desc).map (fun d => d.parameters.length) = some 1 := by decide +kernel
theorem hroX11_makeOwnAdvert_X0_takeDraft : rmX0_takeDraft.frames + 1 ≤ rmX11_makeOwnAdvert.frames ∧ 8 + (5 + 11) + rmX0_takeDraft.locals ≤ rmX11_makeOwnAdvert.locals := by decide
theorem hroX11_makeOwnAdvert_X0_tellsDraft : rmX0_tellsDraft.frames + 1 ≤ rmX11_makeOwnAdvert.frames ∧ 8 + (3 + 11) + rmX0_tellsDraft.locals ≤ rmX11_makeOwnAdvert.locals := by decide
theorem hroX11_makeOwnAdvert_X9_draftAdvert : rmX9_draftAdvert.frames + 1 ≤ rmX11_makeOwnAdvert.frames ∧ 8 + (5 + 11) + rmX9_draftAdvert.locals ≤ rmX11_makeOwnAdvert.locals := by decide
theorem hroX11_makeOwnAdvert_X9_setDueToAll : rmX9_setDueToAll.frames + 1 ≤ rmX11_makeOwnAdvert.frames ∧ 8 + (5 + 11) + rmX9_setDueToAll.locals ≤ rmX11_makeOwnAdvert.locals := by decide
section SX11_makeOwnAdvert
variable {p : Program} {l : Launch} {e : Env} {s : State} {m : MethodId} {args : Array Value} {below : List Frame} {meth : Method} {c : Code} {Q : State → Prop} {D : va_G} {cy : Nat → ClassId} {B : Nat → Nat → Nat} {ids : List (Nat × Nat)} {A : Nat → Prop}
def fX11_makeOwnAdvert_121 (N : Nat)  (x0 : Nat) (x1 : Nat) (x2 : Nat) (x3 : Nat) (z : St) : Option (Int32 × St) := zl (zsI z 0 8 x3 ((zgI z 0 8 x3) + (1 : Int32))) fun z1 => zl (zsI z1 0 7 x3 (zgI z1 11 4 x0)) fun z2 => zc (fX0_takeDraft N x3 (zgI z2 1 0 x1) (zgI z2 0 8 x3) (zgI z2 11 4 x0) z2) fun _ z4 => zc (fX9_setDueToAll N x2 (zgI z4 1 0 x1) (-1 : Int32) (zgI z4 11 4 x0) z4) fun _ z8 => some (0, z8)
set_option maxHeartbeats 4000000 in
set_option maxRecDepth 100000 in
theorem bX11_makeOwnAdvert_121 (hst : zSt B ids) (F : zFx p m c cX11_makeOwnAdvert 6 s args RX11 D cy B ids A) (hA : ∀ q : Nat, s.heap.size ≤ q → A q) {r : Int32} {z' : St} (E : zEnd p l e rmX11_makeOwnAdvert s m args below meth c cX11_makeOwnAdvert D cy B ids A Q none z' .return_ True) {N : Nat}  (x0 : Nat) (x1 : Nat) (x2 : Nat) (x3 : Nat) (hx0 : (11, x0) ∈ ids) (hx1 : (1, x1) ∈ ids) (hx2 : (9, x2) ∈ ids) (hx3 : (0, x3) ∈ ids) {z : St} {H : Heap} {locs : List Loc} {ls : Array Slot} (hr : zRep D cy B ids A s.heap z H locs) (hl : lv_has ls 6 [(0, .ref (B 11 x0)), (1, .ref (B 1 x1)), (2, .ref (B 9 x2)), (3, .ref (B 0 x3))]) (h : fX11_makeOwnAdvert_121 N x0 x1 x2 x3 z = some (r, z')) : W p l e rmX11_makeOwnAdvert s m args below meth c H locs 0 0 Q (F0 m 121 ls []) := by
  unfold fX11_makeOwnAdvert_121 at h
  refine lv_aload_n F.1 F.2.1 dX11_makeOwnAdvert_121 rfl (lv_at hl 3 rfl) ?_
  refine lv_dup F.1 F.2.1 dX11_makeOwnAdvert_122 rfl ?_
  refine gf11_775 F hx3 hr dX11_makeOwnAdvert_123 ?_
  refine lv_iconst (v := (1 : Int32)) F.1 F.2.1 dX11_makeOwnAdvert_126 (by decide) ?_
  refine lv_iadd F.1 F.2.1 dX11_makeOwnAdvert_127 ?_
  refine pf11_775 F hx3 hr dX11_makeOwnAdvert_128 ((zgI z 0 8 x3) + (1 : Int32)) (fun H locs z1 ez1 hr => ?_)
  replace h := zl_sub ez1 h
  clear ez1
  refine lv_aload_n F.1 F.2.1 dX11_makeOwnAdvert_131 rfl (lv_at hl 3 rfl) ?_
  refine lv_aload_n F.1 F.2.1 dX11_makeOwnAdvert_132 rfl (lv_at hl 0 rfl) ?_
  refine gf11_176 F hx0 hr dX11_makeOwnAdvert_133 ?_
  refine pf11_772 F hx3 hr dX11_makeOwnAdvert_136 (zgI z1 11 4 x0) (fun H locs z2 ez2 hr => ?_)
  replace h := zl_sub ez2 h
  clear ez2
  refine lv_aload_n F.1 F.2.1 dX11_makeOwnAdvert_139 rfl (lv_at hl 3 rfl) ?_
  refine lv_aload_n F.1 F.2.1 dX11_makeOwnAdvert_140 rfl (lv_at hl 1 rfl) ?_
  refine gf11_484 F hx1 hr dX11_makeOwnAdvert_141 ?_
  refine lv_aload_n F.1 F.2.1 dX11_makeOwnAdvert_144 rfl (lv_at hl 3 rfl) ?_
  refine gf11_775 F hx3 hr dX11_makeOwnAdvert_145 ?_
  refine lv_aload_n F.1 F.2.1 dX11_makeOwnAdvert_148 rfl (lv_at hl 0 rfl) ?_
  refine gf11_176 F hx0 hr dX11_makeOwnAdvert_149 ?_
  replace h := zc_some h
  obtain ⟨r3, z4, hc5, h⟩ := h
  refine zr_callv (zrun_VN (As := [.int (zgI z2 1 0 x1), .int (zgI z2 0 8 x3), .int (zgI z2 11 4 x0)]) (rest := []) zn_1520 zq_1201 zs_X0_takeDraft zq_1202 zq_11 hdX0_takeDraft (by decide) (T := TX0) (N := 16) rfl (okX0_takeDraft l D cy B ids hst N x3 hx3 (zgI z2 1 0 x1)  (zgI z2 0 8 x3)  (zgI z2 11 4 x0)  hr.2.2 hc5) F hr hx3 hl.1 rfl (by decide) dX11_makeOwnAdvert_152 rfl rfl hroX11_makeOwnAdvert_X0_takeDraft ⟨Nat.zero_le _, Nat.zero_le _⟩) F hA hr (fun H locs hw6 hr => ?_)
  clear hc5
  refine lv_aload_n F.1 F.2.1 dX11_makeOwnAdvert_155 rfl (lv_at hl 2 rfl) ?_
  refine lv_aload_n F.1 F.2.1 dX11_makeOwnAdvert_156 rfl (lv_at hl 1 rfl) ?_
  refine gf11_484 F hx1 hr dX11_makeOwnAdvert_157 ?_
  refine lv_iconst (v := (-1 : Int32)) F.1 F.2.1 dX11_makeOwnAdvert_160 (by decide) ?_
  refine lv_aload_n F.1 F.2.1 dX11_makeOwnAdvert_161 rfl (lv_at hl 0 rfl) ?_
  refine gf11_176 F hx0 hr dX11_makeOwnAdvert_162 ?_
  replace h := zc_some h
  obtain ⟨r7, z8, hc9, h⟩ := h
  refine zr_callv (zrun_VN (As := [.int (zgI z4 1 0 x1), .int (-1 : Int32), .int (zgI z4 11 4 x0)]) (rest := []) zn_1203 zq_1205 zs_X9_setDueToAll zq_1206 zq_10 hdX9_setDueToAll (by decide) (T := TX9) (N := 13) rfl (okX9_setDueToAll l D cy B ids hst N x2 hx2 (zgI z4 1 0 x1)  (-1 : Int32)  (zgI z4 11 4 x0)  hr.2.2 hc9) F hr hx2 hl.1 rfl (by decide) dX11_makeOwnAdvert_165 rfl rfl hroX11_makeOwnAdvert_X9_setDueToAll ⟨Nat.zero_le _, Nat.zero_le _⟩) F hA hr (fun H locs hw10 hr => ?_)
  clear hc9
  obtain ⟨rfl, rfl⟩ := zret h
  exact E _ _ _ _ dX11_makeOwnAdvert_168 trivial hr
def fX11_makeOwnAdvert_90 (N : Nat)  (x0 : Nat) (x1 : Nat) (x2 : Nat) (x3 : Nat) (x5 : Int32) (z : St) : Option (Int32 × St) := zc (fX9_draftAdvert N x2 x1 (zgI z 11 1 x0) z) fun _ z2 => zl (zsI z2 9 10 x2 (0 : Int32)) fun z5 => if ¬ x5 = 0 then (fX11_makeOwnAdvert_121 N x0 x1 x2 x3 z5) else (zc (fX0_tellsDraft N x3 (zgI z5 1 0 x1) z5) fun r7 z8 => if r7 = 0 then (fX11_makeOwnAdvert_121 N x0 x1 x2 x3 z8) else (some (0, z8)))
set_option maxHeartbeats 4000000 in
set_option maxRecDepth 100000 in
theorem bX11_makeOwnAdvert_90 (hst : zSt B ids) (F : zFx p m c cX11_makeOwnAdvert 6 s args RX11 D cy B ids A) (hA : ∀ q : Nat, s.heap.size ≤ q → A q) {r : Int32} {z' : St} (E : zEnd p l e rmX11_makeOwnAdvert s m args below meth c cX11_makeOwnAdvert D cy B ids A Q none z' .return_ True) {N : Nat}  (x0 : Nat) (x1 : Nat) (x2 : Nat) (x3 : Nat) (x5 : Int32) (hx0 : (11, x0) ∈ ids) (hx1 : (1, x1) ∈ ids) (hx2 : (9, x2) ∈ ids) (hx3 : (0, x3) ∈ ids) {z : St} {H : Heap} {locs : List Loc} {ls : Array Slot} (hr : zRep D cy B ids A s.heap z H locs) (hl : lv_has ls 6 [(0, .ref (B 11 x0)), (1, .ref (B 1 x1)), (2, .ref (B 9 x2)), (3, .ref (B 0 x3)), (5, .int x5)]) (h : fX11_makeOwnAdvert_90 N x0 x1 x2 x3 x5 z = some (r, z')) : W p l e rmX11_makeOwnAdvert s m args below meth c H locs 0 0 Q (F0 m 90 ls []) := by
  unfold fX11_makeOwnAdvert_90 at h
  refine lv_aload_n F.1 F.2.1 dX11_makeOwnAdvert_90 rfl (lv_at hl 2 rfl) ?_
  refine lv_aload_n F.1 F.2.1 dX11_makeOwnAdvert_91 rfl (lv_at hl 1 rfl) ?_
  refine lv_aload_n F.1 F.2.1 dX11_makeOwnAdvert_92 rfl (lv_at hl 0 rfl) ?_
  refine gf11_85 F hx0 hr dX11_makeOwnAdvert_93 ?_
  replace h := zc_some h
  obtain ⟨r1, z2, hc3, h⟩ := h
  refine zr_callv (zrun_VN (As := [.ref (B 1 x1), .int (zgI z 11 1 x0)]) (rest := []) zn_1506 zq_1508 zs_X9_draftAdvert zq_1509 zq_10 hdX9_draftAdvert (by decide) (T := TX9) (N := 13) rfl (okX9_draftAdvert l D cy B ids hst N x2 hx2 x1 hx1 (zgI z 11 1 x0)  hr.2.2 hc3) F hr hx2 hl.1 rfl (by decide) dX11_makeOwnAdvert_96 rfl rfl hroX11_makeOwnAdvert_X9_draftAdvert ⟨Nat.zero_le _, Nat.zero_le _⟩) F hA hr (fun H locs hw4 hr => ?_)
  clear hc3
  refine lv_aload_n F.1 F.2.1 dX11_makeOwnAdvert_99 rfl (lv_at hl 2 rfl) ?_
  refine lv_iconst (v := (0 : Int32)) F.1 F.2.1 dX11_makeOwnAdvert_100 (by decide) ?_
  refine pf11_723 F hx2 hr dX11_makeOwnAdvert_101 (0 : Int32) (by decide) (fun H locs z5 ez5 hr => ?_)
  replace h := zl_sub ez5 h
  clear ez5
  refine lv_iload F.1 F.2.1 dX11_makeOwnAdvert_104 (lv_at hl 4 rfl) ?_
  refine lv_if_ne (tgt := 121) F.1 F.2.1 dX11_makeOwnAdvert_106 (by decide) (fun c6 => ?_) (fun c6 => ?_)
  · replace h := zi_t c6 h
    exact bX11_makeOwnAdvert_121 hst F hA E  x0 x1 x2 x3 hx0 hx1 hx2 hx3 hr (lv_sub hl [0, 1, 2, 3] rfl) h
  · replace h := zi_f (fun q => q c6) h
    refine lv_aload_n F.1 F.2.1 dX11_makeOwnAdvert_109 rfl (lv_at hl 3 rfl) ?_
    refine lv_aload_n F.1 F.2.1 dX11_makeOwnAdvert_110 rfl (lv_at hl 1 rfl) ?_
    refine gf11_484 F hx1 hr dX11_makeOwnAdvert_111 ?_
    replace h := zc_some h
    obtain ⟨r7, z8, hc9, h⟩ := h
    refine zr_calli (zrun_VN (As := [.int (zgI z5 1 0 x1)]) (rest := []) zn_1516 zq_1518 zs_X0_tellsDraft zq_1519 zq_11 hdX0_tellsDraft (by decide) (T := TX0) (N := 16) rfl (okX0_tellsDraft l D cy B ids hst N x3 hx3 (zgI z5 1 0 x1)  hr.2.2 hc9) F hr hx3 hl.1 rfl (by decide) dX11_makeOwnAdvert_114 rfl rfl hroX11_makeOwnAdvert_X0_tellsDraft ⟨Nat.zero_le _, Nat.zero_le _⟩) F hA hr (fun H locs hw10 hr => ?_)
    clear hc9
    refine lv_if_eq (tgt := 121) F.1 F.2.1 dX11_makeOwnAdvert_117 (by decide) (fun c11 => ?_) (fun c11 => ?_)
    · replace h := zi_t c11 h
      exact bX11_makeOwnAdvert_121 hst F hA E  x0 x1 x2 x3 hx0 hx1 hx2 hx3 hr (lv_sub hl [0, 1, 2, 3] rfl) h
    · replace h := zi_f c11 h
      obtain ⟨rfl, rfl⟩ := zret h
      exact E _ _ _ _ dX11_makeOwnAdvert_120 trivial hr
def fX11_makeOwnAdvert_75 (N : Nat)  (x0 : Nat) (x1 : Nat) (x2 : Nat) (x3 : Nat) (s0 : Int32) (z : St) : Option (Int32 × St) := if ¬ s0 = 0 then (fX11_makeOwnAdvert_90 N x0 x1 x2 x3 s0 z) else (if ¬ (zgI z 9 10 x2) = 0 then (fX11_makeOwnAdvert_90 N x0 x1 x2 x3 s0 z) else (some (0, z)))
set_option maxHeartbeats 4000000 in
set_option maxRecDepth 100000 in
theorem bX11_makeOwnAdvert_75 (hst : zSt B ids) (F : zFx p m c cX11_makeOwnAdvert 6 s args RX11 D cy B ids A) (hA : ∀ q : Nat, s.heap.size ≤ q → A q) {r : Int32} {z' : St} (E : zEnd p l e rmX11_makeOwnAdvert s m args below meth c cX11_makeOwnAdvert D cy B ids A Q none z' .return_ True) {N : Nat}  (x0 : Nat) (x1 : Nat) (x2 : Nat) (x3 : Nat) (s0 : Int32) (hx0 : (11, x0) ∈ ids) (hx1 : (1, x1) ∈ ids) (hx2 : (9, x2) ∈ ids) (hx3 : (0, x3) ∈ ids) {z : St} {H : Heap} {locs : List Loc} {ls : Array Slot} (hr : zRep D cy B ids A s.heap z H locs) (hl : lv_has ls 6 [(0, .ref (B 11 x0)), (1, .ref (B 1 x1)), (2, .ref (B 9 x2)), (3, .ref (B 0 x3))]) (h : fX11_makeOwnAdvert_75 N x0 x1 x2 x3 s0 z = some (r, z')) : W p l e rmX11_makeOwnAdvert s m args below meth c H locs 0 0 Q (F0 m 75 ls [.int s0]) := by
  unfold fX11_makeOwnAdvert_75 at h
  refine lv_istore (lv' := [(5, .int s0), (0, .ref (B 11 x0)), (1, .ref (B 1 x1)), (2, .ref (B 9 x2)), (3, .ref (B 0 x3))]) F.1 F.2.1 dX11_makeOwnAdvert_75 hl (by decide) rfl (fun ls hl => ?_)
  refine lv_iload F.1 F.2.1 dX11_makeOwnAdvert_77 (lv_at hl 0 rfl) ?_
  refine lv_if_ne (tgt := 90) F.1 F.2.1 dX11_makeOwnAdvert_79 (by decide) (fun c1 => ?_) (fun c1 => ?_)
  · replace h := zi_t c1 h
    exact bX11_makeOwnAdvert_90 hst F hA E  x0 x1 x2 x3 s0 hx0 hx1 hx2 hx3 hr (lv_sub hl [1, 2, 3, 4, 0] rfl) h
  · replace h := zi_f (fun q => q c1) h
    refine lv_aload_n F.1 F.2.1 dX11_makeOwnAdvert_82 rfl (lv_at hl 3 rfl) ?_
    refine gf11_723 F hx2 hr dX11_makeOwnAdvert_83 ?_
    refine lv_if_ne (tgt := 90) F.1 F.2.1 dX11_makeOwnAdvert_86 (by decide) (fun c2 => ?_) (fun c2 => ?_)
    · replace h := zi_t c2 h
      exact bX11_makeOwnAdvert_90 hst F hA E  x0 x1 x2 x3 s0 hx0 hx1 hx2 hx3 hr (lv_sub hl [1, 2, 3, 4, 0] rfl) h
    · replace h := zi_f (fun q => q c2) h
      obtain ⟨rfl, rfl⟩ := zret h
      exact E _ _ _ _ dX11_makeOwnAdvert_89 trivial hr
def fX11_makeOwnAdvert_70 (N : Nat)  (x0 : Nat) (x1 : Nat) (x2 : Nat) (x3 : Nat) (z : St) : Option (Int32 × St) := fX11_makeOwnAdvert_75 N x0 x1 x2 x3 (1 : Int32) z
set_option maxHeartbeats 4000000 in
set_option maxRecDepth 100000 in
theorem bX11_makeOwnAdvert_70 (hst : zSt B ids) (F : zFx p m c cX11_makeOwnAdvert 6 s args RX11 D cy B ids A) (hA : ∀ q : Nat, s.heap.size ≤ q → A q) {r : Int32} {z' : St} (E : zEnd p l e rmX11_makeOwnAdvert s m args below meth c cX11_makeOwnAdvert D cy B ids A Q none z' .return_ True) {N : Nat}  (x0 : Nat) (x1 : Nat) (x2 : Nat) (x3 : Nat) (hx0 : (11, x0) ∈ ids) (hx1 : (1, x1) ∈ ids) (hx2 : (9, x2) ∈ ids) (hx3 : (0, x3) ∈ ids) {z : St} {H : Heap} {locs : List Loc} {ls : Array Slot} (hr : zRep D cy B ids A s.heap z H locs) (hl : lv_has ls 6 [(0, .ref (B 11 x0)), (1, .ref (B 1 x1)), (2, .ref (B 9 x2)), (3, .ref (B 0 x3))]) (h : fX11_makeOwnAdvert_70 N x0 x1 x2 x3 z = some (r, z')) : W p l e rmX11_makeOwnAdvert s m args below meth c H locs 0 0 Q (F0 m 70 ls []) := by
  unfold fX11_makeOwnAdvert_70 at h
  refine lv_iconst (v := (1 : Int32)) F.1 F.2.1 dX11_makeOwnAdvert_70 (by decide) ?_
  refine lv_goto (tgt := 75) F.1 F.2.1 dX11_makeOwnAdvert_71 (by decide) ?_
  exact bX11_makeOwnAdvert_75 hst F hA E  x0 x1 x2 x3 (1 : Int32) hx0 hx1 hx2 hx3 hr (lv_sub hl [0, 1, 2, 3] rfl) h
def fX11_makeOwnAdvert_41 (N : Nat)  (x0 : Nat) (x1 : Nat) (x2 : Nat) (x3 : Nat) (x4 : Int32) (z : St) : Option (Int32 × St) := if x4 = 0 then (fX11_makeOwnAdvert_70 N x0 x1 x2 x3 z) else (if x4 < (zgI z 0 8 x3) then (fX11_makeOwnAdvert_70 N x0 x1 x2 x3 z) else (if ((zgI z 11 4 x0) - (zgI z 0 7 x3)) < (2000 : Int32) then (fX11_makeOwnAdvert_75 N x0 x1 x2 x3 (0 : Int32) z) else (fX11_makeOwnAdvert_70 N x0 x1 x2 x3 z)))
set_option maxHeartbeats 4000000 in
set_option maxRecDepth 100000 in
theorem bX11_makeOwnAdvert_41 (hst : zSt B ids) (F : zFx p m c cX11_makeOwnAdvert 6 s args RX11 D cy B ids A) (hA : ∀ q : Nat, s.heap.size ≤ q → A q) {r : Int32} {z' : St} (E : zEnd p l e rmX11_makeOwnAdvert s m args below meth c cX11_makeOwnAdvert D cy B ids A Q none z' .return_ True) {N : Nat}  (x0 : Nat) (x1 : Nat) (x2 : Nat) (x3 : Nat) (x4 : Int32) (hx0 : (11, x0) ∈ ids) (hx1 : (1, x1) ∈ ids) (hx2 : (9, x2) ∈ ids) (hx3 : (0, x3) ∈ ids) {z : St} {H : Heap} {locs : List Loc} {ls : Array Slot} (hr : zRep D cy B ids A s.heap z H locs) (hl : lv_has ls 6 [(0, .ref (B 11 x0)), (1, .ref (B 1 x1)), (2, .ref (B 9 x2)), (3, .ref (B 0 x3)), (4, .int x4)]) (h : fX11_makeOwnAdvert_41 N x0 x1 x2 x3 x4 z = some (r, z')) : W p l e rmX11_makeOwnAdvert s m args below meth c H locs 0 0 Q (F0 m 41 ls []) := by
  unfold fX11_makeOwnAdvert_41 at h
  refine lv_iload F.1 F.2.1 dX11_makeOwnAdvert_41 (lv_at hl 4 rfl) ?_
  refine lv_if_eq (tgt := 70) F.1 F.2.1 dX11_makeOwnAdvert_43 (by decide) (fun c1 => ?_) (fun c1 => ?_)
  · replace h := zi_t c1 h
    exact bX11_makeOwnAdvert_70 hst F hA E  x0 x1 x2 x3 hx0 hx1 hx2 hx3 hr (lv_sub hl [0, 1, 2, 3] rfl) h
  · replace h := zi_f c1 h
    refine lv_aload_n F.1 F.2.1 dX11_makeOwnAdvert_46 rfl (lv_at hl 3 rfl) ?_
    refine gf11_775 F hx3 hr dX11_makeOwnAdvert_47 ?_
    refine lv_iload F.1 F.2.1 dX11_makeOwnAdvert_50 (lv_at hl 4 rfl) ?_
    refine lv_icmp_gt (tgt := 70) F.1 F.2.1 dX11_makeOwnAdvert_52 (by decide) (fun c2 => ?_) (fun c2 => ?_)
    · replace h := zi_t c2 h
      exact bX11_makeOwnAdvert_70 hst F hA E  x0 x1 x2 x3 hx0 hx1 hx2 hx3 hr (lv_sub hl [0, 1, 2, 3] rfl) h
    · replace h := zi_f c2 h
      refine lv_aload_n F.1 F.2.1 dX11_makeOwnAdvert_55 rfl (lv_at hl 0 rfl) ?_
      refine gf11_176 F hx0 hr dX11_makeOwnAdvert_56 ?_
      refine lv_aload_n F.1 F.2.1 dX11_makeOwnAdvert_59 rfl (lv_at hl 3 rfl) ?_
      refine gf11_772 F hx3 hr dX11_makeOwnAdvert_60 ?_
      refine lv_isub F.1 F.2.1 dX11_makeOwnAdvert_63 ?_
      refine lv_sipush (v := (2000 : Int32)) F.1 F.2.1 dX11_makeOwnAdvert_64 (by decide) ?_
      refine lv_icmp_lt (tgt := 74) F.1 F.2.1 dX11_makeOwnAdvert_67 (by decide) (fun c3 => ?_) (fun c3 => ?_)
      · replace h := zi_t c3 h
        refine lv_iconst (v := (0 : Int32)) F.1 F.2.1 dX11_makeOwnAdvert_74 (by decide) ?_
        exact bX11_makeOwnAdvert_75 hst F hA E  x0 x1 x2 x3 (0 : Int32) hx0 hx1 hx2 hx3 hr (lv_sub hl [0, 1, 2, 3] rfl) h
      · replace h := zi_f c3 h
        exact bX11_makeOwnAdvert_70 hst F hA E  x0 x1 x2 x3 hx0 hx1 hx2 hx3 hr (lv_sub hl [0, 1, 2, 3] rfl) h
def fX11_makeOwnAdvert (N : Nat)  (x0 : Nat) (x1 : Nat) (z : St) : Option (Int32 × St) := zl (zgR z 1 10 x1) fun y1 => zd y1 fun a2 => zl (zgR z 9 12 a2) fun y3 => zd y3 fun a4 => zk (zgI z 1 0 x1) 16 <| zl (zgA z 100 a4 (Int32.toNatClampNeg (zgI z 1 0 x1))) fun v6 => if v6 = 0 then (fX11_makeOwnAdvert_41 N x0 x1 a2 a4 v6 z) else (if ((zgI z 0 7 a4) + (10 : Int32)) ≤ (zgI z 11 4 x0) then (fX11_makeOwnAdvert_41 N x0 x1 a2 a4 v6 z) else (some (0, z)))
set_option maxHeartbeats 4000000 in
set_option maxRecDepth 100000 in
theorem bX11_makeOwnAdvert_0 (hst : zSt B ids) (F : zFx p m c cX11_makeOwnAdvert 6 s args RX11 D cy B ids A) (hA : ∀ q : Nat, s.heap.size ≤ q → A q) {r : Int32} {z' : St} (E : zEnd p l e rmX11_makeOwnAdvert s m args below meth c cX11_makeOwnAdvert D cy B ids A Q none z' .return_ True) {N : Nat}  (x0 : Nat) (x1 : Nat) (hx0 : (11, x0) ∈ ids) (hx1 : (1, x1) ∈ ids) {z : St} {H : Heap} {locs : List Loc} {ls : Array Slot} (hr : zRep D cy B ids A s.heap z H locs) (hl : lv_has ls 6 [(0, .ref (B 11 x0)), (1, .ref (B 1 x1))]) (h : fX11_makeOwnAdvert N x0 x1 z = some (r, z')) : W p l e rmX11_makeOwnAdvert s m args below meth c H locs 0 0 Q (F0 m 0 ls []) := by
  unfold fX11_makeOwnAdvert at h
  refine lv_aload_n F.1 F.2.1 dX11_makeOwnAdvert_0 rfl (lv_at hl 1 rfl) ?_
  refine gf11_395 F hx1 hr dX11_makeOwnAdvert_1 (fun y1 ey1 => ?_)
  replace h := zl_sub ey1 h
  have hy1 := zal_g hr hx1 (j := 10) rfl ey1
  clear ey1
  refine zr_astore_n (lv' := [(2, va_rf (Option.map (B 9) y1)), (0, .ref (B 11 x0)), (1, .ref (B 1 x1))]) F.1 F.2.1 dX11_makeOwnAdvert_4 rfl hl (by decide) rfl (fun ls hl => ?_)
  refine zr_aload_n F.1 F.2.1 dX11_makeOwnAdvert_5 rfl (lv_at hl 0 rfl) ?_
  replace h := zd_some h
  obtain ⟨a2, rfl, h⟩ := h
  refine gf11_399 F (hy1 _ rfl) hr dX11_makeOwnAdvert_6 (fun y3 ey3 => ?_)
  replace h := zl_sub ey3 h
  have hy3 := zal_g hr (hy1 _ rfl) (j := 12) rfl ey3
  clear ey3
  refine zr_astore_n (lv' := [(3, va_rf (Option.map (B 0) y3)), (2, .ref (B 9 a2)), (0, .ref (B 11 x0)), (1, .ref (B 1 x1))]) F.1 F.2.1 dX11_makeOwnAdvert_9 rfl hl (by decide) rfl (fun ls hl => ?_)
  refine zr_aload_n F.1 F.2.1 dX11_makeOwnAdvert_10 rfl (lv_at hl 0 rfl) ?_
  replace h := zd_some h
  obtain ⟨a4, rfl, h⟩ := h
  refine gf11_426 F (hy3 _ rfl) hr dX11_makeOwnAdvert_11 ?_
  refine lv_aload_n F.1 F.2.1 dX11_makeOwnAdvert_14 rfl (lv_at hl 3 rfl) ?_
  refine gf11_484 F hx1 hr dX11_makeOwnAdvert_15 ?_
  replace h := zk_some h
  obtain ⟨c5, h⟩ := h
  refine zr_iald (k := 100) (by decide) rfl (by decide) F (zal_a F (hy3 _ rfl) (j := 1) rfl) hr dX11_makeOwnAdvert_18 c5 ?_
  refine lv_topi (fun v6 ev6 => ?_)
  replace h := zl_sub ev6 h
  refine lv_istore (lv' := [(4, .int v6), (3, .ref (B 0 a4)), (2, .ref (B 9 a2)), (0, .ref (B 11 x0)), (1, .ref (B 1 x1))]) F.1 F.2.1 dX11_makeOwnAdvert_19 hl (by decide) rfl (fun ls hl => ?_)
  refine lv_iload F.1 F.2.1 dX11_makeOwnAdvert_21 (lv_at hl 0 rfl) ?_
  refine lv_if_eq (tgt := 41) F.1 F.2.1 dX11_makeOwnAdvert_23 (by decide) (fun c7 => ?_) (fun c7 => ?_)
  · replace h := zi_t c7 h
    exact bX11_makeOwnAdvert_41 hst F hA E  x0 x1 a2 a4 v6 hx0 hx1 (hy1 _ rfl) (hy3 _ rfl) hr (lv_sub hl [3, 4, 2, 1, 0] rfl) h
  · replace h := zi_f c7 h
    refine lv_aload_n F.1 F.2.1 dX11_makeOwnAdvert_26 rfl (lv_at hl 3 rfl) ?_
    refine gf11_176 F hx0 hr dX11_makeOwnAdvert_27 ?_
    refine lv_aload_n F.1 F.2.1 dX11_makeOwnAdvert_30 rfl (lv_at hl 1 rfl) ?_
    refine gf11_772 F (hy3 _ rfl) hr dX11_makeOwnAdvert_31 ?_
    refine lv_bipush (v := (10 : Int32)) F.1 F.2.1 dX11_makeOwnAdvert_34 (by decide) ?_
    refine lv_iadd F.1 F.2.1 dX11_makeOwnAdvert_36 ?_
    refine lv_icmp_ge (tgt := 41) F.1 F.2.1 dX11_makeOwnAdvert_37 (by decide) (fun c8 => ?_) (fun c8 => ?_)
    · replace h := zi_t c8 h
      exact bX11_makeOwnAdvert_41 hst F hA E  x0 x1 a2 a4 v6 hx0 hx1 (hy1 _ rfl) (hy3 _ rfl) hr (lv_sub hl [3, 4, 2, 1, 0] rfl) h
    · replace h := zi_f c8 h
      obtain ⟨rfl, rfl⟩ := zret h
      exact E _ _ _ _ dX11_makeOwnAdvert_40 trivial hr
end SX11_makeOwnAdvert
set_option maxRecDepth 100000 in
theorem okX11_makeOwnAdvert (l : Launch) (D : va_G) (cy : Nat → ClassId) (B : Nat → Nat → Nat) (ids : List (Nat × Nat)) (hst : zSt B ids) (N : Nat) (x0 : Nat) (hx0 : (11, x0) ∈ ids) (x1 : Nat) (hx1 : (1, x1) ∈ ids) {z : St} {r : Int32} {z' : St} (hW : zWf ids z) (h : fX11_makeOwnAdvert N x0 x1 z = some (r, z')) : zM l yX11_makeOwnAdvert (zws yX11_makeOwnAdvert cX11_makeOwnAdvert 6 none) rmX11_makeOwnAdvert D cy B ids [.ref (B 11 x0), .ref (B 1 x1)] none True z z' :=
  zM_of hst hW (by decide +kernel) (Nat.le_of_ble_eq_true rfl) (fun p e s m args below meth c A ls F hA hret hlocks hr hl => bX11_makeOwnAdvert_0 hst F hA (zEnd_v F hret hlocks) x0 x1 hx0 hx1 hr hl h)
abbrev rmX11_addressToFriend : Room := { frames := 1, cells := 0, slots := 0, locals := 22 }
theorem hdX11_addressToFriend : yX11_addressToFriend.cls ≠ "java/lang/invoke/MethodHandle" ∧ yX11_addressToFriend.cls ≠ "java/lang/invoke/VarHandle" ∧ (parseMethodDescriptor yX11_addressToFriend.desc).map (fun d => d.parameters.length) = some 2 := by decide +kernel
theorem hroX11_addressToFriend_X1_nextNumber : rmX1_nextNumber.frames + 1 ≤ rmX11_addressToFriend.frames ∧ 8 + (1 + 11) + rmX1_nextNumber.locals ≤ rmX11_addressToFriend.locals := by decide
theorem hroX11_addressToFriend_X1_portOn : rmX1_portOn.frames + 1 ≤ rmX11_addressToFriend.frames ∧ 8 + (3 + 11) + rmX1_portOn.locals ≤ rmX11_addressToFriend.locals := by decide
section SX11_addressToFriend
variable {p : Program} {l : Launch} {e : Env} {s : State} {m : MethodId} {args : Array Value} {below : List Frame} {meth : Method} {c : Code} {Q : State → Prop} {D : va_G} {cy : Nat → ClassId} {B : Nat → Nat → Nat} {ids : List (Nat × Nat)} {A : Nat → Prop}
def fX11_addressToFriend (N : Nat)  (x0 : Nat) (x1 : Nat) (x2 : Int32) (z : St) : Option (Option Nat × St) := zk (x2 / (16 : Int32)) 6 <| zl (zgQ z 112 x1 (Int32.toNatClampNeg (x2 / (16 : Int32)))) fun y2 => zk (x2 - x2 / (16 : Int32) * (16 : Int32)) 16 <| zl (zgQ z 140 x0 (Int32.toNatClampNeg (x2 - x2 / (16 : Int32) * (16 : Int32)))) fun y4 => zd y2 fun a5 => zl (zgR z 8 1 a5) fun y6 => zd y6 fun a7 => zd y4 fun a8 => zc (fX1_portOn N a8 (zgI z 5 0 a7) z) fun r9 z10 => zo r9 (some (none, z10)) fun a14 => zl (zgR z10 11 13 x0) fun y15 => zd y15 fun a16 => zl (zsI z10 7 0 a16 (zgI z10 8 4 a5)) fun z17 => zl (zgR z17 11 13 x0) fun y18 => zd y18 fun a19 => zl (zsI z17 7 1 a19 (zgI z17 8 4 a14)) fun z20 => zl (zgR z20 11 13 x0) fun y21 => zc (fX1_nextNumber N x1 z20) fun r22 z23 => zd y21 fun a26 => zl (zsI z23 7 3 a26 r22) fun z27 => some ((some a14), z27)
set_option maxHeartbeats 4000000 in
set_option maxRecDepth 100000 in
theorem bX11_addressToFriend_0 (hst : zSt B ids) (F : zFx p m c cX11_addressToFriend 5 s args RX11 D cy B ids A) (hA : ∀ q : Nat, s.heap.size ≤ q → A q) {r : Option Nat} {z' : St} (E : zEnd p l e rmX11_addressToFriend s m args below meth c cX11_addressToFriend D cy B ids A Q (some (va_rf (r.map (B 8)))) z' .areturn (∀ i, r = some i → (8, i) ∈ ids)) {N : Nat}  (x0 : Nat) (x1 : Nat) (x2 : Int32) (hx0 : (11, x0) ∈ ids) (hx1 : (1, x1) ∈ ids) {z : St} {H : Heap} {locs : List Loc} {ls : Array Slot} (hr : zRep D cy B ids A s.heap z H locs) (hl : lv_has ls 5 [(0, .ref (B 11 x0)), (1, .ref (B 1 x1)), (2, .int x2)]) (h : fX11_addressToFriend N x0 x1 x2 z = some (r, z')) : W p l e rmX11_addressToFriend s m args below meth c H locs 0 0 Q (F0 m 0 ls []) := by
  unfold fX11_addressToFriend at h
  refine lv_aload_n F.1 F.2.1 dX11_addressToFriend_0 rfl (lv_at hl 1 rfl) ?_
  refine gf11_134 F hx1 hr dX11_addressToFriend_1 ?_
  refine lv_iload_n F.1 F.2.1 dX11_addressToFriend_4 rfl (lv_at hl 2 rfl) ?_
  refine lv_bipush (v := (16 : Int32)) F.1 F.2.1 dX11_addressToFriend_5 (by decide) ?_
  refine lv_idiv F.1 F.2.1 dX11_addressToFriend_7 (by decide) ?_
  replace h := zk_some h
  obtain ⟨c1, h⟩ := h
  refine zr_aaldv (k := 112) (by decide) rfl rfl (zlen_d (by decide)) F (zal_a F hx1 (j := 2) rfl) hr dX11_addressToFriend_8 c1 (fun y2 ey2 => ?_)
  replace h := zl_sub ey2 h
  have hy2 := zal_q hr (zal_a F hx1 (j := 2) rfl) rfl ey2
  clear ey2
  refine zr_astore_n (lv' := [(3, va_rf (Option.map (B 8) y2)), (0, .ref (B 11 x0)), (1, .ref (B 1 x1)), (2, .int x2)]) F.1 F.2.1 dX11_addressToFriend_9 rfl hl (by decide) rfl (fun ls hl => ?_)
  refine lv_aload_n F.1 F.2.1 dX11_addressToFriend_10 rfl (lv_at hl 1 rfl) ?_
  refine gf11_17 F hx0 hr dX11_addressToFriend_11 ?_
  refine lv_iload_n F.1 F.2.1 dX11_addressToFriend_14 rfl (lv_at hl 3 rfl) ?_
  refine lv_bipush (v := (16 : Int32)) F.1 F.2.1 dX11_addressToFriend_15 (by decide) ?_
  refine lv_irem F.1 F.2.1 dX11_addressToFriend_17 (by decide) ?_
  replace h := zk_some h
  obtain ⟨c3, h⟩ := h
  refine zr_aaldv (k := 140) (by decide) rfl rfl (zlen_d (by decide)) F (zal_a F hx0 (j := 2) rfl) hr dX11_addressToFriend_18 c3 (fun y4 ey4 => ?_)
  replace h := zl_sub ey4 h
  have hy4 := zal_q hr (zal_a F hx0 (j := 2) rfl) rfl ey4
  clear ey4
  refine zr_aload_n F.1 F.2.1 dX11_addressToFriend_19 rfl (lv_at hl 0 rfl) ?_
  replace h := zd_some h
  obtain ⟨a5, rfl, h⟩ := h
  refine gf11_261 F (hy2 _ rfl) hr dX11_addressToFriend_20 (fun y6 ey6 => ?_)
  replace h := zl_sub ey6 h
  have hy6 := zal_g hr (hy2 _ rfl) (j := 1) rfl ey6
  clear ey6
  replace h := zd_some h
  obtain ⟨a7, rfl, h⟩ := h
  refine gf11_478 F (hy6 _ rfl) hr dX11_addressToFriend_23 ?_
  replace h := zd_some h
  obtain ⟨a8, rfl, h⟩ := h
  replace h := zc_some h
  obtain ⟨r9, z10, hc11, h⟩ := h
  refine zr_callr (zrun_VN (As := [.int (zgI z 5 0 a7)]) (rest := []) zn_293 zq_295 zs_X1_portOn zq_297 zq_9 hdX1_portOn (by decide) (T := TX1) (N := 13) rfl (okX1_portOn l D cy B ids hst N a8 (hy4 _ rfl) (zgI z 5 0 a7)  hr.2.2 hc11) F hr (hy4 _ rfl) hl.1 rfl (by decide) dX11_addressToFriend_26 rfl rfl hroX11_addressToFriend_X1_portOn ⟨Nat.zero_le _, Nat.zero_le _⟩) F hA hr (fun H locs hw12 hr => ?_)
  clear hc11
  refine zr_astore (lv' := [(4, va_rf (Option.map (B 8) r9)), (3, .ref (B 8 a5)), (0, .ref (B 11 x0)), (1, .ref (B 1 x1)), (2, .int x2)]) F.1 F.2.1 dX11_addressToFriend_29 hl (by decide) rfl (fun ls hl => ?_)
  refine zr_aload F.1 F.2.1 dX11_addressToFriend_31 (lv_at hl 0 rfl) ?_
  refine zr_ifnonnull (tgt := 38) F.1 F.2.1 dX11_addressToFriend_33 (by decide) (fun e13 => ?_) (fun a14 e13 => ?_)
  · replace h := zo_n e13 h
    subst e13
    refine lv_null F.1 F.2.1 dX11_addressToFriend_36 ?_
    obtain ⟨rfl, rfl⟩ := zret h
    exact E _ _ _ _ dX11_addressToFriend_37 zal_0 hr
  · replace h := zo_s e13 h
    subst e13
    refine lv_aload_n F.1 F.2.1 dX11_addressToFriend_38 rfl (lv_at hl 2 rfl) ?_
    refine gf11_31 F hx0 hr dX11_addressToFriend_39 (fun y15 ey15 => ?_)
    replace h := zl_sub ey15 h
    have hy15 := zal_g hr hx0 (j := 13) rfl ey15
    clear ey15
    refine lv_aload_n F.1 F.2.1 dX11_addressToFriend_42 rfl (lv_at hl 1 rfl) ?_
    refine gf11_141 F (hy2 _ rfl) hr dX11_addressToFriend_43 ?_
    replace h := zd_some h
    obtain ⟨a16, rfl, h⟩ := h
    refine pf11_535 F (hy15 _ rfl) hr dX11_addressToFriend_46 (zgI z10 8 4 a5) (fun H locs z17 ez17 hr => ?_)
    replace h := zl_sub ez17 h
    clear ez17
    refine lv_aload_n F.1 F.2.1 dX11_addressToFriend_49 rfl (lv_at hl 2 rfl) ?_
    refine gf11_31 F hx0 hr dX11_addressToFriend_50 (fun y18 ey18 => ?_)
    replace h := zl_sub ey18 h
    have hy18 := zal_g hr hx0 (j := 13) rfl ey18
    clear ey18
    refine lv_aload F.1 F.2.1 dX11_addressToFriend_53 (lv_at hl 0 rfl) ?_
    refine gf11_141 F (hw12 _ rfl) hr dX11_addressToFriend_55 ?_
    replace h := zd_some h
    obtain ⟨a19, rfl, h⟩ := h
    refine pf11_538 F (hy18 _ rfl) hr dX11_addressToFriend_58 (zgI z17 8 4 a14) (fun H locs z20 ez20 hr => ?_)
    replace h := zl_sub ez20 h
    clear ez20
    refine lv_aload_n F.1 F.2.1 dX11_addressToFriend_61 rfl (lv_at hl 2 rfl) ?_
    refine gf11_31 F hx0 hr dX11_addressToFriend_62 (fun y21 ey21 => ?_)
    replace h := zl_sub ey21 h
    have hy21 := zal_g hr hx0 (j := 13) rfl ey21
    clear ey21
    refine lv_aload_n F.1 F.2.1 dX11_addressToFriend_65 rfl (lv_at hl 3 rfl) ?_
    replace h := zc_some h
    obtain ⟨r22, z23, hc24, h⟩ := h
    refine zr_calli (zrun_VN (As := []) (rest := [va_rf (Option.map (B 7) y21)]) zn_1309 zq_1311 zs_X1_nextNumber zq_1312 zq_9 hdX1_nextNumber (by decide) (T := TX1) (N := 13) rfl (okX1_nextNumber l D cy B ids hst N x1 hx1 hr.2.2 hc24) F hr hx1 hl.1 rfl (by simp only [List.map, zrf_cat]; exact Nat.le_of_ble_eq_true rfl) dX11_addressToFriend_66 rfl rfl hroX11_addressToFriend_X1_nextNumber ⟨Nat.zero_le _, Nat.zero_le _⟩) F hA hr (fun H locs hw25 hr => ?_)
    clear hc24
    replace h := zd_some h
    obtain ⟨a26, rfl, h⟩ := h
    refine pf11_691 F (hy21 _ rfl) hr dX11_addressToFriend_69 r22 (fun H locs z27 ez27 hr => ?_)
    replace h := zl_sub ez27 h
    clear ez27
    refine lv_aload F.1 F.2.1 dX11_addressToFriend_72 (lv_at hl 0 rfl) ?_
    obtain ⟨rfl, rfl⟩ := zret h
    exact E _ _ _ _ dX11_addressToFriend_74 (zal_s (hw12 _ rfl)) hr
end SX11_addressToFriend
set_option maxRecDepth 100000 in
theorem okX11_addressToFriend (l : Launch) (D : va_G) (cy : Nat → ClassId) (B : Nat → Nat → Nat) (ids : List (Nat × Nat)) (hst : zSt B ids) (N : Nat) (x0 : Nat) (hx0 : (11, x0) ∈ ids) (x1 : Nat) (hx1 : (1, x1) ∈ ids) (x2 : Int32) {z : St} {r : Option Nat} {z' : St} (hW : zWf ids z) (h : fX11_addressToFriend N x0 x1 x2 z = some (r, z')) : zM l yX11_addressToFriend (zws yX11_addressToFriend cX11_addressToFriend 5 (some (.object "WholeInternet$Port"))) rmX11_addressToFriend D cy B ids [.ref (B 11 x0), .ref (B 1 x1), .int x2] (some (va_rf (r.map (B 8)))) (∀ i, r = some i → (8, i) ∈ ids) z z' :=
  zM_of hst hW (by decide +kernel) (Nat.le_of_ble_eq_true rfl) (fun p e s m args below meth c A ls F hA hret hlocks hr hl => bX11_addressToFriend_0 hst F hA (zEnd_r F hret hlocks) x0 x1 x2 hx0 hx1 hr hl h)
abbrev rmX11_sendDue : Room := { frames := 5, cells := 0, slots := 0, locals := 164 }
theorem hdX11_sendDue : yX11_sendDue.cls ≠ "java/lang/invoke/MethodHandle" ∧ yX11_sendDue.cls ≠ "java/lang/invoke/VarHandle" ∧ (parseMethodDescriptor yX11_sendDue.desc).map (fun d => d.parameters.length) = some 1 := by decide +kernel
theorem hroX11_sendDue_X0_putAdvert : rmX0_putAdvert.frames + 1 ≤ rmX11_sendDue.frames ∧ 8 + (5 + 11) + rmX0_putAdvert.locals ≤ rmX11_sendDue.locals := by decide
theorem hroX11_sendDue_X11_addressToFriend : rmX11_addressToFriend.frames + 1 ≤ rmX11_sendDue.frames ∧ 8 + (5 + 11) + rmX11_addressToFriend.locals ≤ rmX11_sendDue.locals := by decide
theorem hroX11_sendDue_X11_hand : rmX11_hand.frames + 1 ≤ rmX11_sendDue.frames ∧ 8 + (5 + 11) + rmX11_hand.locals ≤ rmX11_sendDue.locals := by decide
theorem hroX11_sendDue_X9_setDue : rmX9_setDue.frames + 1 ≤ rmX11_sendDue.frames ∧ 8 + (4 + 11) + rmX9_setDue.locals ≤ rmX11_sendDue.locals := by decide
section SX11_sendDue
variable {p : Program} {l : Launch} {e : Env} {s : State} {m : MethodId} {args : Array Value} {below : List Frame} {meth : Method} {c : Code} {Q : State → Prop} {D : va_G} {cy : Nat → ClassId} {B : Nat → Nat → Nat} {ids : List (Nat × Nat)} {A : Nat → Prop}
def fX11_sendDue_127 (N : Nat) (K7 : Nat → Nat → Option Nat → Int32 → St → Option (Int32 × St)) (K26 : Nat → Nat → Nat → Int32 → Int32 → Int32 → St → Option (Int32 × St)) (x0 : Nat) (x1 : Nat) (x2 : Nat) (x3 : Int32) (x4 : Int32) (x5 : Int32) (z : St) : Option (Int32 × St) := zl (x5 + 1) fun v1 => K26 x0 x1 x2 x3 x4 v1 z
set_option maxHeartbeats 4000000 in
set_option maxRecDepth 100000 in
theorem bX11_sendDue_127 (hst : zSt B ids) (F : zFx p m c cX11_sendDue 8 s args RX11 D cy B ids A) (hA : ∀ q : Nat, s.heap.size ≤ q → A q) {r : Int32} {z' : St} (E : zEnd p l e rmX11_sendDue s m args below meth c cX11_sendDue D cy B ids A Q none z' .return_ True) {N : Nat} {K7 : Nat → Nat → Option Nat → Int32 → St → Option (Int32 × St)} {K26 : Nat → Nat → Nat → Int32 → Int32 → Int32 → St → Option (Int32 × St)} (hK7 : ∀ (x0 : Nat) (x1 : Nat) (x2 : Option Nat) (x3 : Int32) (hx0 : (11, x0) ∈ ids) (hx1 : (1, x1) ∈ ids) (hx2 : ∀ t, x2 = some t → (9, t) ∈ ids) {z : St} {H : Heap} {locs : List Loc} {ls : Array Slot} (hr : zRep D cy B ids A s.heap z H locs) (hl : lv_has ls 8 [(0, .ref (B 11 x0)), (1, .ref (B 1 x1)), (2, va_rf (Option.map (B 9) x2)), (3, .int x3)]), K7 x0 x1 x2 x3 z = some (r, z') → W p l e rmX11_sendDue s m args below meth c H locs 0 0 Q (F0 m 7 ls [])) (hK26 : ∀ (x0 : Nat) (x1 : Nat) (x2 : Nat) (x3 : Int32) (x4 : Int32) (x5 : Int32) (hx0 : (11, x0) ∈ ids) (hx1 : (1, x1) ∈ ids) (hx2 : (9, x2) ∈ ids) {z : St} {H : Heap} {locs : List Loc} {ls : Array Slot} (hr : zRep D cy B ids A s.heap z H locs) (hl : lv_has ls 8 [(0, .ref (B 11 x0)), (1, .ref (B 1 x1)), (2, .ref (B 9 x2)), (3, .int x3), (4, .int x4), (5, .int x5)]), K26 x0 x1 x2 x3 x4 x5 z = some (r, z') → W p l e rmX11_sendDue s m args below meth c H locs 0 0 Q (F0 m 26 ls [])) (x0 : Nat) (x1 : Nat) (x2 : Nat) (x3 : Int32) (x4 : Int32) (x5 : Int32) (hx0 : (11, x0) ∈ ids) (hx1 : (1, x1) ∈ ids) (hx2 : (9, x2) ∈ ids) {z : St} {H : Heap} {locs : List Loc} {ls : Array Slot} (hr : zRep D cy B ids A s.heap z H locs) (hl : lv_has ls 8 [(0, .ref (B 11 x0)), (1, .ref (B 1 x1)), (2, .ref (B 9 x2)), (3, .int x3), (4, .int x4), (5, .int x5)]) (h : fX11_sendDue_127 N K7 K26 x0 x1 x2 x3 x4 x5 z = some (r, z')) : W p l e rmX11_sendDue s m args below meth c H locs 0 0 Q (F0 m 127 ls []) := by
  unfold fX11_sendDue_127 at h
  obtain ⟨v1, ev1⟩ : ∃ y : Int32, y = (x5 + 1) := ⟨_, rfl⟩
  replace h := zl_sub ev1 h
  refine lv_iinc (v := v1) (lv' := [(5, .int v1), (0, .ref (B 11 x0)), (1, .ref (B 1 x1)), (2, .ref (B 9 x2)), (3, .int x3), (4, .int x4)]) F.1 F.2.1 dX11_sendDue_127 hl (k := 5) rfl (by rw [ev1]; rfl) (by decide) rfl (fun ls hl => ?_)
  refine lv_goto (tgt := 26) F.1 F.2.1 dX11_sendDue_130 (by decide) ?_
  exact hK26 x0 x1 x2 x3 x4 v1 hx0 hx1 hx2 hr (lv_sub hl [1, 2, 3, 4, 5, 0] rfl) h
def fX11_sendDue_112 (N : Nat) (K7 : Nat → Nat → Option Nat → Int32 → St → Option (Int32 × St)) (K26 : Nat → Nat → Nat → Int32 → Int32 → Int32 → St → Option (Int32 × St)) (x0 : Nat) (x1 : Nat) (x2 : Nat) (x3 : Int32) (x4 : Int32) (x5 : Int32) (z : St) : Option (Int32 × St) := zc (fX9_setDue N x2 x4 x5 ((zgI z 11 4 x0) + (15 : Int32)) z) fun _ z2 => fX11_sendDue_127 N K7 K26 x0 x1 x2 x3 x4 x5 z2
set_option maxHeartbeats 4000000 in
set_option maxRecDepth 100000 in
theorem bX11_sendDue_112 (hst : zSt B ids) (F : zFx p m c cX11_sendDue 8 s args RX11 D cy B ids A) (hA : ∀ q : Nat, s.heap.size ≤ q → A q) {r : Int32} {z' : St} (E : zEnd p l e rmX11_sendDue s m args below meth c cX11_sendDue D cy B ids A Q none z' .return_ True) {N : Nat} {K7 : Nat → Nat → Option Nat → Int32 → St → Option (Int32 × St)} {K26 : Nat → Nat → Nat → Int32 → Int32 → Int32 → St → Option (Int32 × St)} (hK7 : ∀ (x0 : Nat) (x1 : Nat) (x2 : Option Nat) (x3 : Int32) (hx0 : (11, x0) ∈ ids) (hx1 : (1, x1) ∈ ids) (hx2 : ∀ t, x2 = some t → (9, t) ∈ ids) {z : St} {H : Heap} {locs : List Loc} {ls : Array Slot} (hr : zRep D cy B ids A s.heap z H locs) (hl : lv_has ls 8 [(0, .ref (B 11 x0)), (1, .ref (B 1 x1)), (2, va_rf (Option.map (B 9) x2)), (3, .int x3)]), K7 x0 x1 x2 x3 z = some (r, z') → W p l e rmX11_sendDue s m args below meth c H locs 0 0 Q (F0 m 7 ls [])) (hK26 : ∀ (x0 : Nat) (x1 : Nat) (x2 : Nat) (x3 : Int32) (x4 : Int32) (x5 : Int32) (hx0 : (11, x0) ∈ ids) (hx1 : (1, x1) ∈ ids) (hx2 : (9, x2) ∈ ids) {z : St} {H : Heap} {locs : List Loc} {ls : Array Slot} (hr : zRep D cy B ids A s.heap z H locs) (hl : lv_has ls 8 [(0, .ref (B 11 x0)), (1, .ref (B 1 x1)), (2, .ref (B 9 x2)), (3, .int x3), (4, .int x4), (5, .int x5)]), K26 x0 x1 x2 x3 x4 x5 z = some (r, z') → W p l e rmX11_sendDue s m args below meth c H locs 0 0 Q (F0 m 26 ls [])) (x0 : Nat) (x1 : Nat) (x2 : Nat) (x3 : Int32) (x4 : Int32) (x5 : Int32) (hx0 : (11, x0) ∈ ids) (hx1 : (1, x1) ∈ ids) (hx2 : (9, x2) ∈ ids) {z : St} {H : Heap} {locs : List Loc} {ls : Array Slot} (hr : zRep D cy B ids A s.heap z H locs) (hl : lv_has ls 8 [(0, .ref (B 11 x0)), (1, .ref (B 1 x1)), (2, .ref (B 9 x2)), (3, .int x3), (4, .int x4), (5, .int x5)]) (h : fX11_sendDue_112 N K7 K26 x0 x1 x2 x3 x4 x5 z = some (r, z')) : W p l e rmX11_sendDue s m args below meth c H locs 0 0 Q (F0 m 112 ls []) := by
  unfold fX11_sendDue_112 at h
  refine lv_aload_n F.1 F.2.1 dX11_sendDue_112 rfl (lv_at hl 2 rfl) ?_
  refine lv_iload F.1 F.2.1 dX11_sendDue_113 (lv_at hl 4 rfl) ?_
  refine lv_iload F.1 F.2.1 dX11_sendDue_115 (lv_at hl 5 rfl) ?_
  refine lv_aload_n F.1 F.2.1 dX11_sendDue_117 rfl (lv_at hl 0 rfl) ?_
  refine gf11_176 F hx0 hr dX11_sendDue_118 ?_
  refine lv_bipush (v := (15 : Int32)) F.1 F.2.1 dX11_sendDue_121 (by decide) ?_
  refine lv_iadd F.1 F.2.1 dX11_sendDue_123 ?_
  replace h := zc_some h
  obtain ⟨r1, z2, hc3, h⟩ := h
  refine zr_callv (zrun_VN (As := [.int x4, .int x5, .int ((zgI z 11 4 x0) + (15 : Int32))]) (rest := []) zn_1188 zq_1178 zs_X9_setDue zq_1179 zq_10 hdX9_setDue (by decide) (T := TX9) (N := 13) rfl (okX9_setDue l D cy B ids hst N x2 hx2 x4  x5  ((zgI z 11 4 x0) + (15 : Int32))  hr.2.2 hc3) F hr hx2 hl.1 rfl (by decide) dX11_sendDue_124 rfl rfl hroX11_sendDue_X9_setDue ⟨Nat.zero_le _, Nat.zero_le _⟩) F hA hr (fun H locs hw4 hr => ?_)
  clear hc3
  exact bX11_sendDue_127 hst F hA E hK7 hK26 x0 x1 x2 x3 x4 x5 hx0 hx1 hx2 hr (lv_sub hl [0, 1, 2, 3, 4, 5] rfl) h
def fX11_sendDue_26b (N : Nat) (K7 : Nat → Nat → Option Nat → Int32 → St → Option (Int32 × St)) (K26 : Nat → Nat → Nat → Int32 → Int32 → Int32 → St → Option (Int32 × St)) (x0 : Nat) (x1 : Nat) (x2 : Nat) (x3 : Int32) (x4 : Int32) (x5 : Int32) (z : St) : Option (Int32 × St) := if (16 : Int32) ≤ x5 then (zl (x3 + 1) fun v2 => K7 x0 x1 (some x2) v2 z) else (zk x4 96 <| zk x5 16 <| zl (zgA z 135 (x2 * 96 + (Int32.toNatClampNeg x4)) (Int32.toNatClampNeg x5)) fun v5 => if v5 = 0 then (fX11_sendDue_127 N K7 K26 x0 x1 x2 x3 x4 x5 z) else (if v5 ≤ (zgI z 11 4 x0) then (zl (zgR z 9 12 x2) fun y8 => zl (zgR z 11 13 x0) fun y9 => zd y8 fun a10 => zd y9 fun a11 => zc (fX0_putAdvert N a10 a11 x5 z) fun _ z13 => zc (fX11_addressToFriend N x0 x1 x4 z13) fun r16 z17 => zo r16 (fX11_sendDue_112 N K7 K26 x0 x1 x2 x3 x4 x5 z17) fun a21 => zk (x4 / (16 : Int32)) 6 <| zl (zgQ z17 112 x1 (Int32.toNatClampNeg (x4 / (16 : Int32)))) fun y23 => zl (zgR z17 11 13 x0) fun y24 => zd y23 fun a25 => zd y24 fun a26 => zc (fX11_hand N x0 a25 (zgI z17 8 3 a21) a26 z17) fun _ z28 => fX11_sendDue_112 N K7 K26 x0 x1 x2 x3 x4 x5 z28) else (fX11_sendDue_127 N K7 K26 x0 x1 x2 x3 x4 x5 z)))
def fX11_sendDue_26 (N : Nat) (K7 : Nat → Nat → Option Nat → Int32 → St → Option (Int32 × St)) : Nat → Nat → Nat → Nat → Int32 → Int32 → Int32 → St → Option (Int32 × St)
  | 0 => fun _ _ _ _ _ _ _ => none
  | n + 1 => fX11_sendDue_26b N K7 (fX11_sendDue_26 N K7 n)
set_option maxHeartbeats 4000000 in
set_option maxRecDepth 100000 in
theorem bX11_sendDue_26 (hst : zSt B ids) (F : zFx p m c cX11_sendDue 8 s args RX11 D cy B ids A) (hA : ∀ q : Nat, s.heap.size ≤ q → A q) {r : Int32} {z' : St} (E : zEnd p l e rmX11_sendDue s m args below meth c cX11_sendDue D cy B ids A Q none z' .return_ True) {N : Nat} {K7 : Nat → Nat → Option Nat → Int32 → St → Option (Int32 × St)} {K26 : Nat → Nat → Nat → Int32 → Int32 → Int32 → St → Option (Int32 × St)} (hK7 : ∀ (x0 : Nat) (x1 : Nat) (x2 : Option Nat) (x3 : Int32) (hx0 : (11, x0) ∈ ids) (hx1 : (1, x1) ∈ ids) (hx2 : ∀ t, x2 = some t → (9, t) ∈ ids) {z : St} {H : Heap} {locs : List Loc} {ls : Array Slot} (hr : zRep D cy B ids A s.heap z H locs) (hl : lv_has ls 8 [(0, .ref (B 11 x0)), (1, .ref (B 1 x1)), (2, va_rf (Option.map (B 9) x2)), (3, .int x3)]), K7 x0 x1 x2 x3 z = some (r, z') → W p l e rmX11_sendDue s m args below meth c H locs 0 0 Q (F0 m 7 ls [])) (hK26 : ∀ (x0 : Nat) (x1 : Nat) (x2 : Nat) (x3 : Int32) (x4 : Int32) (x5 : Int32) (hx0 : (11, x0) ∈ ids) (hx1 : (1, x1) ∈ ids) (hx2 : (9, x2) ∈ ids) {z : St} {H : Heap} {locs : List Loc} {ls : Array Slot} (hr : zRep D cy B ids A s.heap z H locs) (hl : lv_has ls 8 [(0, .ref (B 11 x0)), (1, .ref (B 1 x1)), (2, .ref (B 9 x2)), (3, .int x3), (4, .int x4), (5, .int x5)]), K26 x0 x1 x2 x3 x4 x5 z = some (r, z') → W p l e rmX11_sendDue s m args below meth c H locs 0 0 Q (F0 m 26 ls [])) (x0 : Nat) (x1 : Nat) (x2 : Nat) (x3 : Int32) (x4 : Int32) (x5 : Int32) (hx0 : (11, x0) ∈ ids) (hx1 : (1, x1) ∈ ids) (hx2 : (9, x2) ∈ ids) {z : St} {H : Heap} {locs : List Loc} {ls : Array Slot} (hr : zRep D cy B ids A s.heap z H locs) (hl : lv_has ls 8 [(0, .ref (B 11 x0)), (1, .ref (B 1 x1)), (2, .ref (B 9 x2)), (3, .int x3), (4, .int x4), (5, .int x5)]) (h : fX11_sendDue_26b N K7 K26 x0 x1 x2 x3 x4 x5 z = some (r, z')) : W p l e rmX11_sendDue s m args below meth c H locs 0 0 Q (F0 m 26 ls []) := by
  unfold fX11_sendDue_26b at h
  refine lv_iload F.1 F.2.1 dX11_sendDue_26 (lv_at hl 5 rfl) ?_
  refine lv_bipush (v := (16 : Int32)) F.1 F.2.1 dX11_sendDue_28 (by decide) ?_
  refine lv_icmp_ge (tgt := 133) F.1 F.2.1 dX11_sendDue_30 (by decide) (fun c1 => ?_) (fun c1 => ?_)
  · replace h := zi_t c1 h
    obtain ⟨v2, ev2⟩ : ∃ y : Int32, y = (x3 + 1) := ⟨_, rfl⟩
    replace h := zl_sub ev2 h
    refine lv_iinc (v := v2) (lv' := [(3, .int v2), (0, .ref (B 11 x0)), (1, .ref (B 1 x1)), (2, .ref (B 9 x2)), (4, .int x4), (5, .int x5)]) F.1 F.2.1 dX11_sendDue_133 hl (k := 3) rfl (by rw [ev2]; rfl) (by decide) rfl (fun ls hl => ?_)
    refine lv_goto (tgt := 7) F.1 F.2.1 dX11_sendDue_136 (by decide) ?_
    exact hK7 x0 x1 (some x2) v2 hx0 hx1 (zal_s hx2) hr (lv_sub hl [1, 2, 3, 0] rfl) h
  · replace h := zi_f c1 h
    refine lv_aload_n F.1 F.2.1 dX11_sendDue_33 rfl (lv_at hl 2 rfl) ?_
    refine gf11_806 F hx2 hr dX11_sendDue_34 ?_
    refine lv_iload F.1 F.2.1 dX11_sendDue_37 (lv_at hl 4 rfl) ?_
    replace h := zk_some h
    obtain ⟨c3, h⟩ := h
    refine zr_rald (k := 134) (by decide) rfl (by decide) rfl F (zal_a F hx2 (j := 4) rfl) hr dX11_sendDue_39 c3 ?_
    refine lv_iload F.1 F.2.1 dX11_sendDue_40 (lv_at hl 5 rfl) ?_
    replace h := zk_some h
    obtain ⟨c4, h⟩ := h
    refine zr_iald (k := 135) (by decide) rfl (by decide) F (zal_w F (zal_a F hx2 (j := 4) rfl) (k := 134) rfl c3) hr dX11_sendDue_42 c4 ?_
    refine lv_topi (fun v5 ev5 => ?_)
    replace h := zl_sub ev5 h
    refine lv_istore (lv' := [(6, .int v5), (0, .ref (B 11 x0)), (1, .ref (B 1 x1)), (2, .ref (B 9 x2)), (3, .int x3), (4, .int x4), (5, .int x5)]) F.1 F.2.1 dX11_sendDue_43 hl (by decide) rfl (fun ls hl => ?_)
    refine lv_iload F.1 F.2.1 dX11_sendDue_45 (lv_at hl 0 rfl) ?_
    refine lv_if_eq (tgt := 127) F.1 F.2.1 dX11_sendDue_47 (by decide) (fun c6 => ?_) (fun c6 => ?_)
    · replace h := zi_t c6 h
      exact bX11_sendDue_127 hst F hA E hK7 hK26 x0 x1 x2 x3 x4 x5 hx0 hx1 hx2 hr (lv_sub hl [1, 2, 3, 4, 5, 6] rfl) h
    · replace h := zi_f c6 h
      refine lv_iload F.1 F.2.1 dX11_sendDue_50 (lv_at hl 0 rfl) ?_
      refine lv_aload_n F.1 F.2.1 dX11_sendDue_52 rfl (lv_at hl 1 rfl) ?_
      refine gf11_176 F hx0 hr dX11_sendDue_53 ?_
      refine lv_icmp_le (tgt := 62) F.1 F.2.1 dX11_sendDue_56 (by decide) (fun c7 => ?_) (fun c7 => ?_)
      · replace h := zi_t c7 h
        refine lv_aload_n F.1 F.2.1 dX11_sendDue_62 rfl (lv_at hl 3 rfl) ?_
        refine gf11_399 F hx2 hr dX11_sendDue_63 (fun y8 ey8 => ?_)
        replace h := zl_sub ey8 h
        have hy8 := zal_g hr hx2 (j := 12) rfl ey8
        clear ey8
        refine lv_aload_n F.1 F.2.1 dX11_sendDue_66 rfl (lv_at hl 1 rfl) ?_
        refine gf11_31 F hx0 hr dX11_sendDue_67 (fun y9 ey9 => ?_)
        replace h := zl_sub ey9 h
        have hy9 := zal_g hr hx0 (j := 13) rfl ey9
        clear ey9
        refine lv_iload F.1 F.2.1 dX11_sendDue_70 (lv_at hl 6 rfl) ?_
        replace h := zd_some h
        obtain ⟨a10, rfl, h⟩ := h
        replace h := zd_some h
        obtain ⟨a11, rfl, h⟩ := h
        replace h := zc_some h
        obtain ⟨r12, z13, hc14, h⟩ := h
        refine zr_callv (zrun_VN (As := [.ref (B 7 a11), .int x5]) (rest := []) zn_1541 zq_1543 zs_X0_putAdvert zq_1544 zq_11 hdX0_putAdvert (by decide) (T := TX0) (N := 16) rfl (okX0_putAdvert l D cy B ids hst N a10 (hy8 _ rfl) a11 (hy9 _ rfl) x5  hr.2.2 hc14) F hr (hy8 _ rfl) hl.1 rfl (by decide) dX11_sendDue_72 rfl rfl hroX11_sendDue_X0_putAdvert ⟨Nat.zero_le _, Nat.zero_le _⟩) F hA hr (fun H locs hw15 hr => ?_)
        clear hc14
        refine lv_aload_n F.1 F.2.1 dX11_sendDue_75 rfl (lv_at hl 1 rfl) ?_
        refine lv_aload_n F.1 F.2.1 dX11_sendDue_76 rfl (lv_at hl 2 rfl) ?_
        refine lv_iload F.1 F.2.1 dX11_sendDue_77 (lv_at hl 5 rfl) ?_
        replace h := zc_some h
        obtain ⟨r16, z17, hc18, h⟩ := h
        refine zr_callr (zrun_V (As := [.ref (B 1 x1), .int x4]) (rest := []) zq_1533 zq_1535 zs_X11_addressToFriend zq_1536 zq_1 hdX11_addressToFriend (by decide) (T := TX11) (N := 21) rfl (okX11_addressToFriend l D cy B ids hst N x0 hx0 x1 hx1 x4  hr.2.2 hc18) F hr hx0 hl.1 rfl (by decide) dX11_sendDue_79 rfl rfl hroX11_sendDue_X11_addressToFriend ⟨Nat.zero_le _, Nat.zero_le _⟩) F hA hr (fun H locs hw19 hr => ?_)
        clear hc18
        refine zr_astore (lv' := [(7, va_rf (Option.map (B 8) r16)), (6, .int v5), (0, .ref (B 11 x0)), (1, .ref (B 1 x1)), (2, .ref (B 9 x2)), (3, .int x3), (4, .int x4), (5, .int x5)]) F.1 F.2.1 dX11_sendDue_82 hl (by decide) rfl (fun ls hl => ?_)
        refine zr_aload F.1 F.2.1 dX11_sendDue_84 (lv_at hl 0 rfl) ?_
        refine zr_ifnull (tgt := 112) F.1 F.2.1 dX11_sendDue_86 (by decide) (fun e20 => ?_) (fun a21 e20 => ?_)
        · replace h := zo_n e20 h
          subst e20
          exact bX11_sendDue_112 hst F hA E hK7 hK26 x0 x1 x2 x3 x4 x5 hx0 hx1 hx2 hr (lv_sub hl [2, 3, 4, 5, 6, 7] rfl) h
        · replace h := zo_s e20 h
          subst e20
          refine lv_aload_n F.1 F.2.1 dX11_sendDue_89 rfl (lv_at hl 2 rfl) ?_
          refine lv_aload_n F.1 F.2.1 dX11_sendDue_90 rfl (lv_at hl 3 rfl) ?_
          refine gf11_134 F hx1 hr dX11_sendDue_91 ?_
          refine lv_iload F.1 F.2.1 dX11_sendDue_94 (lv_at hl 6 rfl) ?_
          refine lv_bipush (v := (16 : Int32)) F.1 F.2.1 dX11_sendDue_96 (by decide) ?_
          refine lv_idiv F.1 F.2.1 dX11_sendDue_98 (by decide) ?_
          replace h := zk_some h
          obtain ⟨c22, h⟩ := h
          refine zr_aaldv (k := 112) (by decide) rfl rfl (zlen_d (by decide)) F (zal_a F hx1 (j := 2) rfl) hr dX11_sendDue_99 c22 (fun y23 ey23 => ?_)
          replace h := zl_sub ey23 h
          have hy23 := zal_q hr (zal_a F hx1 (j := 2) rfl) rfl ey23
          clear ey23
          refine lv_aload F.1 F.2.1 dX11_sendDue_100 (lv_at hl 0 rfl) ?_
          refine gf11_519 F (hw19 _ rfl) hr dX11_sendDue_102 ?_
          refine lv_aload_n F.1 F.2.1 dX11_sendDue_105 rfl (lv_at hl 2 rfl) ?_
          refine gf11_31 F hx0 hr dX11_sendDue_106 (fun y24 ey24 => ?_)
          replace h := zl_sub ey24 h
          have hy24 := zal_g hr hx0 (j := 13) rfl ey24
          clear ey24
          replace h := zd_some h
          obtain ⟨a25, rfl, h⟩ := h
          replace h := zd_some h
          obtain ⟨a26, rfl, h⟩ := h
          replace h := zc_some h
          obtain ⟨r27, z28, hc29, h⟩ := h
          refine zr_callv (zrun_V (As := [.ref (B 8 a25), .int (zgI z17 8 3 a21), .ref (B 7 a26)]) (rest := []) zq_1431 zq_1433 zs_X11_hand zq_1434 zq_1 hdX11_hand (by decide) (T := TX11) (N := 21) rfl (okX11_hand l D cy B ids hst N x0 hx0 a25 (hy23 _ rfl) (zgI z17 8 3 a21)  a26 (hy24 _ rfl) hr.2.2 hc29) F hr hx0 hl.1 rfl (by decide) dX11_sendDue_109 rfl rfl hroX11_sendDue_X11_hand ⟨Nat.zero_le _, Nat.zero_le _⟩) F hA hr (fun H locs hw30 hr => ?_)
          clear hc29
          exact bX11_sendDue_112 hst F hA E hK7 hK26 x0 x1 x2 x3 x4 x5 hx0 hx1 hx2 hr (lv_sub hl [2, 3, 4, 5, 6, 7] rfl) h
      · replace h := zi_f c7 h
        refine lv_goto (tgt := 127) F.1 F.2.1 dX11_sendDue_59 (by decide) ?_
        exact bX11_sendDue_127 hst F hA E hK7 hK26 x0 x1 x2 x3 x4 x5 hx0 hx1 hx2 hr (lv_sub hl [1, 2, 3, 4, 5, 6] rfl) h
theorem lX11_sendDue_26 (hst : zSt B ids) (F : zFx p m c cX11_sendDue 8 s args RX11 D cy B ids A) (hA : ∀ q : Nat, s.heap.size ≤ q → A q) {r : Int32} {z' : St} (E : zEnd p l e rmX11_sendDue s m args below meth c cX11_sendDue D cy B ids A Q none z' .return_ True) {N : Nat} {K7 : Nat → Nat → Option Nat → Int32 → St → Option (Int32 × St)} (hK7 : ∀ (x0 : Nat) (x1 : Nat) (x2 : Option Nat) (x3 : Int32) (hx0 : (11, x0) ∈ ids) (hx1 : (1, x1) ∈ ids) (hx2 : ∀ t, x2 = some t → (9, t) ∈ ids) {z : St} {H : Heap} {locs : List Loc} {ls : Array Slot} (hr : zRep D cy B ids A s.heap z H locs) (hl : lv_has ls 8 [(0, .ref (B 11 x0)), (1, .ref (B 1 x1)), (2, va_rf (Option.map (B 9) x2)), (3, .int x3)]), K7 x0 x1 x2 x3 z = some (r, z') → W p l e rmX11_sendDue s m args below meth c H locs 0 0 Q (F0 m 7 ls [])) : ∀ (n : Nat) (x0 : Nat) (x1 : Nat) (x2 : Nat) (x3 : Int32) (x4 : Int32) (x5 : Int32) (hx0 : (11, x0) ∈ ids) (hx1 : (1, x1) ∈ ids) (hx2 : (9, x2) ∈ ids) {z : St} {H : Heap} {locs : List Loc} {ls : Array Slot} (hr : zRep D cy B ids A s.heap z H locs) (hl : lv_has ls 8 [(0, .ref (B 11 x0)), (1, .ref (B 1 x1)), (2, .ref (B 9 x2)), (3, .int x3), (4, .int x4), (5, .int x5)]), fX11_sendDue_26 N K7 n x0 x1 x2 x3 x4 x5 z = some (r, z') → W p l e rmX11_sendDue s m args below meth c H locs 0 0 Q (F0 m 26 ls []) := by
  intro n
  induction n with
  | zero => intro x0 x1 x2 x3 x4 x5 hx0 hx1 hx2 z H locs ls hr hl h; cases h
  | succ n ih => intro x0 x1 x2 x3 x4 x5 hx0 hx1 hx2 z H locs ls hr hl h; exact bX11_sendDue_26 hst F hA E hK7 ih x0 x1 x2 x3 x4 x5 hx0 hx1 hx2 hr hl h
def fX11_sendDue_7b (N : Nat) (K7 : Nat → Nat → Option Nat → Int32 → St → Option (Int32 × St)) (x0 : Nat) (x1 : Nat) (x2 : Option Nat) (x3 : Int32) (z : St) : Option (Int32 × St) := zd x2 fun a1 => if (zgI z 9 1 a1) ≤ x3 then (some (0, z)) else (zk x3 16 <| zl (zgA z 131 a1 (Int32.toNatClampNeg x3)) fun v4 => fX11_sendDue_26 N K7 N x0 x1 a1 x3 v4 (0 : Int32) z)
def fX11_sendDue_7 (N : Nat)  : Nat → Nat → Nat → Option Nat → Int32 → St → Option (Int32 × St)
  | 0 => fun _ _ _ _ _ => none
  | n + 1 => fX11_sendDue_7b N (fX11_sendDue_7 N  n)
set_option maxHeartbeats 4000000 in
set_option maxRecDepth 100000 in
theorem bX11_sendDue_7 (hst : zSt B ids) (F : zFx p m c cX11_sendDue 8 s args RX11 D cy B ids A) (hA : ∀ q : Nat, s.heap.size ≤ q → A q) {r : Int32} {z' : St} (E : zEnd p l e rmX11_sendDue s m args below meth c cX11_sendDue D cy B ids A Q none z' .return_ True) {N : Nat} {K7 : Nat → Nat → Option Nat → Int32 → St → Option (Int32 × St)} (hK7 : ∀ (x0 : Nat) (x1 : Nat) (x2 : Option Nat) (x3 : Int32) (hx0 : (11, x0) ∈ ids) (hx1 : (1, x1) ∈ ids) (hx2 : ∀ t, x2 = some t → (9, t) ∈ ids) {z : St} {H : Heap} {locs : List Loc} {ls : Array Slot} (hr : zRep D cy B ids A s.heap z H locs) (hl : lv_has ls 8 [(0, .ref (B 11 x0)), (1, .ref (B 1 x1)), (2, va_rf (Option.map (B 9) x2)), (3, .int x3)]), K7 x0 x1 x2 x3 z = some (r, z') → W p l e rmX11_sendDue s m args below meth c H locs 0 0 Q (F0 m 7 ls [])) (x0 : Nat) (x1 : Nat) (x2 : Option Nat) (x3 : Int32) (hx0 : (11, x0) ∈ ids) (hx1 : (1, x1) ∈ ids) (hx2 : ∀ t, x2 = some t → (9, t) ∈ ids) {z : St} {H : Heap} {locs : List Loc} {ls : Array Slot} (hr : zRep D cy B ids A s.heap z H locs) (hl : lv_has ls 8 [(0, .ref (B 11 x0)), (1, .ref (B 1 x1)), (2, va_rf (Option.map (B 9) x2)), (3, .int x3)]) (h : fX11_sendDue_7b N K7 x0 x1 x2 x3 z = some (r, z')) : W p l e rmX11_sendDue s m args below meth c H locs 0 0 Q (F0 m 7 ls []) := by
  unfold fX11_sendDue_7b at h
  refine lv_iload_n F.1 F.2.1 dX11_sendDue_7 rfl (lv_at hl 3 rfl) ?_
  refine zr_aload_n F.1 F.2.1 dX11_sendDue_8 rfl (lv_at hl 2 rfl) ?_
  replace h := zd_some h
  obtain ⟨a1, rfl, h⟩ := h
  refine gf11_762 F (hx2 _ rfl) hr dX11_sendDue_9 ?_
  refine lv_icmp_ge (tgt := 139) F.1 F.2.1 dX11_sendDue_12 (by decide) (fun c2 => ?_) (fun c2 => ?_)
  · replace h := zi_t c2 h
    obtain ⟨rfl, rfl⟩ := zret h
    exact E _ _ _ _ dX11_sendDue_139 trivial hr
  · replace h := zi_f c2 h
    refine lv_aload_n F.1 F.2.1 dX11_sendDue_15 rfl (lv_at hl 2 rfl) ?_
    refine gf11_765 F (hx2 _ rfl) hr dX11_sendDue_16 ?_
    refine lv_iload_n F.1 F.2.1 dX11_sendDue_19 rfl (lv_at hl 3 rfl) ?_
    replace h := zk_some h
    obtain ⟨c3, h⟩ := h
    refine zr_iald (k := 131) (by decide) rfl (by decide) F (zal_a F (hx2 _ rfl) (j := 0) rfl) hr dX11_sendDue_20 c3 ?_
    refine lv_topi (fun v4 ev4 => ?_)
    replace h := zl_sub ev4 h
    refine lv_istore (lv' := [(4, .int v4), (0, .ref (B 11 x0)), (1, .ref (B 1 x1)), (2, .ref (B 9 a1)), (3, .int x3)]) F.1 F.2.1 dX11_sendDue_21 hl (by decide) rfl (fun ls hl => ?_)
    refine lv_iconst (v := (0 : Int32)) F.1 F.2.1 dX11_sendDue_23 (by decide) ?_
    refine lv_istore (lv' := [(5, .int (0 : Int32)), (4, .int v4), (0, .ref (B 11 x0)), (1, .ref (B 1 x1)), (2, .ref (B 9 a1)), (3, .int x3)]) F.1 F.2.1 dX11_sendDue_24 hl (by decide) rfl (fun ls hl => ?_)
    exact lX11_sendDue_26 hst F hA E hK7 _ x0 x1 a1 x3 v4 (0 : Int32) hx0 hx1 (hx2 _ rfl) hr (lv_sub hl [2, 3, 4, 5, 1, 0] rfl) h
theorem lX11_sendDue_7 (hst : zSt B ids) (F : zFx p m c cX11_sendDue 8 s args RX11 D cy B ids A) (hA : ∀ q : Nat, s.heap.size ≤ q → A q) {r : Int32} {z' : St} (E : zEnd p l e rmX11_sendDue s m args below meth c cX11_sendDue D cy B ids A Q none z' .return_ True) {N : Nat}  : ∀ (n : Nat) (x0 : Nat) (x1 : Nat) (x2 : Option Nat) (x3 : Int32) (hx0 : (11, x0) ∈ ids) (hx1 : (1, x1) ∈ ids) (hx2 : ∀ t, x2 = some t → (9, t) ∈ ids) {z : St} {H : Heap} {locs : List Loc} {ls : Array Slot} (hr : zRep D cy B ids A s.heap z H locs) (hl : lv_has ls 8 [(0, .ref (B 11 x0)), (1, .ref (B 1 x1)), (2, va_rf (Option.map (B 9) x2)), (3, .int x3)]), fX11_sendDue_7 N  n x0 x1 x2 x3 z = some (r, z') → W p l e rmX11_sendDue s m args below meth c H locs 0 0 Q (F0 m 7 ls []) := by
  intro n
  induction n with
  | zero => intro x0 x1 x2 x3 hx0 hx1 hx2 z H locs ls hr hl h; cases h
  | succ n ih => intro x0 x1 x2 x3 hx0 hx1 hx2 z H locs ls hr hl h; exact bX11_sendDue_7 hst F hA E ih x0 x1 x2 x3 hx0 hx1 hx2 hr hl h
def fX11_sendDue (N : Nat)  (x0 : Nat) (x1 : Nat) (z : St) : Option (Int32 × St) := zl (zgR z 1 10 x1) fun y1 => fX11_sendDue_7 N N x0 x1 y1 (0 : Int32) z
set_option maxHeartbeats 4000000 in
set_option maxRecDepth 100000 in
theorem bX11_sendDue_0 (hst : zSt B ids) (F : zFx p m c cX11_sendDue 8 s args RX11 D cy B ids A) (hA : ∀ q : Nat, s.heap.size ≤ q → A q) {r : Int32} {z' : St} (E : zEnd p l e rmX11_sendDue s m args below meth c cX11_sendDue D cy B ids A Q none z' .return_ True) {N : Nat}  (x0 : Nat) (x1 : Nat) (hx0 : (11, x0) ∈ ids) (hx1 : (1, x1) ∈ ids) {z : St} {H : Heap} {locs : List Loc} {ls : Array Slot} (hr : zRep D cy B ids A s.heap z H locs) (hl : lv_has ls 8 [(0, .ref (B 11 x0)), (1, .ref (B 1 x1))]) (h : fX11_sendDue N x0 x1 z = some (r, z')) : W p l e rmX11_sendDue s m args below meth c H locs 0 0 Q (F0 m 0 ls []) := by
  unfold fX11_sendDue at h
  refine lv_aload_n F.1 F.2.1 dX11_sendDue_0 rfl (lv_at hl 1 rfl) ?_
  refine gf11_395 F hx1 hr dX11_sendDue_1 (fun y1 ey1 => ?_)
  replace h := zl_sub ey1 h
  have hy1 := zal_g hr hx1 (j := 10) rfl ey1
  clear ey1
  refine zr_astore_n (lv' := [(2, va_rf (Option.map (B 9) y1)), (0, .ref (B 11 x0)), (1, .ref (B 1 x1))]) F.1 F.2.1 dX11_sendDue_4 rfl hl (by decide) rfl (fun ls hl => ?_)
  refine lv_iconst (v := (0 : Int32)) F.1 F.2.1 dX11_sendDue_5 (by decide) ?_
  refine lv_istore_n (lv' := [(3, .int (0 : Int32)), (2, va_rf (Option.map (B 9) y1)), (0, .ref (B 11 x0)), (1, .ref (B 1 x1))]) F.1 F.2.1 dX11_sendDue_6 rfl hl (by decide) (by simp only [List.filter, zrf_cat]; rfl) (fun ls hl => ?_)
  exact lX11_sendDue_7 hst F hA E  _ x0 x1 y1 (0 : Int32) hx0 hx1 hy1 hr (lv_sub hl [2, 3, 1, 0] rfl) h
end SX11_sendDue
set_option maxRecDepth 100000 in
theorem okX11_sendDue (l : Launch) (D : va_G) (cy : Nat → ClassId) (B : Nat → Nat → Nat) (ids : List (Nat × Nat)) (hst : zSt B ids) (N : Nat) (x0 : Nat) (hx0 : (11, x0) ∈ ids) (x1 : Nat) (hx1 : (1, x1) ∈ ids) {z : St} {r : Int32} {z' : St} (hW : zWf ids z) (h : fX11_sendDue N x0 x1 z = some (r, z')) : zM l yX11_sendDue (zws yX11_sendDue cX11_sendDue 8 none) rmX11_sendDue D cy B ids [.ref (B 11 x0), .ref (B 1 x1)] none True z z' :=
  zM_of hst hW (by decide +kernel) (Nat.le_of_ble_eq_true rfl) (fun p e s m args below meth c A ls F hA hret hlocks hr hl => bX11_sendDue_0 hst F hA (zEnd_v F hret hlocks) x0 x1 hx0 hx1 hr hl h)
abbrev rmX11_sendGreetings : Room := { frames := 4, cells := 0, slots := 0, locals := 140 }
theorem hdX11_sendGreetings : yX11_sendGreetings.cls ≠ "java/lang/invoke/MethodHandle" ∧ yX11_sendGreetings.cls ≠ "java/lang/invoke/VarHandle" ∧ (parseMethodDescriptor yX11_sendGreetings.desc).map (fun d => d.parameters.length) = some 1 := by decide +kernel
theorem hroX11_sendGreetings_X11_putOn : rmX11_putOn.frames + 1 ≤ rmX11_sendGreetings.frames ∧ 8 + (7 + 11) + rmX11_putOn.locals ≤ rmX11_sendGreetings.locals := by decide
theorem hroX11_sendGreetings_X1_nextNumber : rmX1_nextNumber.frames + 1 ≤ rmX11_sendGreetings.frames ∧ 8 + (1 + 11) + rmX1_nextNumber.locals ≤ rmX11_sendGreetings.locals := by decide
theorem hroX11_sendGreetings_X7_begin : rmX7_begin.frames + 1 ≤ rmX11_sendGreetings.frames ∧ 8 + (3 + 11) + rmX7_begin.locals ≤ rmX11_sendGreetings.locals := by decide
theorem hroX11_sendGreetings_X7_put2 : rmX7_put2.frames + 1 ≤ rmX11_sendGreetings.frames ∧ 8 + (3 + 11) + rmX7_put2.locals ≤ rmX11_sendGreetings.locals := by decide
theorem hroX11_sendGreetings_X7_setLength : rmX7_setLength.frames + 1 ≤ rmX11_sendGreetings.frames ∧ 8 + (2 + 11) + rmX7_setLength.locals ≤ rmX11_sendGreetings.locals := by decide
section SX11_sendGreetings
variable {p : Program} {l : Launch} {e : Env} {s : State} {m : MethodId} {args : Array Value} {below : List Frame} {meth : Method} {c : Code} {Q : State → Prop} {D : va_G} {cy : Nat → ClassId} {B : Nat → Nat → Nat} {ids : List (Nat × Nat)} {A : Nat → Prop}
def fX11_sendGreetings_110 (N : Nat) (K7 : Nat → Nat → Option Nat → Int32 → St → Option (Int32 × St)) (K53 : Nat → Nat → Option Nat → Int32 → Nat → Int32 → Int32 → St → Option (Int32 × St)) (x0 : Nat) (x1 : Nat) (x2 : Nat) (x3 : Int32) (x4 : Nat) (x5 : Int32) (x6 : Int32) (z : St) : Option (Int32 × St) := zl (x6 + 1) fun v1 => K53 x0 x1 (some x2) x3 x4 x5 v1 z
set_option maxHeartbeats 4000000 in
set_option maxRecDepth 100000 in
theorem bX11_sendGreetings_110 (hst : zSt B ids) (F : zFx p m c cX11_sendGreetings 7 s args RX11 D cy B ids A) (hA : ∀ q : Nat, s.heap.size ≤ q → A q) {r : Int32} {z' : St} (E : zEnd p l e rmX11_sendGreetings s m args below meth c cX11_sendGreetings D cy B ids A Q none z' .return_ True) {N : Nat} {K7 : Nat → Nat → Option Nat → Int32 → St → Option (Int32 × St)} {K53 : Nat → Nat → Option Nat → Int32 → Nat → Int32 → Int32 → St → Option (Int32 × St)} (hK7 : ∀ (x0 : Nat) (x1 : Nat) (x2 : Option Nat) (x3 : Int32) (hx0 : (11, x0) ∈ ids) (hx1 : (1, x1) ∈ ids) (hx2 : ∀ t, x2 = some t → (9, t) ∈ ids) {z : St} {H : Heap} {locs : List Loc} {ls : Array Slot} (hr : zRep D cy B ids A s.heap z H locs) (hl : lv_has ls 7 [(0, .ref (B 11 x0)), (1, .ref (B 1 x1)), (2, va_rf (Option.map (B 9) x2)), (3, .int x3)]), K7 x0 x1 x2 x3 z = some (r, z') → W p l e rmX11_sendGreetings s m args below meth c H locs 0 0 Q (F0 m 7 ls [])) (hK53 : ∀ (x0 : Nat) (x1 : Nat) (x2 : Option Nat) (x3 : Int32) (x4 : Nat) (x5 : Int32) (x6 : Int32) (hx0 : (11, x0) ∈ ids) (hx1 : (1, x1) ∈ ids) (hx2 : ∀ t, x2 = some t → (9, t) ∈ ids) (hx4 : (8, x4) ∈ ids) {z : St} {H : Heap} {locs : List Loc} {ls : Array Slot} (hr : zRep D cy B ids A s.heap z H locs) (hl : lv_has ls 7 [(0, .ref (B 11 x0)), (1, .ref (B 1 x1)), (2, va_rf (Option.map (B 9) x2)), (3, .int x3), (4, .ref (B 8 x4)), (5, .int x5), (6, .int x6)]), K53 x0 x1 x2 x3 x4 x5 x6 z = some (r, z') → W p l e rmX11_sendGreetings s m args below meth c H locs 0 0 Q (F0 m 53 ls [])) (x0 : Nat) (x1 : Nat) (x2 : Nat) (x3 : Int32) (x4 : Nat) (x5 : Int32) (x6 : Int32) (hx0 : (11, x0) ∈ ids) (hx1 : (1, x1) ∈ ids) (hx2 : (9, x2) ∈ ids) (hx4 : (8, x4) ∈ ids) {z : St} {H : Heap} {locs : List Loc} {ls : Array Slot} (hr : zRep D cy B ids A s.heap z H locs) (hl : lv_has ls 7 [(0, .ref (B 11 x0)), (1, .ref (B 1 x1)), (2, .ref (B 9 x2)), (3, .int x3), (4, .ref (B 8 x4)), (5, .int x5), (6, .int x6)]) (h : fX11_sendGreetings_110 N K7 K53 x0 x1 x2 x3 x4 x5 x6 z = some (r, z')) : W p l e rmX11_sendGreetings s m args below meth c H locs 0 0 Q (F0 m 110 ls []) := by
  unfold fX11_sendGreetings_110 at h
  obtain ⟨v1, ev1⟩ : ∃ y : Int32, y = (x6 + 1) := ⟨_, rfl⟩
  replace h := zl_sub ev1 h
  refine lv_iinc (v := v1) (lv' := [(6, .int v1), (0, .ref (B 11 x0)), (1, .ref (B 1 x1)), (2, .ref (B 9 x2)), (3, .int x3), (4, .ref (B 8 x4)), (5, .int x5)]) F.1 F.2.1 dX11_sendGreetings_110 hl (k := 6) rfl (by rw [ev1]; rfl) (by decide) rfl (fun ls hl => ?_)
  refine lv_goto (tgt := 53) F.1 F.2.1 dX11_sendGreetings_113 (by decide) ?_
  exact hK53 x0 x1 (some x2) x3 x4 x5 v1 hx0 hx1 (zal_s hx2) hx4 hr (lv_sub hl [1, 2, 3, 4, 5, 6, 0] rfl) h
def fX11_sendGreetings_194 (N : Nat) (K7 : Nat → Nat → Option Nat → Int32 → St → Option (Int32 × St)) (x0 : Nat) (x1 : Nat) (x2 : Option Nat) (x3 : Int32) (z : St) : Option (Int32 × St) := zl (x3 + 1) fun v1 => K7 x0 x1 x2 v1 z
set_option maxHeartbeats 4000000 in
set_option maxRecDepth 100000 in
theorem bX11_sendGreetings_194 (hst : zSt B ids) (F : zFx p m c cX11_sendGreetings 7 s args RX11 D cy B ids A) (hA : ∀ q : Nat, s.heap.size ≤ q → A q) {r : Int32} {z' : St} (E : zEnd p l e rmX11_sendGreetings s m args below meth c cX11_sendGreetings D cy B ids A Q none z' .return_ True) {N : Nat} {K7 : Nat → Nat → Option Nat → Int32 → St → Option (Int32 × St)} (hK7 : ∀ (x0 : Nat) (x1 : Nat) (x2 : Option Nat) (x3 : Int32) (hx0 : (11, x0) ∈ ids) (hx1 : (1, x1) ∈ ids) (hx2 : ∀ t, x2 = some t → (9, t) ∈ ids) {z : St} {H : Heap} {locs : List Loc} {ls : Array Slot} (hr : zRep D cy B ids A s.heap z H locs) (hl : lv_has ls 7 [(0, .ref (B 11 x0)), (1, .ref (B 1 x1)), (2, va_rf (Option.map (B 9) x2)), (3, .int x3)]), K7 x0 x1 x2 x3 z = some (r, z') → W p l e rmX11_sendGreetings s m args below meth c H locs 0 0 Q (F0 m 7 ls [])) (x0 : Nat) (x1 : Nat) (x2 : Option Nat) (x3 : Int32) (hx0 : (11, x0) ∈ ids) (hx1 : (1, x1) ∈ ids) (hx2 : ∀ t, x2 = some t → (9, t) ∈ ids) {z : St} {H : Heap} {locs : List Loc} {ls : Array Slot} (hr : zRep D cy B ids A s.heap z H locs) (hl : lv_has ls 7 [(0, .ref (B 11 x0)), (1, .ref (B 1 x1)), (2, va_rf (Option.map (B 9) x2)), (3, .int x3)]) (h : fX11_sendGreetings_194 N K7 x0 x1 x2 x3 z = some (r, z')) : W p l e rmX11_sendGreetings s m args below meth c H locs 0 0 Q (F0 m 194 ls []) := by
  unfold fX11_sendGreetings_194 at h
  obtain ⟨v1, ev1⟩ : ∃ y : Int32, y = (x3 + 1) := ⟨_, rfl⟩
  replace h := zl_sub ev1 h
  refine lv_iinc (v := v1) (lv' := [(3, .int v1), (0, .ref (B 11 x0)), (1, .ref (B 1 x1)), (2, va_rf (Option.map (B 9) x2))]) F.1 F.2.1 dX11_sendGreetings_194 hl (k := 3) rfl (by rw [ev1]; rfl) (by decide) (by simp only [List.filter, zrf_cat]; rfl) (fun ls hl => ?_)
  refine lv_goto (tgt := 7) F.1 F.2.1 dX11_sendGreetings_197 (by decide) ?_
  exact hK7 x0 x1 x2 v1 hx0 hx1 hx2 hr (lv_sub hl [1, 2, 3, 0] rfl) h
def fX11_sendGreetings_53b (N : Nat) (K7 : Nat → Nat → Option Nat → Int32 → St → Option (Int32 × St)) (K53 : Nat → Nat → Option Nat → Int32 → Nat → Int32 → Int32 → St → Option (Int32 × St)) (x0 : Nat) (x1 : Nat) (x2 : Option Nat) (x3 : Int32) (x4 : Nat) (x5 : Int32) (x6 : Int32) (z : St) : Option (Int32 × St) := zd x2 fun a1 => if (zgI z 9 1 a1) ≤ x6 then (zl (zgR z 11 13 x0) fun y3 => zd y3 fun a4 => zc (fX7_put2 N a4 (0 : Int32) (zgI z 1 0 x1) z) fun _ z6 => zl (zgR z6 11 13 x0) fun y9 => zd y9 fun a10 => zc (fX7_put2 N a10 (2 : Int32) x5 z6) fun _ z12 => zl (zgR z12 11 13 x0) fun y15 => zd y15 fun a16 => zc (fX7_setLength N a16 ((8 : Int32) + ((2 : Int32) * x5)) z12) fun _ z18 => zl (zgR z18 11 13 x0) fun y21 => zd y21 fun a22 => zl (zsI z18 7 0 a22 (zgI z18 8 4 x4)) fun z23 => zl (zgR z23 11 13 x0) fun y24 => zd y24 fun a25 => zl (zsI z23 7 1 a25 (0 : Int32)) fun z26 => zl (zgR z26 11 13 x0) fun y27 => zc (fX1_nextNumber N x1 z26) fun r28 z29 => zd y27 fun a32 => zl (zsI z29 7 3 a32 r28) fun z33 => zl (zgR z33 11 13 x0) fun y34 => zd y34 fun a35 => zc (fX11_putOn N x0 x4 (-1 : Int32) a35 z33) fun _ z37 => fX11_sendGreetings_194 N K7 x0 x1 (some a1) x3 z37) else (zk x6 16 <| if ((zgA z 131 a1 (Int32.toNatClampNeg x6)) / (16 : Int32)) = (zgI z 8 2 x4) then (zl (zgR z 11 13 x0) fun y42 => zk x6 16 <| zd y42 fun a44 => zc (fX7_put2 N a44 ((8 : Int32) + ((2 : Int32) * x5)) ((zgA z 131 a1 (Int32.toNatClampNeg x6)) - (zgA z 131 a1 (Int32.toNatClampNeg x6)) / (16 : Int32) * (16 : Int32)) z) fun _ z46 => zl (x5 + 1) fun v49 => fX11_sendGreetings_110 N K7 K53 x0 x1 a1 x3 x4 v49 x6 z46) else (fX11_sendGreetings_110 N K7 K53 x0 x1 a1 x3 x4 x5 x6 z))
def fX11_sendGreetings_53 (N : Nat) (K7 : Nat → Nat → Option Nat → Int32 → St → Option (Int32 × St)) : Nat → Nat → Nat → Option Nat → Int32 → Nat → Int32 → Int32 → St → Option (Int32 × St)
  | 0 => fun _ _ _ _ _ _ _ _ => none
  | n + 1 => fX11_sendGreetings_53b N K7 (fX11_sendGreetings_53 N K7 n)
set_option maxHeartbeats 4000000 in
set_option maxRecDepth 100000 in
theorem bX11_sendGreetings_53 (hst : zSt B ids) (F : zFx p m c cX11_sendGreetings 7 s args RX11 D cy B ids A) (hA : ∀ q : Nat, s.heap.size ≤ q → A q) {r : Int32} {z' : St} (E : zEnd p l e rmX11_sendGreetings s m args below meth c cX11_sendGreetings D cy B ids A Q none z' .return_ True) {N : Nat} {K7 : Nat → Nat → Option Nat → Int32 → St → Option (Int32 × St)} {K53 : Nat → Nat → Option Nat → Int32 → Nat → Int32 → Int32 → St → Option (Int32 × St)} (hK7 : ∀ (x0 : Nat) (x1 : Nat) (x2 : Option Nat) (x3 : Int32) (hx0 : (11, x0) ∈ ids) (hx1 : (1, x1) ∈ ids) (hx2 : ∀ t, x2 = some t → (9, t) ∈ ids) {z : St} {H : Heap} {locs : List Loc} {ls : Array Slot} (hr : zRep D cy B ids A s.heap z H locs) (hl : lv_has ls 7 [(0, .ref (B 11 x0)), (1, .ref (B 1 x1)), (2, va_rf (Option.map (B 9) x2)), (3, .int x3)]), K7 x0 x1 x2 x3 z = some (r, z') → W p l e rmX11_sendGreetings s m args below meth c H locs 0 0 Q (F0 m 7 ls [])) (hK53 : ∀ (x0 : Nat) (x1 : Nat) (x2 : Option Nat) (x3 : Int32) (x4 : Nat) (x5 : Int32) (x6 : Int32) (hx0 : (11, x0) ∈ ids) (hx1 : (1, x1) ∈ ids) (hx2 : ∀ t, x2 = some t → (9, t) ∈ ids) (hx4 : (8, x4) ∈ ids) {z : St} {H : Heap} {locs : List Loc} {ls : Array Slot} (hr : zRep D cy B ids A s.heap z H locs) (hl : lv_has ls 7 [(0, .ref (B 11 x0)), (1, .ref (B 1 x1)), (2, va_rf (Option.map (B 9) x2)), (3, .int x3), (4, .ref (B 8 x4)), (5, .int x5), (6, .int x6)]), K53 x0 x1 x2 x3 x4 x5 x6 z = some (r, z') → W p l e rmX11_sendGreetings s m args below meth c H locs 0 0 Q (F0 m 53 ls [])) (x0 : Nat) (x1 : Nat) (x2 : Option Nat) (x3 : Int32) (x4 : Nat) (x5 : Int32) (x6 : Int32) (hx0 : (11, x0) ∈ ids) (hx1 : (1, x1) ∈ ids) (hx2 : ∀ t, x2 = some t → (9, t) ∈ ids) (hx4 : (8, x4) ∈ ids) {z : St} {H : Heap} {locs : List Loc} {ls : Array Slot} (hr : zRep D cy B ids A s.heap z H locs) (hl : lv_has ls 7 [(0, .ref (B 11 x0)), (1, .ref (B 1 x1)), (2, va_rf (Option.map (B 9) x2)), (3, .int x3), (4, .ref (B 8 x4)), (5, .int x5), (6, .int x6)]) (h : fX11_sendGreetings_53b N K7 K53 x0 x1 x2 x3 x4 x5 x6 z = some (r, z')) : W p l e rmX11_sendGreetings s m args below meth c H locs 0 0 Q (F0 m 53 ls []) := by
  unfold fX11_sendGreetings_53b at h
  refine lv_iload F.1 F.2.1 dX11_sendGreetings_53 (lv_at hl 6 rfl) ?_
  refine zr_aload_n F.1 F.2.1 dX11_sendGreetings_55 rfl (lv_at hl 2 rfl) ?_
  replace h := zd_some h
  obtain ⟨a1, rfl, h⟩ := h
  refine gf11_762 F (hx2 _ rfl) hr dX11_sendGreetings_56 ?_
  refine lv_icmp_ge (tgt := 116) F.1 F.2.1 dX11_sendGreetings_59 (by decide) (fun c2 => ?_) (fun c2 => ?_)
  · replace h := zi_t c2 h
    refine lv_aload_n F.1 F.2.1 dX11_sendGreetings_116 rfl (lv_at hl 0 rfl) ?_
    refine gf11_31 F hx0 hr dX11_sendGreetings_117 (fun y3 ey3 => ?_)
    replace h := zl_sub ey3 h
    have hy3 := zal_g hr hx0 (j := 13) rfl ey3
    clear ey3
    refine lv_iconst (v := (0 : Int32)) F.1 F.2.1 dX11_sendGreetings_120 (by decide) ?_
    refine lv_aload_n F.1 F.2.1 dX11_sendGreetings_121 rfl (lv_at hl 1 rfl) ?_
    refine gf11_484 F hx1 hr dX11_sendGreetings_122 ?_
    replace h := zd_some h
    obtain ⟨a4, rfl, h⟩ := h
    replace h := zc_some h
    obtain ⟨r5, z6, hc7, h⟩ := h
    refine zr_callv (zrun_VN (As := [.int (0 : Int32), .int (zgI z 1 0 x1)]) (rest := []) zn_1308 zq_1306 zs_X7_put2 zq_1307 zq_2 hdX7_put2 (by decide) (T := TX7) (N := 20) rfl (okX7_put2 l D cy B ids hst N a4 (hy3 _ rfl) (0 : Int32)  (zgI z 1 0 x1)  hr.2.2 hc7) F hr (hy3 _ rfl) hl.1 rfl (by decide) dX11_sendGreetings_125 rfl rfl hroX11_sendGreetings_X7_put2 ⟨Nat.zero_le _, Nat.zero_le _⟩) F hA hr (fun H locs hw8 hr => ?_)
    clear hc7
    refine lv_aload_n F.1 F.2.1 dX11_sendGreetings_128 rfl (lv_at hl 0 rfl) ?_
    refine gf11_31 F hx0 hr dX11_sendGreetings_129 (fun y9 ey9 => ?_)
    replace h := zl_sub ey9 h
    have hy9 := zal_g hr hx0 (j := 13) rfl ey9
    clear ey9
    refine lv_iconst (v := (2 : Int32)) F.1 F.2.1 dX11_sendGreetings_132 (by decide) ?_
    refine lv_iload F.1 F.2.1 dX11_sendGreetings_133 (lv_at hl 5 rfl) ?_
    replace h := zd_some h
    obtain ⟨a10, rfl, h⟩ := h
    replace h := zc_some h
    obtain ⟨r11, z12, hc13, h⟩ := h
    refine zr_callv (zrun_VN (As := [.int (2 : Int32), .int x5]) (rest := []) zn_1308 zq_1306 zs_X7_put2 zq_1307 zq_2 hdX7_put2 (by decide) (T := TX7) (N := 20) rfl (okX7_put2 l D cy B ids hst N a10 (hy9 _ rfl) (2 : Int32)  x5  hr.2.2 hc13) F hr (hy9 _ rfl) hl.1 rfl (by decide) dX11_sendGreetings_135 rfl rfl hroX11_sendGreetings_X7_put2 ⟨Nat.zero_le _, Nat.zero_le _⟩) F hA hr (fun H locs hw14 hr => ?_)
    clear hc13
    refine lv_aload_n F.1 F.2.1 dX11_sendGreetings_138 rfl (lv_at hl 0 rfl) ?_
    refine gf11_31 F hx0 hr dX11_sendGreetings_139 (fun y15 ey15 => ?_)
    replace h := zl_sub ey15 h
    have hy15 := zal_g hr hx0 (j := 13) rfl ey15
    clear ey15
    refine lv_bipush (v := (8 : Int32)) F.1 F.2.1 dX11_sendGreetings_142 (by decide) ?_
    refine lv_iconst (v := (2 : Int32)) F.1 F.2.1 dX11_sendGreetings_144 (by decide) ?_
    refine lv_iload F.1 F.2.1 dX11_sendGreetings_145 (lv_at hl 5 rfl) ?_
    refine lv_imul F.1 F.2.1 dX11_sendGreetings_147 ?_
    refine lv_iadd F.1 F.2.1 dX11_sendGreetings_148 ?_
    replace h := zd_some h
    obtain ⟨a16, rfl, h⟩ := h
    replace h := zc_some h
    obtain ⟨r17, z18, hc19, h⟩ := h
    refine zr_callv (zrun_VN (As := [.int ((8 : Int32) + ((2 : Int32) * x5))]) (rest := []) zn_1525 zq_1527 zs_X7_setLength zq_1528 zq_2 hdX7_setLength (by decide) (T := TX7) (N := 20) rfl (okX7_setLength l D cy B ids hst N a16 (hy15 _ rfl) ((8 : Int32) + ((2 : Int32) * x5))  hr.2.2 hc19) F hr (hy15 _ rfl) hl.1 rfl (by decide) dX11_sendGreetings_149 rfl rfl hroX11_sendGreetings_X7_setLength ⟨Nat.zero_le _, Nat.zero_le _⟩) F hA hr (fun H locs hw20 hr => ?_)
    clear hc19
    refine lv_aload_n F.1 F.2.1 dX11_sendGreetings_152 rfl (lv_at hl 0 rfl) ?_
    refine gf11_31 F hx0 hr dX11_sendGreetings_153 (fun y21 ey21 => ?_)
    replace h := zl_sub ey21 h
    have hy21 := zal_g hr hx0 (j := 13) rfl ey21
    clear ey21
    refine lv_aload F.1 F.2.1 dX11_sendGreetings_156 (lv_at hl 4 rfl) ?_
    refine gf11_141 F hx4 hr dX11_sendGreetings_158 ?_
    replace h := zd_some h
    obtain ⟨a22, rfl, h⟩ := h
    refine pf11_535 F (hy21 _ rfl) hr dX11_sendGreetings_161 (zgI z18 8 4 x4) (fun H locs z23 ez23 hr => ?_)
    replace h := zl_sub ez23 h
    clear ez23
    refine lv_aload_n F.1 F.2.1 dX11_sendGreetings_164 rfl (lv_at hl 0 rfl) ?_
    refine gf11_31 F hx0 hr dX11_sendGreetings_165 (fun y24 ey24 => ?_)
    replace h := zl_sub ey24 h
    have hy24 := zal_g hr hx0 (j := 13) rfl ey24
    clear ey24
    refine lv_iconst (v := (0 : Int32)) F.1 F.2.1 dX11_sendGreetings_168 (by decide) ?_
    replace h := zd_some h
    obtain ⟨a25, rfl, h⟩ := h
    refine pf11_538 F (hy24 _ rfl) hr dX11_sendGreetings_169 (0 : Int32) (fun H locs z26 ez26 hr => ?_)
    replace h := zl_sub ez26 h
    clear ez26
    refine lv_aload_n F.1 F.2.1 dX11_sendGreetings_172 rfl (lv_at hl 0 rfl) ?_
    refine gf11_31 F hx0 hr dX11_sendGreetings_173 (fun y27 ey27 => ?_)
    replace h := zl_sub ey27 h
    have hy27 := zal_g hr hx0 (j := 13) rfl ey27
    clear ey27
    refine lv_aload_n F.1 F.2.1 dX11_sendGreetings_176 rfl (lv_at hl 1 rfl) ?_
    replace h := zc_some h
    obtain ⟨r28, z29, hc30, h⟩ := h
    refine zr_calli (zrun_VN (As := []) (rest := [va_rf (Option.map (B 7) y27)]) zn_1309 zq_1311 zs_X1_nextNumber zq_1312 zq_9 hdX1_nextNumber (by decide) (T := TX1) (N := 13) rfl (okX1_nextNumber l D cy B ids hst N x1 hx1 hr.2.2 hc30) F hr hx1 hl.1 rfl (by simp only [List.map, zrf_cat]; exact Nat.le_of_ble_eq_true rfl) dX11_sendGreetings_177 rfl rfl hroX11_sendGreetings_X1_nextNumber ⟨Nat.zero_le _, Nat.zero_le _⟩) F hA hr (fun H locs hw31 hr => ?_)
    clear hc30
    replace h := zd_some h
    obtain ⟨a32, rfl, h⟩ := h
    refine pf11_691 F (hy27 _ rfl) hr dX11_sendGreetings_180 r28 (fun H locs z33 ez33 hr => ?_)
    replace h := zl_sub ez33 h
    clear ez33
    refine lv_aload_n F.1 F.2.1 dX11_sendGreetings_183 rfl (lv_at hl 0 rfl) ?_
    refine lv_aload F.1 F.2.1 dX11_sendGreetings_184 (lv_at hl 4 rfl) ?_
    refine lv_iconst (v := (-1 : Int32)) F.1 F.2.1 dX11_sendGreetings_186 (by decide) ?_
    refine lv_aload_n F.1 F.2.1 dX11_sendGreetings_187 rfl (lv_at hl 0 rfl) ?_
    refine gf11_31 F hx0 hr dX11_sendGreetings_188 (fun y34 ey34 => ?_)
    replace h := zl_sub ey34 h
    have hy34 := zal_g hr hx0 (j := 13) rfl ey34
    clear ey34
    replace h := zd_some h
    obtain ⟨a35, rfl, h⟩ := h
    replace h := zc_some h
    obtain ⟨r36, z37, hc38, h⟩ := h
    refine zr_callv (zrun_V (As := [.ref (B 8 x4), .int (-1 : Int32), .ref (B 7 a35)]) (rest := []) zq_1059 zq_1061 zs_X11_putOn zq_1062 zq_1 hdX11_putOn (by decide) (T := TX11) (N := 21) rfl (okX11_putOn l D cy B ids hst N x0 hx0 x4 hx4 (-1 : Int32)  a35 (hy34 _ rfl) hr.2.2 hc38) F hr hx0 hl.1 rfl (by decide) dX11_sendGreetings_191 rfl rfl hroX11_sendGreetings_X11_putOn ⟨Nat.zero_le _, Nat.zero_le _⟩) F hA hr (fun H locs hw39 hr => ?_)
    clear hc38
    exact bX11_sendGreetings_194 hst F hA E hK7 x0 x1 (some a1) x3 hx0 hx1 (zal_s (hx2 _ rfl)) hr (lv_sub hl [0, 1, 2, 3] rfl) h
  · replace h := zi_f c2 h
    refine lv_aload_n F.1 F.2.1 dX11_sendGreetings_62 rfl (lv_at hl 2 rfl) ?_
    refine gf11_765 F (hx2 _ rfl) hr dX11_sendGreetings_63 ?_
    refine lv_iload F.1 F.2.1 dX11_sendGreetings_66 (lv_at hl 6 rfl) ?_
    replace h := zk_some h
    obtain ⟨c40, h⟩ := h
    refine zr_iald (k := 131) (by decide) rfl (by decide) F (zal_a F (hx2 _ rfl) (j := 0) rfl) hr dX11_sendGreetings_68 c40 ?_
    refine lv_bipush (v := (16 : Int32)) F.1 F.2.1 dX11_sendGreetings_69 (by decide) ?_
    refine lv_idiv F.1 F.2.1 dX11_sendGreetings_71 (by decide) ?_
    refine lv_aload F.1 F.2.1 dX11_sendGreetings_72 (lv_at hl 4 rfl) ?_
    refine gf11_494 F hx4 hr dX11_sendGreetings_74 ?_
    refine lv_icmp_eq (tgt := 83) F.1 F.2.1 dX11_sendGreetings_77 (by decide) (fun c41 => ?_) (fun c41 => ?_)
    · replace h := zi_t c41 h
      refine lv_aload_n F.1 F.2.1 dX11_sendGreetings_83 rfl (lv_at hl 0 rfl) ?_
      refine gf11_31 F hx0 hr dX11_sendGreetings_84 (fun y42 ey42 => ?_)
      replace h := zl_sub ey42 h
      have hy42 := zal_g hr hx0 (j := 13) rfl ey42
      clear ey42
      refine lv_bipush (v := (8 : Int32)) F.1 F.2.1 dX11_sendGreetings_87 (by decide) ?_
      refine lv_iconst (v := (2 : Int32)) F.1 F.2.1 dX11_sendGreetings_89 (by decide) ?_
      refine lv_iload F.1 F.2.1 dX11_sendGreetings_90 (lv_at hl 5 rfl) ?_
      refine lv_imul F.1 F.2.1 dX11_sendGreetings_92 ?_
      refine lv_iadd F.1 F.2.1 dX11_sendGreetings_93 ?_
      refine lv_aload_n F.1 F.2.1 dX11_sendGreetings_94 rfl (lv_at hl 2 rfl) ?_
      refine gf11_765 F (hx2 _ rfl) hr dX11_sendGreetings_95 ?_
      refine lv_iload F.1 F.2.1 dX11_sendGreetings_98 (lv_at hl 6 rfl) ?_
      replace h := zk_some h
      obtain ⟨c43, h⟩ := h
      refine zr_iald (k := 131) (by decide) rfl (by decide) F (zal_a F (hx2 _ rfl) (j := 0) rfl) hr dX11_sendGreetings_100 c43 ?_
      refine lv_bipush (v := (16 : Int32)) F.1 F.2.1 dX11_sendGreetings_101 (by decide) ?_
      refine lv_irem F.1 F.2.1 dX11_sendGreetings_103 (by decide) ?_
      replace h := zd_some h
      obtain ⟨a44, rfl, h⟩ := h
      replace h := zc_some h
      obtain ⟨r45, z46, hc47, h⟩ := h
      refine zr_callv (zrun_VN (As := [.int ((8 : Int32) + ((2 : Int32) * x5)), .int ((zgA z 131 a1 (Int32.toNatClampNeg x6)) - (zgA z 131 a1 (Int32.toNatClampNeg x6)) / (16 : Int32) * (16 : Int32))]) (rest := []) zn_1308 zq_1306 zs_X7_put2 zq_1307 zq_2 hdX7_put2 (by decide) (T := TX7) (N := 20) rfl (okX7_put2 l D cy B ids hst N a44 (hy42 _ rfl) ((8 : Int32) + ((2 : Int32) * x5))  ((zgA z 131 a1 (Int32.toNatClampNeg x6)) - (zgA z 131 a1 (Int32.toNatClampNeg x6)) / (16 : Int32) * (16 : Int32))  hr.2.2 hc47) F hr (hy42 _ rfl) hl.1 rfl (by decide) dX11_sendGreetings_104 rfl rfl hroX11_sendGreetings_X7_put2 ⟨Nat.zero_le _, Nat.zero_le _⟩) F hA hr (fun H locs hw48 hr => ?_)
      clear hc47
      obtain ⟨v49, ev49⟩ : ∃ y : Int32, y = (x5 + 1) := ⟨_, rfl⟩
      replace h := zl_sub ev49 h
      refine lv_iinc (v := v49) (lv' := [(5, .int v49), (0, .ref (B 11 x0)), (1, .ref (B 1 x1)), (2, .ref (B 9 a1)), (3, .int x3), (4, .ref (B 8 x4)), (6, .int x6)]) F.1 F.2.1 dX11_sendGreetings_107 hl (k := 5) rfl (by rw [ev49]; rfl) (by decide) rfl (fun ls hl => ?_)
      exact bX11_sendGreetings_110 hst F hA E hK7 hK53 x0 x1 a1 x3 x4 v49 x6 hx0 hx1 (hx2 _ rfl) hx4 hr (lv_sub hl [1, 2, 3, 4, 5, 0, 6] rfl) h
    · replace h := zi_f c41 h
      refine lv_goto (tgt := 110) F.1 F.2.1 dX11_sendGreetings_80 (by decide) ?_
      exact bX11_sendGreetings_110 hst F hA E hK7 hK53 x0 x1 a1 x3 x4 x5 x6 hx0 hx1 (hx2 _ rfl) hx4 hr (lv_sub hl [0, 1, 2, 3, 4, 5, 6] rfl) h
theorem lX11_sendGreetings_53 (hst : zSt B ids) (F : zFx p m c cX11_sendGreetings 7 s args RX11 D cy B ids A) (hA : ∀ q : Nat, s.heap.size ≤ q → A q) {r : Int32} {z' : St} (E : zEnd p l e rmX11_sendGreetings s m args below meth c cX11_sendGreetings D cy B ids A Q none z' .return_ True) {N : Nat} {K7 : Nat → Nat → Option Nat → Int32 → St → Option (Int32 × St)} (hK7 : ∀ (x0 : Nat) (x1 : Nat) (x2 : Option Nat) (x3 : Int32) (hx0 : (11, x0) ∈ ids) (hx1 : (1, x1) ∈ ids) (hx2 : ∀ t, x2 = some t → (9, t) ∈ ids) {z : St} {H : Heap} {locs : List Loc} {ls : Array Slot} (hr : zRep D cy B ids A s.heap z H locs) (hl : lv_has ls 7 [(0, .ref (B 11 x0)), (1, .ref (B 1 x1)), (2, va_rf (Option.map (B 9) x2)), (3, .int x3)]), K7 x0 x1 x2 x3 z = some (r, z') → W p l e rmX11_sendGreetings s m args below meth c H locs 0 0 Q (F0 m 7 ls [])) : ∀ (n : Nat) (x0 : Nat) (x1 : Nat) (x2 : Option Nat) (x3 : Int32) (x4 : Nat) (x5 : Int32) (x6 : Int32) (hx0 : (11, x0) ∈ ids) (hx1 : (1, x1) ∈ ids) (hx2 : ∀ t, x2 = some t → (9, t) ∈ ids) (hx4 : (8, x4) ∈ ids) {z : St} {H : Heap} {locs : List Loc} {ls : Array Slot} (hr : zRep D cy B ids A s.heap z H locs) (hl : lv_has ls 7 [(0, .ref (B 11 x0)), (1, .ref (B 1 x1)), (2, va_rf (Option.map (B 9) x2)), (3, .int x3), (4, .ref (B 8 x4)), (5, .int x5), (6, .int x6)]), fX11_sendGreetings_53 N K7 n x0 x1 x2 x3 x4 x5 x6 z = some (r, z') → W p l e rmX11_sendGreetings s m args below meth c H locs 0 0 Q (F0 m 53 ls []) := by
  intro n
  induction n with
  | zero => intro x0 x1 x2 x3 x4 x5 x6 hx0 hx1 hx2 hx4 z H locs ls hr hl h; cases h
  | succ n ih => intro x0 x1 x2 x3 x4 x5 x6 hx0 hx1 hx2 hx4 z H locs ls hr hl h; exact bX11_sendGreetings_53 hst F hA E hK7 ih x0 x1 x2 x3 x4 x5 x6 hx0 hx1 hx2 hx4 hr hl h
def fX11_sendGreetings_7b (N : Nat) (K7 : Nat → Nat → Option Nat → Int32 → St → Option (Int32 × St)) (x0 : Nat) (x1 : Nat) (x2 : Option Nat) (x3 : Int32) (z : St) : Option (Int32 × St) := if (zgI z 1 3 x1) ≤ x3 then (some (0, z)) else (zk x3 6 <| zl (zgQ z 112 x1 (Int32.toNatClampNeg x3)) fun y3 => zd y3 fun a4 => zl (zgR z 8 1 a4) fun y5 => zd y5 fun a6 => if ¬ (zgI z 5 3 a6) = 0 then (zl (zgR z 11 13 x0) fun y8 => zd y8 fun a9 => zc (fX7_begin N a9 (2 : Int32) (8 : Int32) z) fun _ z11 => fX11_sendGreetings_53 N K7 N x0 x1 x2 x3 a4 (0 : Int32) (0 : Int32) z11) else (fX11_sendGreetings_194 N K7 x0 x1 x2 x3 z))
def fX11_sendGreetings_7 (N : Nat)  : Nat → Nat → Nat → Option Nat → Int32 → St → Option (Int32 × St)
  | 0 => fun _ _ _ _ _ => none
  | n + 1 => fX11_sendGreetings_7b N (fX11_sendGreetings_7 N  n)
set_option maxHeartbeats 4000000 in
set_option maxRecDepth 100000 in
theorem bX11_sendGreetings_7 (hst : zSt B ids) (F : zFx p m c cX11_sendGreetings 7 s args RX11 D cy B ids A) (hA : ∀ q : Nat, s.heap.size ≤ q → A q) {r : Int32} {z' : St} (E : zEnd p l e rmX11_sendGreetings s m args below meth c cX11_sendGreetings D cy B ids A Q none z' .return_ True) {N : Nat} {K7 : Nat → Nat → Option Nat → Int32 → St → Option (Int32 × St)} (hK7 : ∀ (x0 : Nat) (x1 : Nat) (x2 : Option Nat) (x3 : Int32) (hx0 : (11, x0) ∈ ids) (hx1 : (1, x1) ∈ ids) (hx2 : ∀ t, x2 = some t → (9, t) ∈ ids) {z : St} {H : Heap} {locs : List Loc} {ls : Array Slot} (hr : zRep D cy B ids A s.heap z H locs) (hl : lv_has ls 7 [(0, .ref (B 11 x0)), (1, .ref (B 1 x1)), (2, va_rf (Option.map (B 9) x2)), (3, .int x3)]), K7 x0 x1 x2 x3 z = some (r, z') → W p l e rmX11_sendGreetings s m args below meth c H locs 0 0 Q (F0 m 7 ls [])) (x0 : Nat) (x1 : Nat) (x2 : Option Nat) (x3 : Int32) (hx0 : (11, x0) ∈ ids) (hx1 : (1, x1) ∈ ids) (hx2 : ∀ t, x2 = some t → (9, t) ∈ ids) {z : St} {H : Heap} {locs : List Loc} {ls : Array Slot} (hr : zRep D cy B ids A s.heap z H locs) (hl : lv_has ls 7 [(0, .ref (B 11 x0)), (1, .ref (B 1 x1)), (2, va_rf (Option.map (B 9) x2)), (3, .int x3)]) (h : fX11_sendGreetings_7b N K7 x0 x1 x2 x3 z = some (r, z')) : W p l e rmX11_sendGreetings s m args below meth c H locs 0 0 Q (F0 m 7 ls []) := by
  unfold fX11_sendGreetings_7b at h
  refine lv_iload_n F.1 F.2.1 dX11_sendGreetings_7 rfl (lv_at hl 3 rfl) ?_
  refine lv_aload_n F.1 F.2.1 dX11_sendGreetings_8 rfl (lv_at hl 1 rfl) ?_
  refine gf11_113 F hx1 hr dX11_sendGreetings_9 ?_
  refine lv_icmp_ge (tgt := 200) F.1 F.2.1 dX11_sendGreetings_12 (by decide) (fun c1 => ?_) (fun c1 => ?_)
  · replace h := zi_t c1 h
    obtain ⟨rfl, rfl⟩ := zret h
    exact E _ _ _ _ dX11_sendGreetings_200 trivial hr
  · replace h := zi_f c1 h
    refine lv_aload_n F.1 F.2.1 dX11_sendGreetings_15 rfl (lv_at hl 1 rfl) ?_
    refine gf11_134 F hx1 hr dX11_sendGreetings_16 ?_
    refine lv_iload_n F.1 F.2.1 dX11_sendGreetings_19 rfl (lv_at hl 3 rfl) ?_
    replace h := zk_some h
    obtain ⟨c2, h⟩ := h
    refine zr_aaldv (k := 112) (by decide) rfl rfl (zlen_d (by decide)) F (zal_a F hx1 (j := 2) rfl) hr dX11_sendGreetings_20 c2 (fun y3 ey3 => ?_)
    replace h := zl_sub ey3 h
    have hy3 := zal_q hr (zal_a F hx1 (j := 2) rfl) rfl ey3
    clear ey3
    refine zr_astore (lv' := [(4, va_rf (Option.map (B 8) y3)), (0, .ref (B 11 x0)), (1, .ref (B 1 x1)), (2, va_rf (Option.map (B 9) x2)), (3, .int x3)]) F.1 F.2.1 dX11_sendGreetings_21 hl (by decide) rfl (fun ls hl => ?_)
    refine zr_aload F.1 F.2.1 dX11_sendGreetings_23 (lv_at hl 0 rfl) ?_
    replace h := zd_some h
    obtain ⟨a4, rfl, h⟩ := h
    refine gf11_261 F (hy3 _ rfl) hr dX11_sendGreetings_25 (fun y5 ey5 => ?_)
    replace h := zl_sub ey5 h
    have hy5 := zal_g hr (hy3 _ rfl) (j := 1) rfl ey5
    clear ey5
    replace h := zd_some h
    obtain ⟨a6, rfl, h⟩ := h
    refine gf11_158 F (hy5 _ rfl) hr dX11_sendGreetings_28 ?_
    refine lv_if_ne (tgt := 37) F.1 F.2.1 dX11_sendGreetings_31 (by decide) (fun c7 => ?_) (fun c7 => ?_)
    · replace h := zi_t c7 h
      refine lv_aload_n F.1 F.2.1 dX11_sendGreetings_37 rfl (lv_at hl 1 rfl) ?_
      refine gf11_31 F hx0 hr dX11_sendGreetings_38 (fun y8 ey8 => ?_)
      replace h := zl_sub ey8 h
      have hy8 := zal_g hr hx0 (j := 13) rfl ey8
      clear ey8
      refine lv_iconst (v := (2 : Int32)) F.1 F.2.1 dX11_sendGreetings_41 (by decide) ?_
      refine lv_bipush (v := (8 : Int32)) F.1 F.2.1 dX11_sendGreetings_42 (by decide) ?_
      replace h := zd_some h
      obtain ⟨a9, rfl, h⟩ := h
      replace h := zc_some h
      obtain ⟨r10, z11, hc12, h⟩ := h
      refine zr_callv (zrun_VN (As := [.int (2 : Int32), .int (8 : Int32)]) (rest := []) zn_1086 zq_1088 zs_X7_begin zq_1089 zq_2 hdX7_begin (by decide) (T := TX7) (N := 20) rfl (okX7_begin l D cy B ids hst N a9 (hy8 _ rfl) (2 : Int32)  (8 : Int32)  hr.2.2 hc12) F hr (hy8 _ rfl) hl.1 rfl (by decide) dX11_sendGreetings_44 rfl rfl hroX11_sendGreetings_X7_begin ⟨Nat.zero_le _, Nat.zero_le _⟩) F hA hr (fun H locs hw13 hr => ?_)
      clear hc12
      refine lv_iconst (v := (0 : Int32)) F.1 F.2.1 dX11_sendGreetings_47 (by decide) ?_
      refine lv_istore (lv' := [(5, .int (0 : Int32)), (4, .ref (B 8 a4)), (0, .ref (B 11 x0)), (1, .ref (B 1 x1)), (2, va_rf (Option.map (B 9) x2)), (3, .int x3)]) F.1 F.2.1 dX11_sendGreetings_48 hl (by decide) rfl (fun ls hl => ?_)
      refine lv_iconst (v := (0 : Int32)) F.1 F.2.1 dX11_sendGreetings_50 (by decide) ?_
      refine lv_istore (lv' := [(6, .int (0 : Int32)), (5, .int (0 : Int32)), (4, .ref (B 8 a4)), (0, .ref (B 11 x0)), (1, .ref (B 1 x1)), (2, va_rf (Option.map (B 9) x2)), (3, .int x3)]) F.1 F.2.1 dX11_sendGreetings_51 hl (by decide) rfl (fun ls hl => ?_)
      exact lX11_sendGreetings_53 hst F hA E hK7 _ x0 x1 x2 x3 a4 (0 : Int32) (0 : Int32) hx0 hx1 hx2 (hy3 _ rfl) hr (lv_sub hl [3, 4, 5, 6, 2, 1, 0] rfl) h
    · replace h := zi_f (fun q => q c7) h
      refine lv_goto (tgt := 194) F.1 F.2.1 dX11_sendGreetings_34 (by decide) ?_
      exact bX11_sendGreetings_194 hst F hA E hK7 x0 x1 x2 x3 hx0 hx1 hx2 hr (lv_sub hl [1, 2, 3, 4] rfl) h
theorem lX11_sendGreetings_7 (hst : zSt B ids) (F : zFx p m c cX11_sendGreetings 7 s args RX11 D cy B ids A) (hA : ∀ q : Nat, s.heap.size ≤ q → A q) {r : Int32} {z' : St} (E : zEnd p l e rmX11_sendGreetings s m args below meth c cX11_sendGreetings D cy B ids A Q none z' .return_ True) {N : Nat}  : ∀ (n : Nat) (x0 : Nat) (x1 : Nat) (x2 : Option Nat) (x3 : Int32) (hx0 : (11, x0) ∈ ids) (hx1 : (1, x1) ∈ ids) (hx2 : ∀ t, x2 = some t → (9, t) ∈ ids) {z : St} {H : Heap} {locs : List Loc} {ls : Array Slot} (hr : zRep D cy B ids A s.heap z H locs) (hl : lv_has ls 7 [(0, .ref (B 11 x0)), (1, .ref (B 1 x1)), (2, va_rf (Option.map (B 9) x2)), (3, .int x3)]), fX11_sendGreetings_7 N  n x0 x1 x2 x3 z = some (r, z') → W p l e rmX11_sendGreetings s m args below meth c H locs 0 0 Q (F0 m 7 ls []) := by
  intro n
  induction n with
  | zero => intro x0 x1 x2 x3 hx0 hx1 hx2 z H locs ls hr hl h; cases h
  | succ n ih => intro x0 x1 x2 x3 hx0 hx1 hx2 z H locs ls hr hl h; exact bX11_sendGreetings_7 hst F hA E ih x0 x1 x2 x3 hx0 hx1 hx2 hr hl h
def fX11_sendGreetings (N : Nat)  (x0 : Nat) (x1 : Nat) (z : St) : Option (Int32 × St) := zl (zgR z 1 10 x1) fun y1 => fX11_sendGreetings_7 N N x0 x1 y1 (0 : Int32) z
set_option maxHeartbeats 4000000 in
set_option maxRecDepth 100000 in
theorem bX11_sendGreetings_0 (hst : zSt B ids) (F : zFx p m c cX11_sendGreetings 7 s args RX11 D cy B ids A) (hA : ∀ q : Nat, s.heap.size ≤ q → A q) {r : Int32} {z' : St} (E : zEnd p l e rmX11_sendGreetings s m args below meth c cX11_sendGreetings D cy B ids A Q none z' .return_ True) {N : Nat}  (x0 : Nat) (x1 : Nat) (hx0 : (11, x0) ∈ ids) (hx1 : (1, x1) ∈ ids) {z : St} {H : Heap} {locs : List Loc} {ls : Array Slot} (hr : zRep D cy B ids A s.heap z H locs) (hl : lv_has ls 7 [(0, .ref (B 11 x0)), (1, .ref (B 1 x1))]) (h : fX11_sendGreetings N x0 x1 z = some (r, z')) : W p l e rmX11_sendGreetings s m args below meth c H locs 0 0 Q (F0 m 0 ls []) := by
  unfold fX11_sendGreetings at h
  refine lv_aload_n F.1 F.2.1 dX11_sendGreetings_0 rfl (lv_at hl 1 rfl) ?_
  refine gf11_395 F hx1 hr dX11_sendGreetings_1 (fun y1 ey1 => ?_)
  replace h := zl_sub ey1 h
  have hy1 := zal_g hr hx1 (j := 10) rfl ey1
  clear ey1
  refine zr_astore_n (lv' := [(2, va_rf (Option.map (B 9) y1)), (0, .ref (B 11 x0)), (1, .ref (B 1 x1))]) F.1 F.2.1 dX11_sendGreetings_4 rfl hl (by decide) rfl (fun ls hl => ?_)
  refine lv_iconst (v := (0 : Int32)) F.1 F.2.1 dX11_sendGreetings_5 (by decide) ?_
  refine lv_istore_n (lv' := [(3, .int (0 : Int32)), (2, va_rf (Option.map (B 9) y1)), (0, .ref (B 11 x0)), (1, .ref (B 1 x1))]) F.1 F.2.1 dX11_sendGreetings_6 rfl hl (by decide) (by simp only [List.filter, zrf_cat]; rfl) (fun ls hl => ?_)
  exact lX11_sendGreetings_7 hst F hA E  _ x0 x1 y1 (0 : Int32) hx0 hx1 hy1 hr (lv_sub hl [2, 3, 1, 0] rfl) h
end SX11_sendGreetings
set_option maxRecDepth 100000 in
theorem okX11_sendGreetings (l : Launch) (D : va_G) (cy : Nat → ClassId) (B : Nat → Nat → Nat) (ids : List (Nat × Nat)) (hst : zSt B ids) (N : Nat) (x0 : Nat) (hx0 : (11, x0) ∈ ids) (x1 : Nat) (hx1 : (1, x1) ∈ ids) {z : St} {r : Int32} {z' : St} (hW : zWf ids z) (h : fX11_sendGreetings N x0 x1 z = some (r, z')) : zM l yX11_sendGreetings (zws yX11_sendGreetings cX11_sendGreetings 7 none) rmX11_sendGreetings D cy B ids [.ref (B 11 x0), .ref (B 1 x1)] none True z z' :=
  zM_of hst hW (by decide +kernel) (Nat.le_of_ble_eq_true rfl) (fun p e s m args below meth c A ls F hA hret hlocks hr hl => bX11_sendGreetings_0 hst F hA (zEnd_v F hret hlocks) x0 x1 hx0 hx1 hr hl h)
