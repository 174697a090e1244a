abbrev rmX11_forgetSilent : Room := { frames := 3, cells := 0, slots := 0, locals := 70 }
theorem hdX11_forgetSilent : yX11_forgetSilent.cls ≠ "java/lang/invoke/MethodHandle" ∧ yX11_forgetSilent.cls ≠ "java/lang/invoke/VarHandle" ∧ (parseMethodDescriptor yX11_forgetSilent.desc).map (fun d => d.parameters.length) = some 1 := by decide +kernel
theorem hroX11_forgetSilent_X9_forget : rmX9_forget.frames + 1 ≤ rmX11_forgetSilent.frames ∧ 8 + (4 + 11) + rmX9_forget.locals ≤ rmX11_forgetSilent.locals := by decide
section SX11_forgetSilent
variable {p : Program} {l : Launch} {e : Env} {s : State} {m : MethodId} {args : Array Value} {below : List Frame} {meth : Method} {c : Code} {Q : State → Prop} {D : va_G} {cy : Nat → ClassId} {B : Nat → Nat → Nat} {ids : List (Nat × Nat)} {A : Nat → Prop}
def fX11_forgetSilent_69 (N : Nat) (K12 : Nat → Nat → Nat → Int32 → St → Option (Int32 × St)) (x0 : Nat) (x1 : Nat) (x2 : Nat) (x3 : Int32) (z : St) : Option (Int32 × St) := zl (x3 + (-1)) fun v1 => K12 x0 x1 x2 v1 z
set_option maxHeartbeats 4000000 in
set_option maxRecDepth 100000 in
theorem bX11_forgetSilent_69 (hst : zSt B ids) (F : zFx p m c cX11_forgetSilent 6 s args RX11 D cy B ids A) (hA : ∀ q : Nat, s.heap.size ≤ q → A q) {r : Int32} {z' : St} (E : zEnd p l e rmX11_forgetSilent s m args below meth c cX11_forgetSilent D cy B ids A Q none z' .return_ True) {N : Nat} {K12 : Nat → Nat → Nat → Int32 → St → Option (Int32 × St)} (hK12 : ∀ (x0 : Nat) (x1 : Nat) (x2 : Nat) (x3 : Int32) (hx0 : (11, x0) ∈ ids) (hx1 : (1, x1) ∈ ids) (hx2 : (9, x2) ∈ ids) {z : St} {H : Heap} {locs : List Loc} {ls : Array Slot} (hr : zRep D cy B ids A s.heap z H locs) (hl : lv_has ls 6 [(0, .ref (B 11 x0)), (1, .ref (B 1 x1)), (2, .ref (B 9 x2)), (3, .int x3)]), K12 x0 x1 x2 x3 z = some (r, z') → W p l e rmX11_forgetSilent s m args below meth c H locs 0 0 Q (F0 m 12 ls [])) (x0 : Nat) (x1 : Nat) (x2 : Nat) (x3 : Int32) (hx0 : (11, x0) ∈ ids) (hx1 : (1, x1) ∈ ids) (hx2 : (9, x2) ∈ ids) {z : St} {H : Heap} {locs : List Loc} {ls : Array Slot} (hr : zRep D cy B ids A s.heap z H locs) (hl : lv_has ls 6 [(0, .ref (B 11 x0)), (1, .ref (B 1 x1)), (2, .ref (B 9 x2)), (3, .int x3)]) (h : fX11_forgetSilent_69 N K12 x0 x1 x2 x3 z = some (r, z')) : W p l e rmX11_forgetSilent s m args below meth c H locs 0 0 Q (F0 m 69 ls []) := by
  unfold fX11_forgetSilent_69 at h
  obtain ⟨v1, ev1⟩ : ∃ y : Int32, y = (x3 + (-1)) := ⟨_, rfl⟩
  replace h := zl_sub ev1 h
  refine lv_iinc (v := v1) (lv' := [(3, .int v1), (0, .ref (B 11 x0)), (1, .ref (B 1 x1)), (2, .ref (B 9 x2))]) F.1 F.2.1 dX11_forgetSilent_69 hl (k := 3) rfl (by rw [ev1]; rfl) (by decide) rfl (fun ls hl => ?_)
  refine lv_goto (tgt := 12) F.1 F.2.1 dX11_forgetSilent_72 (by decide) ?_
  exact hK12 x0 x1 x2 v1 hx0 hx1 hx2 hr (lv_sub hl [1, 2, 3, 0] rfl) h
def fX11_forgetSilent_64 (N : Nat) (K12 : Nat → Nat → Nat → Int32 → St → Option (Int32 × St)) (x0 : Nat) (x1 : Nat) (x2 : Nat) (x3 : Int32) (z : St) : Option (Int32 × St) := zc (fX9_forget N x2 x3 z) fun _ z2 => fX11_forgetSilent_69 N K12 x0 x1 x2 x3 z2
set_option maxHeartbeats 4000000 in
set_option maxRecDepth 100000 in
theorem bX11_forgetSilent_64 (hst : zSt B ids) (F : zFx p m c cX11_forgetSilent 6 s args RX11 D cy B ids A) (hA : ∀ q : Nat, s.heap.size ≤ q → A q) {r : Int32} {z' : St} (E : zEnd p l e rmX11_forgetSilent s m args below meth c cX11_forgetSilent D cy B ids A Q none z' .return_ True) {N : Nat} {K12 : Nat → Nat → Nat → Int32 → St → Option (Int32 × St)} (hK12 : ∀ (x0 : Nat) (x1 : Nat) (x2 : Nat) (x3 : Int32) (hx0 : (11, x0) ∈ ids) (hx1 : (1, x1) ∈ ids) (hx2 : (9, x2) ∈ ids) {z : St} {H : Heap} {locs : List Loc} {ls : Array Slot} (hr : zRep D cy B ids A s.heap z H locs) (hl : lv_has ls 6 [(0, .ref (B 11 x0)), (1, .ref (B 1 x1)), (2, .ref (B 9 x2)), (3, .int x3)]), K12 x0 x1 x2 x3 z = some (r, z') → W p l e rmX11_forgetSilent s m args below meth c H locs 0 0 Q (F0 m 12 ls [])) (x0 : Nat) (x1 : Nat) (x2 : Nat) (x3 : Int32) (hx0 : (11, x0) ∈ ids) (hx1 : (1, x1) ∈ ids) (hx2 : (9, x2) ∈ ids) {z : St} {H : Heap} {locs : List Loc} {ls : Array Slot} (hr : zRep D cy B ids A s.heap z H locs) (hl : lv_has ls 6 [(0, .ref (B 11 x0)), (1, .ref (B 1 x1)), (2, .ref (B 9 x2)), (3, .int x3)]) (h : fX11_forgetSilent_64 N K12 x0 x1 x2 x3 z = some (r, z')) : W p l e rmX11_forgetSilent s m args below meth c H locs 0 0 Q (F0 m 64 ls []) := by
  unfold fX11_forgetSilent_64 at h
  refine lv_aload_n F.1 F.2.1 dX11_forgetSilent_64 rfl (lv_at hl 2 rfl) ?_
  refine lv_iload_n F.1 F.2.1 dX11_forgetSilent_65 rfl (lv_at hl 3 rfl) ?_
  obtain ⟨r1, z2, hc3, h⟩ := zc_some h
  refine zr_callv (zrun_VN (As := [.int x3]) (rest := []) zn_1489 zq_1491 zs_X9_forget zq_1492 zq_10 hdX9_forget (by decide) (T := TX9) (N := 13) rfl (okX9_forget l D cy B ids hst N x2 hx2 x3  hr.2.2 hc3) F hr hx2 hl.1 rfl (by decide) dX11_forgetSilent_66 rfl rfl hroX11_forgetSilent_X9_forget ⟨Nat.zero_le _, Nat.zero_le _⟩) F hA hr (fun H locs hx4 hr => ?_)
  clear hc3
  exact bX11_forgetSilent_69 hst F hA E hK12 x0 x1 x2 x3 hx0 hx1 hx2 hr (lv_sub hl [0, 1, 2, 3] rfl) h
def fX11_forgetSilent_12b (N : Nat) (K12 : Nat → Nat → Nat → Int32 → St → Option (Int32 × St)) (x0 : Nat) (x1 : Nat) (x2 : Nat) (x3 : Int32) (z : St) : Option (Int32 × St) := if x3 < 0 then (some (0, z)) else (zk x3 16 <| zl (zgA z 131 x2 x3.toNatClampNeg) fun v3 => zk (v3 / (16)) 6 <| zl (zgQ z 112 x1 (v3 / (16)).toNatClampNeg) fun y5 => zd y5 fun a6 => zl (zgR z 8 1 a6) fun y7 => zd y7 fun a8 => if (zgI z 5 3 a8) = 0 then (fX11_forgetSilent_64 N K12 x0 x1 x2 x3 z) else (zk v3 96 <| if ((zgI z 11 4 x0) - (zgA z 132 x2 v3.toNatClampNeg)) < (80) then (fX11_forgetSilent_69 N K12 x0 x1 x2 x3 z) else (fX11_forgetSilent_64 N K12 x0 x1 x2 x3 z)))
def fX11_forgetSilent_12 (N : Nat)  : Nat → Nat → Nat → Nat → Int32 → St → Option (Int32 × St)
  | 0 => fun _ _ _ _ _ => none
  | n + 1 => fX11_forgetSilent_12b N (fX11_forgetSilent_12 N  n)
set_option maxHeartbeats 4000000 in
set_option maxRecDepth 100000 in
theorem bX11_forgetSilent_12 (hst : zSt B ids) (F : zFx p m c cX11_forgetSilent 6 s args RX11 D cy B ids A) (hA : ∀ q : Nat, s.heap.size ≤ q → A q) {r : Int32} {z' : St} (E : zEnd p l e rmX11_forgetSilent s m args below meth c cX11_forgetSilent D cy B ids A Q none z' .return_ True) {N : Nat} {K12 : Nat → Nat → Nat → Int32 → St → Option (Int32 × St)} (hK12 : ∀ (x0 : Nat) (x1 : Nat) (x2 : Nat) (x3 : Int32) (hx0 : (11, x0) ∈ ids) (hx1 : (1, x1) ∈ ids) (hx2 : (9, x2) ∈ ids) {z : St} {H : Heap} {locs : List Loc} {ls : Array Slot} (hr : zRep D cy B ids A s.heap z H locs) (hl : lv_has ls 6 [(0, .ref (B 11 x0)), (1, .ref (B 1 x1)), (2, .ref (B 9 x2)), (3, .int x3)]), K12 x0 x1 x2 x3 z = some (r, z') → W p l e rmX11_forgetSilent s m args below meth c H locs 0 0 Q (F0 m 12 ls [])) (x0 : Nat) (x1 : Nat) (x2 : Nat) (x3 : Int32) (hx0 : (11, x0) ∈ ids) (hx1 : (1, x1) ∈ ids) (hx2 : (9, x2) ∈ ids) {z : St} {H : Heap} {locs : List Loc} {ls : Array Slot} (hr : zRep D cy B ids A s.heap z H locs) (hl : lv_has ls 6 [(0, .ref (B 11 x0)), (1, .ref (B 1 x1)), (2, .ref (B 9 x2)), (3, .int x3)]) (h : fX11_forgetSilent_12b N K12 x0 x1 x2 x3 z = some (r, z')) : W p l e rmX11_forgetSilent s m args below meth c H locs 0 0 Q (F0 m 12 ls []) := by
  unfold fX11_forgetSilent_12b at h
  refine lv_iload_n F.1 F.2.1 dX11_forgetSilent_12 rfl (lv_at hl 3 rfl) ?_
  refine lv_if_lt (tgt := 75) F.1 F.2.1 dX11_forgetSilent_13 (by decide) (fun c1 => ?_) (fun c1 => ?_)
  · replace h := zi_t c1 h
    obtain ⟨rfl, rfl⟩ := zret h
    exact E _ _ _ _ dX11_forgetSilent_75 trivial hr
  · replace h := zi_f c1 h
    refine lv_aload_n F.1 F.2.1 dX11_forgetSilent_16 rfl (lv_at hl 2 rfl) ?_
    refine gf11_765 F hx2 hr dX11_forgetSilent_17 ?_
    refine lv_iload_n F.1 F.2.1 dX11_forgetSilent_20 rfl (lv_at hl 3 rfl) ?_
    obtain ⟨c2, h⟩ := zk_some h
    refine zr_iald (k := 131) (by decide) rfl (by decide) F (zal_a F hx2 (j := 0) rfl) hr dX11_forgetSilent_21 c2 ?_
    refine lv_topi (fun v3 ev3 => ?_)
    replace h := zl_sub ev3 h
    refine lv_istore (lv' := [(4, .int v3), (0, .ref (B 11 x0)), (1, .ref (B 1 x1)), (2, .ref (B 9 x2)), (3, .int x3)]) F.1 F.2.1 dX11_forgetSilent_22 hl (by decide) rfl (fun ls hl => ?_)
    refine lv_aload_n F.1 F.2.1 dX11_forgetSilent_24 rfl (lv_at hl 2 rfl) ?_
    refine gf11_134 F hx1 hr dX11_forgetSilent_25 ?_
    refine lv_iload F.1 F.2.1 dX11_forgetSilent_28 (lv_at hl 0 rfl) ?_
    refine lv_bipush (v := (16)) F.1 F.2.1 dX11_forgetSilent_30 (by decide) ?_
    refine lv_idiv F.1 F.2.1 dX11_forgetSilent_32 (by decide) ?_
    obtain ⟨c4, h⟩ := zk_some h
    refine zr_aaldv (k := 112) (by decide) rfl rfl (zlen_d (by decide)) F (zal_a F hx1 (j := 2) rfl) hr dX11_forgetSilent_33 c4 (fun y5 ey5 => ?_)
    replace h := zl_sub ey5 h
    have hy5 := zal_q hr (zal_a F hx1 (j := 2) rfl) rfl ey5
    clear ey5
    refine zr_astore (lv' := [(5, va_rf (Option.map (B 8) y5)), (4, .int v3), (0, .ref (B 11 x0)), (1, .ref (B 1 x1)), (2, .ref (B 9 x2)), (3, .int x3)]) F.1 F.2.1 dX11_forgetSilent_34 hl (by decide) rfl (fun ls hl => ?_)
    refine zr_aload F.1 F.2.1 dX11_forgetSilent_36 (lv_at hl 0 rfl) ?_
    obtain ⟨a6, rfl, h⟩ := zd_some h
    refine gf11_261 F (hy5 _ rfl) hr dX11_forgetSilent_38 (fun y7 ey7 => ?_)
    replace h := zl_sub ey7 h
    have hy7 := zal_g hr (hy5 _ rfl) (j := 1) rfl ey7
    clear ey7
    obtain ⟨a8, rfl, h⟩ := zd_some h
    refine gf11_158 F (hy7 _ rfl) hr dX11_forgetSilent_41 ?_
    refine lv_if_eq (tgt := 64) F.1 F.2.1 dX11_forgetSilent_44 (by decide) (fun c9 => ?_) (fun c9 => ?_)
    · replace h := zi_t c9 h
      exact bX11_forgetSilent_64 hst F hA E hK12 x0 x1 x2 x3 hx0 hx1 hx2 hr (lv_sub hl [2, 3, 4, 5] rfl) h
    · replace h := zi_f c9 h
      refine lv_aload_n F.1 F.2.1 dX11_forgetSilent_47 rfl (lv_at hl 2 rfl) ?_
      refine gf11_176 F hx0 hr dX11_forgetSilent_48 ?_
      refine lv_aload_n F.1 F.2.1 dX11_forgetSilent_51 rfl (lv_at hl 4 rfl) ?_
      refine gf11_768 F hx2 hr dX11_forgetSilent_52 ?_
      refine lv_iload F.1 F.2.1 dX11_forgetSilent_55 (lv_at hl 1 rfl) ?_
      obtain ⟨c10, h⟩ := zk_some h
      refine zr_iald (k := 132) (by decide) rfl (by decide) F (zal_a F hx2 (j := 2) rfl) hr dX11_forgetSilent_57 c10 ?_
      refine lv_isub F.1 F.2.1 dX11_forgetSilent_58 ?_
      refine lv_bipush (v := (80)) F.1 F.2.1 dX11_forgetSilent_59 (by decide) ?_
      refine lv_icmp_lt (tgt := 69) F.1 F.2.1 dX11_forgetSilent_61 (by decide) (fun c11 => ?_) (fun c11 => ?_)
      · replace h := zi_t c11 h
        exact bX11_forgetSilent_69 hst F hA E hK12 x0 x1 x2 x3 hx0 hx1 hx2 hr (lv_sub hl [2, 3, 4, 5] rfl) h
      · replace h := zi_f c11 h
        exact bX11_forgetSilent_64 hst F hA E hK12 x0 x1 x2 x3 hx0 hx1 hx2 hr (lv_sub hl [2, 3, 4, 5] rfl) h
theorem lX11_forgetSilent_12 (hst : zSt B ids) (F : zFx p m c cX11_forgetSilent 6 s args RX11 D cy B ids A) (hA : ∀ q : Nat, s.heap.size ≤ q → A q) {r : Int32} {z' : St} (E : zEnd p l e rmX11_forgetSilent s m args below meth c cX11_forgetSilent D cy B ids A Q none z' .return_ True) {N : Nat}  : ∀ (n : Nat) (x0 : Nat) (x1 : Nat) (x2 : Nat) (x3 : Int32) (hx0 : (11, x0) ∈ ids) (hx1 : (1, x1) ∈ ids) (hx2 : (9, x2) ∈ ids) {z : St} {H : Heap} {locs : List Loc} {ls : Array Slot} (hr : zRep D cy B ids A s.heap z H locs) (hl : lv_has ls 6 [(0, .ref (B 11 x0)), (1, .ref (B 1 x1)), (2, .ref (B 9 x2)), (3, .int x3)]), fX11_forgetSilent_12 N  n x0 x1 x2 x3 z = some (r, z') → W p l e rmX11_forgetSilent s m args below meth c H locs 0 0 Q (F0 m 12 ls []) := by
  intro n
  induction n with
  | zero => intro x0 x1 x2 x3 hx0 hx1 hx2 z H locs ls hr hl h; cases h
  | succ n ih => intro x0 x1 x2 x3 hx0 hx1 hx2 z H locs ls hr hl h; exact bX11_forgetSilent_12 hst F hA E ih x0 x1 x2 x3 hx0 hx1 hx2 hr hl h
def fX11_forgetSilent (N : Nat)  (x0 : Nat) (x1 : Nat) (z : St) : Option (Int32 × St) := zl (zgR z 1 10 x1) fun y1 => zd y1 fun a2 => zl ((zgI z 9 1 a2) - (1)) fun v3 => fX11_forgetSilent_12 N N x0 x1 a2 v3 z
set_option maxHeartbeats 4000000 in
set_option maxRecDepth 100000 in
theorem bX11_forgetSilent_0 (hst : zSt B ids) (F : zFx p m c cX11_forgetSilent 6 s args RX11 D cy B ids A) (hA : ∀ q : Nat, s.heap.size ≤ q → A q) {r : Int32} {z' : St} (E : zEnd p l e rmX11_forgetSilent s m args below meth c cX11_forgetSilent D cy B ids A Q none z' .return_ True) {N : Nat}  (x0 : Nat) (x1 : Nat) (hx0 : (11, x0) ∈ ids) (hx1 : (1, x1) ∈ ids) {z : St} {H : Heap} {locs : List Loc} {ls : Array Slot} (hr : zRep D cy B ids A s.heap z H locs) (hl : lv_has ls 6 [(0, .ref (B 11 x0)), (1, .ref (B 1 x1))]) (h : fX11_forgetSilent N x0 x1 z = some (r, z')) : W p l e rmX11_forgetSilent s m args below meth c H locs 0 0 Q (F0 m 0 ls []) := by
  unfold fX11_forgetSilent at h
  refine lv_aload_n F.1 F.2.1 dX11_forgetSilent_0 rfl (lv_at hl 1 rfl) ?_
  refine gf11_395 F hx1 hr dX11_forgetSilent_1 (fun y1 ey1 => ?_)
  replace h := zl_sub ey1 h
  have hy1 := zal_g hr hx1 (j := 10) rfl ey1
  clear ey1
  refine zr_astore_n (lv' := [(2, va_rf (Option.map (B 9) y1)), (0, .ref (B 11 x0)), (1, .ref (B 1 x1))]) F.1 F.2.1 dX11_forgetSilent_4 rfl hl (by decide) rfl (fun ls hl => ?_)
  refine zr_aload_n F.1 F.2.1 dX11_forgetSilent_5 rfl (lv_at hl 0 rfl) ?_
  obtain ⟨a2, rfl, h⟩ := zd_some h
  refine gf11_762 F (hy1 _ rfl) hr dX11_forgetSilent_6 ?_
  refine lv_iconst (v := (1)) F.1 F.2.1 dX11_forgetSilent_9 (by decide) ?_
  refine lv_isub F.1 F.2.1 dX11_forgetSilent_10 ?_
  refine lv_topi (fun v3 ev3 => ?_)
  replace h := zl_sub ev3 h
  refine lv_istore_n (lv' := [(3, .int v3), (2, .ref (B 9 a2)), (0, .ref (B 11 x0)), (1, .ref (B 1 x1))]) F.1 F.2.1 dX11_forgetSilent_11 rfl hl (by decide) rfl (fun ls hl => ?_)
  exact lX11_forgetSilent_12 hst F hA E  _ x0 x1 a2 v3 hx0 hx1 (hy1 _ rfl) hr (lv_sub hl [2, 3, 1, 0] rfl) h
end SX11_forgetSilent
set_option maxRecDepth 100000 in
theorem okX11_forgetSilent (l : Launch) (D : va_G) (cy : Nat → ClassId) (B : Nat → Nat → Nat) (ids : List (Nat × Nat)) (hst : zSt B ids) (N : Nat) (x0 : Nat) (hx0 : (11, x0) ∈ ids) (x1 : Nat) (hx1 : (1, x1) ∈ ids) {z : St} {r : Int32} {z' : St} (hW : zWf ids z) (h : fX11_forgetSilent N x0 x1 z = some (r, z')) : zM l yX11_forgetSilent (zws yX11_forgetSilent cX11_forgetSilent 6 none) rmX11_forgetSilent D cy B ids [.ref (B 11 x0), .ref (B 1 x1)] none True z z' :=
  zM_of hst hW (by decide +kernel) (Nat.le_of_ble_eq_true rfl) (fun p e s m args below meth c A ls F hA hret hlocks hr hl => bX11_forgetSilent_0 hst F hA (zEnd_v F hret hlocks) x0 x1 hx0 hx1 hr hl h)
abbrev rmX11_makeOwnAdvert : Room := { frames := 3, cells := 0, slots := 0, locals := 70 }
theorem hdX11_makeOwnAdvert : yX11_makeOwnAdvert.cls ≠ "java/lang/invoke/MethodHandle" ∧ yX11_makeOwnAdvert.cls ≠ "java/lang/invoke/VarHandle" ∧ (parseMethodDescriptor yX11_makeOwnAdvert.desc).map (fun d => d.parameters.length) = some 1 := by decide +kernel
theorem hroX11_makeOwnAdvert_X0_takeDraft : rmX0_takeDraft.frames + 1 ≤ rmX11_makeOwnAdvert.frames ∧ 8 + (5 + 11) + rmX0_takeDraft.locals ≤ rmX11_makeOwnAdvert.locals := by decide
theorem hroX11_makeOwnAdvert_X0_tellsDraft : rmX0_tellsDraft.frames + 1 ≤ rmX11_makeOwnAdvert.frames ∧ 8 + (3 + 11) + rmX0_tellsDraft.locals ≤ rmX11_makeOwnAdvert.locals := by decide
theorem hroX11_makeOwnAdvert_X9_draftAdvert : rmX9_draftAdvert.frames + 1 ≤ rmX11_makeOwnAdvert.frames ∧ 8 + (5 + 11) + rmX9_draftAdvert.locals ≤ rmX11_makeOwnAdvert.locals := by decide
theorem hroX11_makeOwnAdvert_X9_setDueToAll : rmX9_setDueToAll.frames + 1 ≤ rmX11_makeOwnAdvert.frames ∧ 8 + (5 + 11) + rmX9_setDueToAll.locals ≤ rmX11_makeOwnAdvert.locals := by decide
section SX11_makeOwnAdvert
variable {p : Program} {l : Launch} {e : Env} {s : State} {m : MethodId} {args : Array Value} {below : List Frame} {meth : Method} {c : Code} {Q : State → Prop} {D : va_G} {cy : Nat → ClassId} {B : Nat → Nat → Nat} {ids : List (Nat × Nat)} {A : Nat → Prop}
def fX11_makeOwnAdvert_121 (N : Nat)  (x0 : Nat) (x1 : Nat) (x2 : Nat) (x3 : Nat) (z : St) : Option (Int32 × St) := zl (zsI z 0 8 x3 ((zgI z 0 8 x3) + (1))) fun z1 => zl (zsI z1 0 7 x3 (zgI z1 11 4 x0)) fun z2 => zc (fX0_takeDraft N x3 (zgI z2 1 0 x1) (zgI z2 0 8 x3) (zgI z2 11 4 x0) z2) fun _ z4 => zc (fX9_setDueToAll N x2 (zgI z4 1 0 x1) (-1) (zgI z4 11 4 x0) z4) fun _ z8 => some (0, z8)
set_option maxHeartbeats 4000000 in
set_option maxRecDepth 100000 in
theorem bX11_makeOwnAdvert_121 (hst : zSt B ids) (F : zFx p m c cX11_makeOwnAdvert 6 s args RX11 D cy B ids A) (hA : ∀ q : Nat, s.heap.size ≤ q → A q) {r : Int32} {z' : St} (E : zEnd p l e rmX11_makeOwnAdvert s m args below meth c cX11_makeOwnAdvert D cy B ids A Q none z' .return_ True) {N : Nat}  (x0 : Nat) (x1 : Nat) (x2 : Nat) (x3 : Nat) (hx0 : (11, x0) ∈ ids) (hx1 : (1, x1) ∈ ids) (hx2 : (9, x2) ∈ ids) (hx3 : (0, x3) ∈ ids) {z : St} {H : Heap} {locs : List Loc} {ls : Array Slot} (hr : zRep D cy B ids A s.heap z H locs) (hl : lv_has ls 6 [(0, .ref (B 11 x0)), (1, .ref (B 1 x1)), (2, .ref (B 9 x2)), (3, .ref (B 0 x3))]) (h : fX11_makeOwnAdvert_121 N x0 x1 x2 x3 z = some (r, z')) : W p l e rmX11_makeOwnAdvert s m args below meth c H locs 0 0 Q (F0 m 121 ls []) := by
  unfold fX11_makeOwnAdvert_121 at h
  refine lv_aload_n F.1 F.2.1 dX11_makeOwnAdvert_121 rfl (lv_at hl 3 rfl) ?_
  refine lv_dup F.1 F.2.1 dX11_makeOwnAdvert_122 rfl ?_
  refine gf11_775 F hx3 hr dX11_makeOwnAdvert_123 ?_
  refine lv_iconst (v := (1)) F.1 F.2.1 dX11_makeOwnAdvert_126 (by decide) ?_
  refine lv_iadd F.1 F.2.1 dX11_makeOwnAdvert_127 ?_
  refine pf11_775 F hx3 hr dX11_makeOwnAdvert_128 ((zgI z 0 8 x3) + (1)) (fun H locs z1 ez1 hr => ?_)
  replace h := zl_sub ez1 h
  clear ez1
  refine lv_aload_n F.1 F.2.1 dX11_makeOwnAdvert_131 rfl (lv_at hl 3 rfl) ?_
  refine lv_aload_n F.1 F.2.1 dX11_makeOwnAdvert_132 rfl (lv_at hl 0 rfl) ?_
  refine gf11_176 F hx0 hr dX11_makeOwnAdvert_133 ?_
  refine pf11_772 F hx3 hr dX11_makeOwnAdvert_136 (zgI z1 11 4 x0) (fun H locs z2 ez2 hr => ?_)
  replace h := zl_sub ez2 h
  clear ez2
  refine lv_aload_n F.1 F.2.1 dX11_makeOwnAdvert_139 rfl (lv_at hl 3 rfl) ?_
  refine lv_aload_n F.1 F.2.1 dX11_makeOwnAdvert_140 rfl (lv_at hl 1 rfl) ?_
  refine gf11_484 F hx1 hr dX11_makeOwnAdvert_141 ?_
  refine lv_aload_n F.1 F.2.1 dX11_makeOwnAdvert_144 rfl (lv_at hl 3 rfl) ?_
  refine gf11_775 F hx3 hr dX11_makeOwnAdvert_145 ?_
  refine lv_aload_n F.1 F.2.1 dX11_makeOwnAdvert_148 rfl (lv_at hl 0 rfl) ?_
  refine gf11_176 F hx0 hr dX11_makeOwnAdvert_149 ?_
  obtain ⟨r3, z4, hc5, h⟩ := zc_some h
  refine zr_callv (zrun_VN (As := [.int (zgI z2 1 0 x1), .int (zgI z2 0 8 x3), .int (zgI z2 11 4 x0)]) (rest := []) zn_1520 zq_1201 zs_X0_takeDraft zq_1202 zq_11 hdX0_takeDraft (by decide) (T := TX0) (N := 16) rfl (okX0_takeDraft l D cy B ids hst N x3 hx3 (zgI z2 1 0 x1)  (zgI z2 0 8 x3)  (zgI z2 11 4 x0)  hr.2.2 hc5) F hr hx3 hl.1 rfl (by decide) dX11_makeOwnAdvert_152 rfl rfl hroX11_makeOwnAdvert_X0_takeDraft ⟨Nat.zero_le _, Nat.zero_le _⟩) F hA hr (fun H locs hx6 hr => ?_)
  clear hc5
  refine lv_aload_n F.1 F.2.1 dX11_makeOwnAdvert_155 rfl (lv_at hl 2 rfl) ?_
  refine lv_aload_n F.1 F.2.1 dX11_makeOwnAdvert_156 rfl (lv_at hl 1 rfl) ?_
  refine gf11_484 F hx1 hr dX11_makeOwnAdvert_157 ?_
  refine lv_iconst (v := (-1)) F.1 F.2.1 dX11_makeOwnAdvert_160 (by decide) ?_
  refine lv_aload_n F.1 F.2.1 dX11_makeOwnAdvert_161 rfl (lv_at hl 0 rfl) ?_
  refine gf11_176 F hx0 hr dX11_makeOwnAdvert_162 ?_
  obtain ⟨r7, z8, hc9, h⟩ := zc_some h
  refine zr_callv (zrun_VN (As := [.int (zgI z4 1 0 x1), .int (-1), .int (zgI z4 11 4 x0)]) (rest := []) zn_1203 zq_1205 zs_X9_setDueToAll zq_1206 zq_10 hdX9_setDueToAll (by decide) (T := TX9) (N := 13) rfl (okX9_setDueToAll l D cy B ids hst N x2 hx2 (zgI z4 1 0 x1)  (-1)  (zgI z4 11 4 x0)  hr.2.2 hc9) F hr hx2 hl.1 rfl (by decide) dX11_makeOwnAdvert_165 rfl rfl hroX11_makeOwnAdvert_X9_setDueToAll ⟨Nat.zero_le _, Nat.zero_le _⟩) F hA hr (fun H locs hx10 hr => ?_)
  clear hc9
  obtain ⟨rfl, rfl⟩ := zret h
  exact E _ _ _ _ dX11_makeOwnAdvert_168 trivial hr
def fX11_makeOwnAdvert_90 (N : Nat)  (x0 : Nat) (x1 : Nat) (x2 : Nat) (x3 : Nat) (x5 : Int32) (z : St) : Option (Int32 × St) := zc (fX9_draftAdvert N x2 x1 (zgI z 11 1 x0) z) fun _ z2 => zl (zsI z2 9 10 x2 (0)) fun z5 => if ¬ x5 = 0 then (fX11_makeOwnAdvert_121 N x0 x1 x2 x3 z5) else (zc (fX0_tellsDraft N x3 (zgI z5 1 0 x1) z5) fun r7 z8 => if r7 = 0 then (fX11_makeOwnAdvert_121 N x0 x1 x2 x3 z8) else (some (0, z8)))
set_option maxHeartbeats 4000000 in
set_option maxRecDepth 100000 in
theorem bX11_makeOwnAdvert_90 (hst : zSt B ids) (F : zFx p m c cX11_makeOwnAdvert 6 s args RX11 D cy B ids A) (hA : ∀ q : Nat, s.heap.size ≤ q → A q) {r : Int32} {z' : St} (E : zEnd p l e rmX11_makeOwnAdvert s m args below meth c cX11_makeOwnAdvert D cy B ids A Q none z' .return_ True) {N : Nat}  (x0 : Nat) (x1 : Nat) (x2 : Nat) (x3 : Nat) (x5 : Int32) (hx0 : (11, x0) ∈ ids) (hx1 : (1, x1) ∈ ids) (hx2 : (9, x2) ∈ ids) (hx3 : (0, x3) ∈ ids) {z : St} {H : Heap} {locs : List Loc} {ls : Array Slot} (hr : zRep D cy B ids A s.heap z H locs) (hl : lv_has ls 6 [(0, .ref (B 11 x0)), (1, .ref (B 1 x1)), (2, .ref (B 9 x2)), (3, .ref (B 0 x3)), (5, .int x5)]) (h : fX11_makeOwnAdvert_90 N x0 x1 x2 x3 x5 z = some (r, z')) : W p l e rmX11_makeOwnAdvert s m args below meth c H locs 0 0 Q (F0 m 90 ls []) := by
  unfold fX11_makeOwnAdvert_90 at h
  refine lv_aload_n F.1 F.2.1 dX11_makeOwnAdvert_90 rfl (lv_at hl 2 rfl) ?_
  refine lv_aload_n F.1 F.2.1 dX11_makeOwnAdvert_91 rfl (lv_at hl 1 rfl) ?_
  refine lv_aload_n F.1 F.2.1 dX11_makeOwnAdvert_92 rfl (lv_at hl 0 rfl) ?_
  refine gf11_85 F hx0 hr dX11_makeOwnAdvert_93 ?_
  obtain ⟨r1, z2, hc3, h⟩ := zc_some h
  refine zr_callv (zrun_VN (As := [.ref (B 1 x1), .int (zgI z 11 1 x0)]) (rest := []) zn_1506 zq_1508 zs_X9_draftAdvert zq_1509 zq_10 hdX9_draftAdvert (by decide) (T := TX9) (N := 13) rfl (okX9_draftAdvert l D cy B ids hst N x2 hx2 x1 hx1 (zgI z 11 1 x0)  hr.2.2 hc3) F hr hx2 hl.1 rfl (by decide) dX11_makeOwnAdvert_96 rfl rfl hroX11_makeOwnAdvert_X9_draftAdvert ⟨Nat.zero_le _, Nat.zero_le _⟩) F hA hr (fun H locs hx4 hr => ?_)
  clear hc3
  refine lv_aload_n F.1 F.2.1 dX11_makeOwnAdvert_99 rfl (lv_at hl 2 rfl) ?_
  refine lv_iconst (v := (0)) F.1 F.2.1 dX11_makeOwnAdvert_100 (by decide) ?_
  refine pf11_723 F hx2 hr dX11_makeOwnAdvert_101 (0) (by decide) (fun H locs z5 ez5 hr => ?_)
  replace h := zl_sub ez5 h
  clear ez5
  refine lv_iload F.1 F.2.1 dX11_makeOwnAdvert_104 (lv_at hl 4 rfl) ?_
  refine lv_if_ne (tgt := 121) F.1 F.2.1 dX11_makeOwnAdvert_106 (by decide) (fun c6 => ?_) (fun c6 => ?_)
  · replace h := zi_t c6 h
    exact bX11_makeOwnAdvert_121 hst F hA E  x0 x1 x2 x3 hx0 hx1 hx2 hx3 hr (lv_sub hl [0, 1, 2, 3] rfl) h
  · replace h := zi_f (fun q => q c6) h
    refine lv_aload_n F.1 F.2.1 dX11_makeOwnAdvert_109 rfl (lv_at hl 3 rfl) ?_
    refine lv_aload_n F.1 F.2.1 dX11_makeOwnAdvert_110 rfl (lv_at hl 1 rfl) ?_
    refine gf11_484 F hx1 hr dX11_makeOwnAdvert_111 ?_
    obtain ⟨r7, z8, hc9, h⟩ := zc_some h
    refine zr_calli (zrun_VN (As := [.int (zgI z5 1 0 x1)]) (rest := []) zn_1516 zq_1518 zs_X0_tellsDraft zq_1519 zq_11 hdX0_tellsDraft (by decide) (T := TX0) (N := 16) rfl (okX0_tellsDraft l D cy B ids hst N x3 hx3 (zgI z5 1 0 x1)  hr.2.2 hc9) F hr hx3 hl.1 rfl (by decide) dX11_makeOwnAdvert_114 rfl rfl hroX11_makeOwnAdvert_X0_tellsDraft ⟨Nat.zero_le _, Nat.zero_le _⟩) F hA hr (fun H locs hx10 hr => ?_)
    clear hc9
    refine lv_if_eq (tgt := 121) F.1 F.2.1 dX11_makeOwnAdvert_117 (by decide) (fun c11 => ?_) (fun c11 => ?_)
    · replace h := zi_t c11 h
      exact bX11_makeOwnAdvert_121 hst F hA E  x0 x1 x2 x3 hx0 hx1 hx2 hx3 hr (lv_sub hl [0, 1, 2, 3] rfl) h
    · replace h := zi_f c11 h
      obtain ⟨rfl, rfl⟩ := zret h
      exact E _ _ _ _ dX11_makeOwnAdvert_120 trivial hr
def fX11_makeOwnAdvert_75 (N : Nat)  (x0 : Nat) (x1 : Nat) (x2 : Nat) (x3 : Nat) (s0 : Int32) (z : St) : Option (Int32 × St) := if ¬ s0 = 0 then (fX11_makeOwnAdvert_90 N x0 x1 x2 x3 s0 z) else (if ¬ (zgI z 9 10 x2) = 0 then (fX11_makeOwnAdvert_90 N x0 x1 x2 x3 s0 z) else (some (0, z)))
set_option maxHeartbeats 4000000 in
set_option maxRecDepth 100000 in
theorem bX11_makeOwnAdvert_75 (hst : zSt B ids) (F : zFx p m c cX11_makeOwnAdvert 6 s args RX11 D cy B ids A) (hA : ∀ q : Nat, s.heap.size ≤ q → A q) {r : Int32} {z' : St} (E : zEnd p l e rmX11_makeOwnAdvert s m args below meth c cX11_makeOwnAdvert D cy B ids A Q none z' .return_ True) {N : Nat}  (x0 : Nat) (x1 : Nat) (x2 : Nat) (x3 : Nat) (s0 : Int32) (hx0 : (11, x0) ∈ ids) (hx1 : (1, x1) ∈ ids) (hx2 : (9, x2) ∈ ids) (hx3 : (0, x3) ∈ ids) {z : St} {H : Heap} {locs : List Loc} {ls : Array Slot} (hr : zRep D cy B ids A s.heap z H locs) (hl : lv_has ls 6 [(0, .ref (B 11 x0)), (1, .ref (B 1 x1)), (2, .ref (B 9 x2)), (3, .ref (B 0 x3))]) (h : fX11_makeOwnAdvert_75 N x0 x1 x2 x3 s0 z = some (r, z')) : W p l e rmX11_makeOwnAdvert s m args below meth c H locs 0 0 Q (F0 m 75 ls [.int s0]) := by
  unfold fX11_makeOwnAdvert_75 at h
  refine lv_istore (lv' := [(5, .int s0), (0, .ref (B 11 x0)), (1, .ref (B 1 x1)), (2, .ref (B 9 x2)), (3, .ref (B 0 x3))]) F.1 F.2.1 dX11_makeOwnAdvert_75 hl (by decide) rfl (fun ls hl => ?_)
  refine lv_iload F.1 F.2.1 dX11_makeOwnAdvert_77 (lv_at hl 0 rfl) ?_
  refine lv_if_ne (tgt := 90) F.1 F.2.1 dX11_makeOwnAdvert_79 (by decide) (fun c1 => ?_) (fun c1 => ?_)
  · replace h := zi_t c1 h
    exact bX11_makeOwnAdvert_90 hst F hA E  x0 x1 x2 x3 s0 hx0 hx1 hx2 hx3 hr (lv_sub hl [1, 2, 3, 4, 0] rfl) h
  · replace h := zi_f (fun q => q c1) h
    refine lv_aload_n F.1 F.2.1 dX11_makeOwnAdvert_82 rfl (lv_at hl 3 rfl) ?_
    refine gf11_723 F hx2 hr dX11_makeOwnAdvert_83 ?_
    refine lv_if_ne (tgt := 90) F.1 F.2.1 dX11_makeOwnAdvert_86 (by decide) (fun c2 => ?_) (fun c2 => ?_)
    · replace h := zi_t c2 h
      exact bX11_makeOwnAdvert_90 hst F hA E  x0 x1 x2 x3 s0 hx0 hx1 hx2 hx3 hr (lv_sub hl [1, 2, 3, 4, 0] rfl) h
    · replace h := zi_f (fun q => q c2) h
      obtain ⟨rfl, rfl⟩ := zret h
      exact E _ _ _ _ dX11_makeOwnAdvert_89 trivial hr
def fX11_makeOwnAdvert_70 (N : Nat)  (x0 : Nat) (x1 : Nat) (x2 : Nat) (x3 : Nat) (z : St) : Option (Int32 × St) := fX11_makeOwnAdvert_75 N x0 x1 x2 x3 (1) z
set_option maxHeartbeats 4000000 in
set_option maxRecDepth 100000 in
theorem bX11_makeOwnAdvert_70 (hst : zSt B ids) (F : zFx p m c cX11_makeOwnAdvert 6 s args RX11 D cy B ids A) (hA : ∀ q : Nat, s.heap.size ≤ q → A q) {r : Int32} {z' : St} (E : zEnd p l e rmX11_makeOwnAdvert s m args below meth c cX11_makeOwnAdvert D cy B ids A Q none z' .return_ True) {N : Nat}  (x0 : Nat) (x1 : Nat) (x2 : Nat) (x3 : Nat) (hx0 : (11, x0) ∈ ids) (hx1 : (1, x1) ∈ ids) (hx2 : (9, x2) ∈ ids) (hx3 : (0, x3) ∈ ids) {z : St} {H : Heap} {locs : List Loc} {ls : Array Slot} (hr : zRep D cy B ids A s.heap z H locs) (hl : lv_has ls 6 [(0, .ref (B 11 x0)), (1, .ref (B 1 x1)), (2, .ref (B 9 x2)), (3, .ref (B 0 x3))]) (h : fX11_makeOwnAdvert_70 N x0 x1 x2 x3 z = some (r, z')) : W p l e rmX11_makeOwnAdvert s m args below meth c H locs 0 0 Q (F0 m 70 ls []) := by
  unfold fX11_makeOwnAdvert_70 at h
  refine lv_iconst (v := (1)) F.1 F.2.1 dX11_makeOwnAdvert_70 (by decide) ?_
  refine lv_goto (tgt := 75) F.1 F.2.1 dX11_makeOwnAdvert_71 (by decide) ?_
  exact bX11_makeOwnAdvert_75 hst F hA E  x0 x1 x2 x3 (1) hx0 hx1 hx2 hx3 hr (lv_sub hl [0, 1, 2, 3] rfl) h
def fX11_makeOwnAdvert_41 (N : Nat)  (x0 : Nat) (x1 : Nat) (x2 : Nat) (x3 : Nat) (x4 : Int32) (z : St) : Option (Int32 × St) := if x4 = 0 then (fX11_makeOwnAdvert_70 N x0 x1 x2 x3 z) else (if x4 < (zgI z 0 8 x3) then (fX11_makeOwnAdvert_70 N x0 x1 x2 x3 z) else (if ((zgI z 11 4 x0) - (zgI z 0 7 x3)) < (2000) then (fX11_makeOwnAdvert_75 N x0 x1 x2 x3 (0) z) else (fX11_makeOwnAdvert_70 N x0 x1 x2 x3 z)))
set_option maxHeartbeats 4000000 in
set_option maxRecDepth 100000 in
theorem bX11_makeOwnAdvert_41 (hst : zSt B ids) (F : zFx p m c cX11_makeOwnAdvert 6 s args RX11 D cy B ids A) (hA : ∀ q : Nat, s.heap.size ≤ q → A q) {r : Int32} {z' : St} (E : zEnd p l e rmX11_makeOwnAdvert s m args below meth c cX11_makeOwnAdvert D cy B ids A Q none z' .return_ True) {N : Nat}  (x0 : Nat) (x1 : Nat) (x2 : Nat) (x3 : Nat) (x4 : Int32) (hx0 : (11, x0) ∈ ids) (hx1 : (1, x1) ∈ ids) (hx2 : (9, x2) ∈ ids) (hx3 : (0, x3) ∈ ids) {z : St} {H : Heap} {locs : List Loc} {ls : Array Slot} (hr : zRep D cy B ids A s.heap z H locs) (hl : lv_has ls 6 [(0, .ref (B 11 x0)), (1, .ref (B 1 x1)), (2, .ref (B 9 x2)), (3, .ref (B 0 x3)), (4, .int x4)]) (h : fX11_makeOwnAdvert_41 N x0 x1 x2 x3 x4 z = some (r, z')) : W p l e rmX11_makeOwnAdvert s m args below meth c H locs 0 0 Q (F0 m 41 ls []) := by
  unfold fX11_makeOwnAdvert_41 at h
  refine lv_iload F.1 F.2.1 dX11_makeOwnAdvert_41 (lv_at hl 4 rfl) ?_
  refine lv_if_eq (tgt := 70) F.1 F.2.1 dX11_makeOwnAdvert_43 (by decide) (fun c1 => ?_) (fun c1 => ?_)
  · replace h := zi_t c1 h
    exact bX11_makeOwnAdvert_70 hst F hA E  x0 x1 x2 x3 hx0 hx1 hx2 hx3 hr (lv_sub hl [0, 1, 2, 3] rfl) h
  · replace h := zi_f c1 h
    refine lv_aload_n F.1 F.2.1 dX11_makeOwnAdvert_46 rfl (lv_at hl 3 rfl) ?_
    refine gf11_775 F hx3 hr dX11_makeOwnAdvert_47 ?_
    refine lv_iload F.1 F.2.1 dX11_makeOwnAdvert_50 (lv_at hl 4 rfl) ?_
    refine lv_icmp_gt (tgt := 70) F.1 F.2.1 dX11_makeOwnAdvert_52 (by decide) (fun c2 => ?_) (fun c2 => ?_)
    · replace h := zi_t c2 h
      exact bX11_makeOwnAdvert_70 hst F hA E  x0 x1 x2 x3 hx0 hx1 hx2 hx3 hr (lv_sub hl [0, 1, 2, 3] rfl) h
    · replace h := zi_f c2 h
      refine lv_aload_n F.1 F.2.1 dX11_makeOwnAdvert_55 rfl (lv_at hl 0 rfl) ?_
      refine gf11_176 F hx0 hr dX11_makeOwnAdvert_56 ?_
      refine lv_aload_n F.1 F.2.1 dX11_makeOwnAdvert_59 rfl (lv_at hl 3 rfl) ?_
      refine gf11_772 F hx3 hr dX11_makeOwnAdvert_60 ?_
      refine lv_isub F.1 F.2.1 dX11_makeOwnAdvert_63 ?_
      refine lv_sipush (v := (2000)) F.1 F.2.1 dX11_makeOwnAdvert_64 (by decide) ?_
      refine lv_icmp_lt (tgt := 74) F.1 F.2.1 dX11_makeOwnAdvert_67 (by decide) (fun c3 => ?_) (fun c3 => ?_)
      · replace h := zi_t c3 h
        refine lv_iconst (v := (0)) F.1 F.2.1 dX11_makeOwnAdvert_74 (by decide) ?_
        exact bX11_makeOwnAdvert_75 hst F hA E  x0 x1 x2 x3 (0) hx0 hx1 hx2 hx3 hr (lv_sub hl [0, 1, 2, 3] rfl) h
      · replace h := zi_f c3 h
        exact bX11_makeOwnAdvert_70 hst F hA E  x0 x1 x2 x3 hx0 hx1 hx2 hx3 hr (lv_sub hl [0, 1, 2, 3] rfl) h
def fX11_makeOwnAdvert (N : Nat)  (x0 : Nat) (x1 : Nat) (z : St) : Option (Int32 × St) := zl (zgR z 1 10 x1) fun y1 => zd y1 fun a2 => zl (zgR z 9 12 a2) fun y3 => zd y3 fun a4 => zk (zgI z 1 0 x1) 16 <| zl (zgA z 100 a4 (zgI z 1 0 x1).toNatClampNeg) fun v6 => if v6 = 0 then (fX11_makeOwnAdvert_41 N x0 x1 a2 a4 v6 z) else (if ((zgI z 0 7 a4) + (10)) ≤ (zgI z 11 4 x0) then (fX11_makeOwnAdvert_41 N x0 x1 a2 a4 v6 z) else (some (0, z)))
set_option maxHeartbeats 4000000 in
set_option maxRecDepth 100000 in
theorem bX11_makeOwnAdvert_0 (hst : zSt B ids) (F : zFx p m c cX11_makeOwnAdvert 6 s args RX11 D cy B ids A) (hA : ∀ q : Nat, s.heap.size ≤ q → A q) {r : Int32} {z' : St} (E : zEnd p l e rmX11_makeOwnAdvert s m args below meth c cX11_makeOwnAdvert D cy B ids A Q none z' .return_ True) {N : Nat}  (x0 : Nat) (x1 : Nat) (hx0 : (11, x0) ∈ ids) (hx1 : (1, x1) ∈ ids) {z : St} {H : Heap} {locs : List Loc} {ls : Array Slot} (hr : zRep D cy B ids A s.heap z H locs) (hl : lv_has ls 6 [(0, .ref (B 11 x0)), (1, .ref (B 1 x1))]) (h : fX11_makeOwnAdvert N x0 x1 z = some (r, z')) : W p l e rmX11_makeOwnAdvert s m args below meth c H locs 0 0 Q (F0 m 0 ls []) := by
  unfold fX11_makeOwnAdvert at h
  refine lv_aload_n F.1 F.2.1 dX11_makeOwnAdvert_0 rfl (lv_at hl 1 rfl) ?_
  refine gf11_395 F hx1 hr dX11_makeOwnAdvert_1 (fun y1 ey1 => ?_)
  replace h := zl_sub ey1 h
  have hy1 := zal_g hr hx1 (j := 10) rfl ey1
  clear ey1
  refine zr_astore_n (lv' := [(2, va_rf (Option.map (B 9) y1)), (0, .ref (B 11 x0)), (1, .ref (B 1 x1))]) F.1 F.2.1 dX11_makeOwnAdvert_4 rfl hl (by decide) rfl (fun ls hl => ?_)
  refine zr_aload_n F.1 F.2.1 dX11_makeOwnAdvert_5 rfl (lv_at hl 0 rfl) ?_
  obtain ⟨a2, rfl, h⟩ := zd_some h
  refine gf11_399 F (hy1 _ rfl) hr dX11_makeOwnAdvert_6 (fun y3 ey3 => ?_)
  replace h := zl_sub ey3 h
  have hy3 := zal_g hr (hy1 _ rfl) (j := 12) rfl ey3
  clear ey3
  refine zr_astore_n (lv' := [(3, va_rf (Option.map (B 0) y3)), (2, .ref (B 9 a2)), (0, .ref (B 11 x0)), (1, .ref (B 1 x1))]) F.1 F.2.1 dX11_makeOwnAdvert_9 rfl hl (by decide) rfl (fun ls hl => ?_)
  refine zr_aload_n F.1 F.2.1 dX11_makeOwnAdvert_10 rfl (lv_at hl 0 rfl) ?_
  obtain ⟨a4, rfl, h⟩ := zd_some h
  refine gf11_426 F (hy3 _ rfl) hr dX11_makeOwnAdvert_11 ?_
  refine lv_aload_n F.1 F.2.1 dX11_makeOwnAdvert_14 rfl (lv_at hl 3 rfl) ?_
  refine gf11_484 F hx1 hr dX11_makeOwnAdvert_15 ?_
  obtain ⟨c5, h⟩ := zk_some h
  refine zr_iald (k := 100) (by decide) rfl (by decide) F (zal_a F (hy3 _ rfl) (j := 1) rfl) hr dX11_makeOwnAdvert_18 c5 ?_
  refine lv_topi (fun v6 ev6 => ?_)
  replace h := zl_sub ev6 h
  refine lv_istore (lv' := [(4, .int v6), (3, .ref (B 0 a4)), (2, .ref (B 9 a2)), (0, .ref (B 11 x0)), (1, .ref (B 1 x1))]) F.1 F.2.1 dX11_makeOwnAdvert_19 hl (by decide) rfl (fun ls hl => ?_)
  refine lv_iload F.1 F.2.1 dX11_makeOwnAdvert_21 (lv_at hl 0 rfl) ?_
  refine lv_if_eq (tgt := 41) F.1 F.2.1 dX11_makeOwnAdvert_23 (by decide) (fun c7 => ?_) (fun c7 => ?_)
  · replace h := zi_t c7 h
    exact bX11_makeOwnAdvert_41 hst F hA E  x0 x1 a2 a4 v6 hx0 hx1 (hy1 _ rfl) (hy3 _ rfl) hr (lv_sub hl [3, 4, 2, 1, 0] rfl) h
  · replace h := zi_f c7 h
    refine lv_aload_n F.1 F.2.1 dX11_makeOwnAdvert_26 rfl (lv_at hl 3 rfl) ?_
    refine gf11_176 F hx0 hr dX11_makeOwnAdvert_27 ?_
    refine lv_aload_n F.1 F.2.1 dX11_makeOwnAdvert_30 rfl (lv_at hl 1 rfl) ?_
    refine gf11_772 F (hy3 _ rfl) hr dX11_makeOwnAdvert_31 ?_
    refine lv_bipush (v := (10)) F.1 F.2.1 dX11_makeOwnAdvert_34 (by decide) ?_
    refine lv_iadd F.1 F.2.1 dX11_makeOwnAdvert_36 ?_
    refine lv_icmp_ge (tgt := 41) F.1 F.2.1 dX11_makeOwnAdvert_37 (by decide) (fun c8 => ?_) (fun c8 => ?_)
    · replace h := zi_t c8 h
      exact bX11_makeOwnAdvert_41 hst F hA E  x0 x1 a2 a4 v6 hx0 hx1 (hy1 _ rfl) (hy3 _ rfl) hr (lv_sub hl [3, 4, 2, 1, 0] rfl) h
    · replace h := zi_f c8 h
      obtain ⟨rfl, rfl⟩ := zret h
      exact E _ _ _ _ dX11_makeOwnAdvert_40 trivial hr
end SX11_makeOwnAdvert
set_option maxRecDepth 100000 in
theorem okX11_makeOwnAdvert (l : Launch) (D : va_G) (cy : Nat → ClassId) (B : Nat → Nat → Nat) (ids : List (Nat × Nat)) (hst : zSt B ids) (N : Nat) (x0 : Nat) (hx0 : (11, x0) ∈ ids) (x1 : Nat) (hx1 : (1, x1) ∈ ids) {z : St} {r : Int32} {z' : St} (hW : zWf ids z) (h : fX11_makeOwnAdvert N x0 x1 z = some (r, z')) : zM l yX11_makeOwnAdvert (zws yX11_makeOwnAdvert cX11_makeOwnAdvert 6 none) rmX11_makeOwnAdvert D cy B ids [.ref (B 11 x0), .ref (B 1 x1)] none True z z' :=
  zM_of hst hW (by decide +kernel) (Nat.le_of_ble_eq_true rfl) (fun p e s m args below meth c A ls F hA hret hlocks hr hl => bX11_makeOwnAdvert_0 hst F hA (zEnd_v F hret hlocks) x0 x1 hx0 hx1 hr hl h)
abbrev rmX11_addressToFriend : Room := { frames := 1, cells := 0, slots := 0, locals := 22 }
theorem hdX11_addressToFriend : yX11_addressToFriend.cls ≠ "java/lang/invoke/MethodHandle" ∧ yX11_addressToFriend.cls ≠ "java/lang/invoke/VarHandle" ∧ (parseMethodDescriptor yX11_addressToFriend.desc).map (fun d => d.parameters.length) = some 2 := by decide +kernel
theorem hroX11_addressToFriend_X1_nextNumber : rmX1_nextNumber.frames + 1 ≤ rmX11_addressToFriend.frames ∧ 8 + (1 + 11) + rmX1_nextNumber.locals ≤ rmX11_addressToFriend.locals := by decide
theorem hroX11_addressToFriend_X1_portOn : rmX1_portOn.frames + 1 ≤ rmX11_addressToFriend.frames ∧ 8 + (3 + 11) + rmX1_portOn.locals ≤ rmX11_addressToFriend.locals := by decide
section SX11_addressToFriend
variable {p : Program} {l : Launch} {e : Env} {s : State} {m : MethodId} {args : Array Value} {below : List Frame} {meth : Method} {c : Code} {Q : State → Prop} {D : va_G} {cy : Nat → ClassId} {B : Nat → Nat → Nat} {ids : List (Nat × Nat)} {A : Nat → Prop}
def fX11_addressToFriend (N : Nat)  (x0 : Nat) (x1 : Nat) (x2 : Int32) (z : St) : Option (Option Nat × St) := zk (x2 / (16)) 6 <| zl (zgQ z 112 x1 (x2 / (16)).toNatClampNeg) fun y2 => zk (x2 - x2 / (16) * (16)) 16 <| zl (zgQ z 140 x0 (x2 - x2 / (16) * (16)).toNatClampNeg) fun y4 => zd y2 fun a5 => zl (zgR z 8 1 a5) fun y6 => zd y6 fun a7 => zd y4 fun a8 => zc (fX1_portOn N a8 (zgI z 5 0 a7) z) fun r9 z10 => zo r9 (some (none, z10)) fun a14 => zl (zgR z10 11 13 x0) fun y15 => zd y15 fun a16 => zl (zsI z10 7 0 a16 (zgI z10 8 4 a5)) fun z17 => zl (zgR z17 11 13 x0) fun y18 => zd y18 fun a19 => zl (zsI z17 7 1 a19 (zgI z17 8 4 a14)) fun z20 => zl (zgR z20 11 13 x0) fun y21 => zc (fX1_nextNumber N x1 z20) fun r22 z23 => zd y21 fun a26 => zl (zsI z23 7 3 a26 r22) fun z27 => some ((some a14), z27)
set_option maxHeartbeats 4000000 in
set_option maxRecDepth 100000 in
theorem bX11_addressToFriend_0 (hst : zSt B ids) (F : zFx p m c cX11_addressToFriend 5 s args RX11 D cy B ids A) (hA : ∀ q : Nat, s.heap.size ≤ q → A q) {r : Option Nat} {z' : St} (E : zEnd p l e rmX11_addressToFriend s m args below meth c cX11_addressToFriend D cy B ids A Q (some (va_rf (r.map (B 8)))) z' .areturn (∀ i, r = some i → (8, i) ∈ ids)) {N : Nat}  (x0 : Nat) (x1 : Nat) (x2 : Int32) (hx0 : (11, x0) ∈ ids) (hx1 : (1, x1) ∈ ids) {z : St} {H : Heap} {locs : List Loc} {ls : Array Slot} (hr : zRep D cy B ids A s.heap z H locs) (hl : lv_has ls 5 [(0, .ref (B 11 x0)), (1, .ref (B 1 x1)), (2, .int x2)]) (h : fX11_addressToFriend N x0 x1 x2 z = some (r, z')) : W p l e rmX11_addressToFriend s m args below meth c H locs 0 0 Q (F0 m 0 ls []) := by
  unfold fX11_addressToFriend at h
  refine lv_aload_n F.1 F.2.1 dX11_addressToFriend_0 rfl (lv_at hl 1 rfl) ?_
  refine gf11_134 F hx1 hr dX11_addressToFriend_1 ?_
  refine lv_iload_n F.1 F.2.1 dX11_addressToFriend_4 rfl (lv_at hl 2 rfl) ?_
  refine lv_bipush (v := (16)) F.1 F.2.1 dX11_addressToFriend_5 (by decide) ?_
  refine lv_idiv F.1 F.2.1 dX11_addressToFriend_7 (by decide) ?_
  obtain ⟨c1, h⟩ := zk_some h
  refine zr_aaldv (k := 112) (by decide) rfl rfl (zlen_d (by decide)) F (zal_a F hx1 (j := 2) rfl) hr dX11_addressToFriend_8 c1 (fun y2 ey2 => ?_)
  replace h := zl_sub ey2 h
  have hy2 := zal_q hr (zal_a F hx1 (j := 2) rfl) rfl ey2
  clear ey2
  refine zr_astore_n (lv' := [(3, va_rf (Option.map (B 8) y2)), (0, .ref (B 11 x0)), (1, .ref (B 1 x1)), (2, .int x2)]) F.1 F.2.1 dX11_addressToFriend_9 rfl hl (by decide) rfl (fun ls hl => ?_)
  refine lv_aload_n F.1 F.2.1 dX11_addressToFriend_10 rfl (lv_at hl 1 rfl) ?_
  refine gf11_17 F hx0 hr dX11_addressToFriend_11 ?_
  refine lv_iload_n F.1 F.2.1 dX11_addressToFriend_14 rfl (lv_at hl 3 rfl) ?_
  refine lv_bipush (v := (16)) F.1 F.2.1 dX11_addressToFriend_15 (by decide) ?_
  refine lv_irem F.1 F.2.1 dX11_addressToFriend_17 (by decide) ?_
  obtain ⟨c3, h⟩ := zk_some h
  refine zr_aaldv (k := 140) (by decide) rfl rfl (zlen_d (by decide)) F (zal_a F hx0 (j := 2) rfl) hr dX11_addressToFriend_18 c3 (fun y4 ey4 => ?_)
  replace h := zl_sub ey4 h
  have hy4 := zal_q hr (zal_a F hx0 (j := 2) rfl) rfl ey4
  clear ey4
  refine zr_aload_n F.1 F.2.1 dX11_addressToFriend_19 rfl (lv_at hl 0 rfl) ?_
  obtain ⟨a5, rfl, h⟩ := zd_some h
  refine gf11_261 F (hy2 _ rfl) hr dX11_addressToFriend_20 (fun y6 ey6 => ?_)
  replace h := zl_sub ey6 h
  have hy6 := zal_g hr (hy2 _ rfl) (j := 1) rfl ey6
  clear ey6
  obtain ⟨a7, rfl, h⟩ := zd_some h
  refine gf11_478 F (hy6 _ rfl) hr dX11_addressToFriend_23 ?_
  obtain ⟨a8, rfl, h⟩ := zd_some h
  obtain ⟨r9, z10, hc11, h⟩ := zc_some h
  refine zr_callr (zrun_VN (As := [.int (zgI z 5 0 a7)]) (rest := []) zn_293 zq_295 zs_X1_portOn zq_297 zq_9 hdX1_portOn (by decide) (T := TX1) (N := 13) rfl (okX1_portOn l D cy B ids hst N a8 (hy4 _ rfl) (zgI z 5 0 a7)  hr.2.2 hc11) F hr (hy4 _ rfl) hl.1 rfl (by decide) dX11_addressToFriend_26 rfl rfl hroX11_addressToFriend_X1_portOn ⟨Nat.zero_le _, Nat.zero_le _⟩) F hA hr (fun H locs hx12 hr => ?_)
  clear hc11
  refine zr_astore (lv' := [(4, va_rf (Option.map (B 8) r9)), (3, .ref (B 8 a5)), (0, .ref (B 11 x0)), (1, .ref (B 1 x1)), (2, .int x2)]) F.1 F.2.1 dX11_addressToFriend_29 hl (by decide) rfl (fun ls hl => ?_)
  refine zr_aload F.1 F.2.1 dX11_addressToFriend_31 (lv_at hl 0 rfl) ?_
  refine zr_ifnonnull (tgt := 38) F.1 F.2.1 dX11_addressToFriend_33 (by decide) (fun e13 => ?_) (fun a14 e13 => ?_)
  · replace h := zo_n e13 h
    subst e13
    refine lv_null F.1 F.2.1 dX11_addressToFriend_36 ?_
    obtain ⟨rfl, rfl⟩ := zret h
    exact E _ _ _ _ dX11_addressToFriend_37 zal_0 hr
  · replace h := zo_s e13 h
    subst e13
    refine lv_aload_n F.1 F.2.1 dX11_addressToFriend_38 rfl (lv_at hl 2 rfl) ?_
    refine gf11_31 F hx0 hr dX11_addressToFriend_39 (fun y15 ey15 => ?_)
    replace h := zl_sub ey15 h
    have hy15 := zal_g hr hx0 (j := 13) rfl ey15
    clear ey15
    refine lv_aload_n F.1 F.2.1 dX11_addressToFriend_42 rfl (lv_at hl 1 rfl) ?_
    refine gf11_141 F (hy2 _ rfl) hr dX11_addressToFriend_43 ?_
    obtain ⟨a16, rfl, h⟩ := zd_some h
    refine pf11_535 F (hy15 _ rfl) hr dX11_addressToFriend_46 (zgI z10 8 4 a5) (fun H locs z17 ez17 hr => ?_)
    replace h := zl_sub ez17 h
    clear ez17
    refine lv_aload_n F.1 F.2.1 dX11_addressToFriend_49 rfl (lv_at hl 2 rfl) ?_
    refine gf11_31 F hx0 hr dX11_addressToFriend_50 (fun y18 ey18 => ?_)
    replace h := zl_sub ey18 h
    have hy18 := zal_g hr hx0 (j := 13) rfl ey18
    clear ey18
    refine lv_aload F.1 F.2.1 dX11_addressToFriend_53 (lv_at hl 0 rfl) ?_
    refine gf11_141 F (hx12 _ rfl) hr dX11_addressToFriend_55 ?_
    obtain ⟨a19, rfl, h⟩ := zd_some h
    refine pf11_538 F (hy18 _ rfl) hr dX11_addressToFriend_58 (zgI z17 8 4 a14) (fun H locs z20 ez20 hr => ?_)
    replace h := zl_sub ez20 h
    clear ez20
    refine lv_aload_n F.1 F.2.1 dX11_addressToFriend_61 rfl (lv_at hl 2 rfl) ?_
    refine gf11_31 F hx0 hr dX11_addressToFriend_62 (fun y21 ey21 => ?_)
    replace h := zl_sub ey21 h
    have hy21 := zal_g hr hx0 (j := 13) rfl ey21
    clear ey21
    refine lv_aload_n F.1 F.2.1 dX11_addressToFriend_65 rfl (lv_at hl 3 rfl) ?_
    obtain ⟨r22, z23, hc24, h⟩ := zc_some h
    refine zr_calli (zrun_VN (As := []) (rest := [va_rf (Option.map (B 7) y21)]) zn_1309 zq_1311 zs_X1_nextNumber zq_1312 zq_9 hdX1_nextNumber (by decide) (T := TX1) (N := 13) rfl (okX1_nextNumber l D cy B ids hst N x1 hx1 hr.2.2 hc24) F hr hx1 hl.1 rfl (by simp only [List.map, zrf_cat]; decide) dX11_addressToFriend_66 rfl rfl hroX11_addressToFriend_X1_nextNumber ⟨Nat.zero_le _, Nat.zero_le _⟩) F hA hr (fun H locs hx25 hr => ?_)
    clear hc24
    obtain ⟨a26, rfl, h⟩ := zd_some h
    refine pf11_691 F (hy21 _ rfl) hr dX11_addressToFriend_69 r22 (fun H locs z27 ez27 hr => ?_)
    replace h := zl_sub ez27 h
    clear ez27
    refine lv_aload F.1 F.2.1 dX11_addressToFriend_72 (lv_at hl 0 rfl) ?_
    obtain ⟨rfl, rfl⟩ := zret h
    exact E _ _ _ _ dX11_addressToFriend_74 (zal_s (hx12 _ rfl)) hr
end SX11_addressToFriend
set_option maxRecDepth 100000 in
theorem okX11_addressToFriend (l : Launch) (D : va_G) (cy : Nat → ClassId) (B : Nat → Nat → Nat) (ids : List (Nat × Nat)) (hst : zSt B ids) (N : Nat) (x0 : Nat) (hx0 : (11, x0) ∈ ids) (x1 : Nat) (hx1 : (1, x1) ∈ ids) (x2 : Int32) {z : St} {r : Option Nat} {z' : St} (hW : zWf ids z) (h : fX11_addressToFriend N x0 x1 x2 z = some (r, z')) : zM l yX11_addressToFriend (zws yX11_addressToFriend cX11_addressToFriend 5 (some (.object "WholeInternet$Port"))) rmX11_addressToFriend D cy B ids [.ref (B 11 x0), .ref (B 1 x1), .int x2] (some (va_rf (r.map (B 8)))) (∀ i, r = some i → (8, i) ∈ ids) z z' :=
  zM_of hst hW (by decide +kernel) (Nat.le_of_ble_eq_true rfl) (fun p e s m args below meth c A ls F hA hret hlocks hr hl => bX11_addressToFriend_0 hst F hA (zEnd_r F hret hlocks) x0 x1 x2 hx0 hx1 hr hl h)
abbrev rmX11_sendDue : Room := { frames := 5, cells := 0, slots := 0, locals := 164 }
theorem hdX11_sendDue : yX11_sendDue.cls ≠ "java/lang/invoke/MethodHandle" ∧ yX11_sendDue.cls ≠ "java/lang/invoke/VarHandle" ∧ (parseMethodDescriptor yX11_sendDue.desc).map (fun d => d.parameters.length) = some 1 := by decide +kernel
theorem hroX11_sendDue_X0_putAdvert : rmX0_putAdvert.frames + 1 ≤ rmX11_sendDue.frames ∧ 8 + (5 + 11) + rmX0_putAdvert.locals ≤ rmX11_sendDue.locals := by decide
theorem hroX11_sendDue_X11_addressToFriend : rmX11_addressToFriend.frames + 1 ≤ rmX11_sendDue.frames ∧ 8 + (5 + 11) + rmX11_addressToFriend.locals ≤ rmX11_sendDue.locals := by decide
theorem hroX11_sendDue_X11_hand : rmX11_hand.frames + 1 ≤ rmX11_sendDue.frames ∧ 8 + (5 + 11) + rmX11_hand.locals ≤ rmX11_sendDue.locals := by decide
theorem hroX11_sendDue_X9_setDue : rmX9_setDue.frames + 1 ≤ rmX11_sendDue.frames ∧ 8 + (4 + 11) + rmX9_setDue.locals ≤ rmX11_sendDue.locals := by decide
section SX11_sendDue
variable {p : Program} {l : Launch} {e : Env} {s : State} {m : MethodId} {args : Array Value} {below : List Frame} {meth : Method} {c : Code} {Q : State → Prop} {D : va_G} {cy : Nat → ClassId} {B : Nat → Nat → Nat} {ids : List (Nat × Nat)} {A : Nat → Prop}
def fX11_sendDue_7b (N : Nat) (K7 : Nat → Nat → Option Nat → Int32 → St → Option (Int32 × St)) (K26 : Nat → Nat → Nat → Int32 → Int32 → Int32 → St → Option (Int32 × St)) (x0 : Nat) (x1 : Nat) (x2 : Option Nat) (x3 : Int32) (z : St) : Option (Int32 × St) := zd x2 fun a1 => if (zgI z 9 1 a1) ≤ x3 then (some (0, z)) else (zk x3 16 <| zl (zgA z 131 a1 x3.toNatClampNeg) fun v4 => K26 x0 x1 a1 x3 v4 (0) z)
def fX11_sendDue_7 (N : Nat) (K26 : Nat → Nat → Nat → Int32 → Int32 → Int32 → St → Option (Int32 × St)) : Nat → Nat → Nat → Option Nat → Int32 → St → Option (Int32 × St)
  | 0 => fun _ _ _ _ _ => none
  | n + 1 => fX11_sendDue_7b N (fX11_sendDue_7 N K26 n) K26
set_option maxHeartbeats 4000000 in
set_option maxRecDepth 100000 in
theorem bX11_sendDue_7 (hst : zSt B ids) (F : zFx p m c cX11_sendDue 8 s args RX11 D cy B ids A) (hA : ∀ q : Nat, s.heap.size ≤ q → A q) {r : Int32} {z' : St} (E : zEnd p l e rmX11_sendDue s m args below meth c cX11_sendDue D cy B ids A Q none z' .return_ True) {N : Nat} {K7 : Nat → Nat → Option Nat → Int32 → St → Option (Int32 × St)} {K26 : Nat → Nat → Nat → Int32 → Int32 → Int32 → St → Option (Int32 × St)} (hK7 : ∀ (x0 : Nat) (x1 : Nat) (x2 : Option Nat) (x3 : Int32) (hx0 : (11, x0) ∈ ids) (hx1 : (1, x1) ∈ ids) (hx2 : ∀ t, x2 = some t → (9, t) ∈ ids) {z : St} {H : Heap} {locs : List Loc} {ls : Array Slot} (hr : zRep D cy B ids A s.heap z H locs) (hl : lv_has ls 8 [(0, .ref (B 11 x0)), (1, .ref (B 1 x1)), (2, va_rf (Option.map (B 9) x2)), (3, .int x3)]), K7 x0 x1 x2 x3 z = some (r, z') → W p l e rmX11_sendDue s m args below meth c H locs 0 0 Q (F0 m 7 ls [])) (hK26 : ∀ (x0 : Nat) (x1 : Nat) (x2 : Nat) (x3 : Int32) (x4 : Int32) (x5 : Int32) (hx0 : (11, x0) ∈ ids) (hx1 : (1, x1) ∈ ids) (hx2 : (9, x2) ∈ ids) {z : St} {H : Heap} {locs : List Loc} {ls : Array Slot} (hr : zRep D cy B ids A s.heap z H locs) (hl : lv_has ls 8 [(0, .ref (B 11 x0)), (1, .ref (B 1 x1)), (2, .ref (B 9 x2)), (3, .int x3), (4, .int x4), (5, .int x5)]), K26 x0 x1 x2 x3 x4 x5 z = some (r, z') → W p l e rmX11_sendDue s m args below meth c H locs 0 0 Q (F0 m 26 ls [])) (x0 : Nat) (x1 : Nat) (x2 : Option Nat) (x3 : Int32) (hx0 : (11, x0) ∈ ids) (hx1 : (1, x1) ∈ ids) (hx2 : ∀ t, x2 = some t → (9, t) ∈ ids) {z : St} {H : Heap} {locs : List Loc} {ls : Array Slot} (hr : zRep D cy B ids A s.heap z H locs) (hl : lv_has ls 8 [(0, .ref (B 11 x0)), (1, .ref (B 1 x1)), (2, va_rf (Option.map (B 9) x2)), (3, .int x3)]) (h : fX11_sendDue_7b N K7 K26 x0 x1 x2 x3 z = some (r, z')) : W p l e rmX11_sendDue s m args below meth c H locs 0 0 Q (F0 m 7 ls []) := by
  unfold fX11_sendDue_7b at h
  refine lv_iload_n F.1 F.2.1 dX11_sendDue_7 rfl (lv_at hl 3 rfl) ?_
  refine zr_aload_n F.1 F.2.1 dX11_sendDue_8 rfl (lv_at hl 2 rfl) ?_
  obtain ⟨a1, rfl, h⟩ := zd_some h
  refine gf11_762 F (hx2 _ rfl) hr dX11_sendDue_9 ?_
  refine lv_icmp_ge (tgt := 139) F.1 F.2.1 dX11_sendDue_12 (by decide) (fun c2 => ?_) (fun c2 => ?_)
  · replace h := zi_t c2 h
    obtain ⟨rfl, rfl⟩ := zret h
    exact E _ _ _ _ dX11_sendDue_139 trivial hr
  · replace h := zi_f c2 h
    refine lv_aload_n F.1 F.2.1 dX11_sendDue_15 rfl (lv_at hl 2 rfl) ?_
    refine gf11_765 F (hx2 _ rfl) hr dX11_sendDue_16 ?_
    refine lv_iload_n F.1 F.2.1 dX11_sendDue_19 rfl (lv_at hl 3 rfl) ?_
    obtain ⟨c3, h⟩ := zk_some h
    refine zr_iald (k := 131) (by decide) rfl (by decide) F (zal_a F (hx2 _ rfl) (j := 0) rfl) hr dX11_sendDue_20 c3 ?_
    refine lv_topi (fun v4 ev4 => ?_)
    replace h := zl_sub ev4 h
    refine lv_istore (lv' := [(4, .int v4), (0, .ref (B 11 x0)), (1, .ref (B 1 x1)), (2, .ref (B 9 a1)), (3, .int x3)]) F.1 F.2.1 dX11_sendDue_21 hl (by decide) rfl (fun ls hl => ?_)
    refine lv_iconst (v := (0)) F.1 F.2.1 dX11_sendDue_23 (by decide) ?_
    refine lv_istore (lv' := [(5, .int (0)), (4, .int v4), (0, .ref (B 11 x0)), (1, .ref (B 1 x1)), (2, .ref (B 9 a1)), (3, .int x3)]) F.1 F.2.1 dX11_sendDue_24 hl (by decide) rfl (fun ls hl => ?_)
    exact hK26 x0 x1 a1 x3 v4 (0) hx0 hx1 (hx2 _ rfl) hr (lv_sub hl [2, 3, 4, 5, 1, 0] rfl) h
theorem lX11_sendDue_7 (hst : zSt B ids) (F : zFx p m c cX11_sendDue 8 s args RX11 D cy B ids A) (hA : ∀ q : Nat, s.heap.size ≤ q → A q) {r : Int32} {z' : St} (E : zEnd p l e rmX11_sendDue s m args below meth c cX11_sendDue D cy B ids A Q none z' .return_ True) {N : Nat} {K26 : Nat → Nat → Nat → Int32 → Int32 → Int32 → St → Option (Int32 × St)} (hK26 : ∀ (x0 : Nat) (x1 : Nat) (x2 : Nat) (x3 : Int32) (x4 : Int32) (x5 : Int32) (hx0 : (11, x0) ∈ ids) (hx1 : (1, x1) ∈ ids) (hx2 : (9, x2) ∈ ids) {z : St} {H : Heap} {locs : List Loc} {ls : Array Slot} (hr : zRep D cy B ids A s.heap z H locs) (hl : lv_has ls 8 [(0, .ref (B 11 x0)), (1, .ref (B 1 x1)), (2, .ref (B 9 x2)), (3, .int x3), (4, .int x4), (5, .int x5)]), K26 x0 x1 x2 x3 x4 x5 z = some (r, z') → W p l e rmX11_sendDue s m args below meth c H locs 0 0 Q (F0 m 26 ls [])) : ∀ (n : Nat) (x0 : Nat) (x1 : Nat) (x2 : Option Nat) (x3 : Int32) (hx0 : (11, x0) ∈ ids) (hx1 : (1, x1) ∈ ids) (hx2 : ∀ t, x2 = some t → (9, t) ∈ ids) {z : St} {H : Heap} {locs : List Loc} {ls : Array Slot} (hr : zRep D cy B ids A s.heap z H locs) (hl : lv_has ls 8 [(0, .ref (B 11 x0)), (1, .ref (B 1 x1)), (2, va_rf (Option.map (B 9) x2)), (3, .int x3)]), fX11_sendDue_7 N K26 n x0 x1 x2 x3 z = some (r, z') → W p l e rmX11_sendDue s m args below meth c H locs 0 0 Q (F0 m 7 ls []) := by
  intro n
  induction n with
  | zero => intro x0 x1 x2 x3 hx0 hx1 hx2 z H locs ls hr hl h; cases h
  | succ n ih => intro x0 x1 x2 x3 hx0 hx1 hx2 z H locs ls hr hl h; exact bX11_sendDue_7 hst F hA E ih hK26 x0 x1 x2 x3 hx0 hx1 hx2 hr hl h
def fX11_sendDue (N : Nat) (K26 : Nat → Nat → Nat → Int32 → Int32 → Int32 → St → Option (Int32 × St)) (x0 : Nat) (x1 : Nat) (z : St) : Option (Int32 × St) := zl (zgR z 1 10 x1) fun y1 => fX11_sendDue_7 N K26 N x0 x1 y1 (0) z
set_option maxHeartbeats 4000000 in
set_option maxRecDepth 100000 in
theorem bX11_sendDue_0 (hst : zSt B ids) (F : zFx p m c cX11_sendDue 8 s args RX11 D cy B ids A) (hA : ∀ q : Nat, s.heap.size ≤ q → A q) {r : Int32} {z' : St} (E : zEnd p l e rmX11_sendDue s m args below meth c cX11_sendDue D cy B ids A Q none z' .return_ True) {N : Nat} {K26 : Nat → Nat → Nat → Int32 → Int32 → Int32 → St → Option (Int32 × St)} (hK26 : ∀ (x0 : Nat) (x1 : Nat) (x2 : Nat) (x3 : Int32) (x4 : Int32) (x5 : Int32) (hx0 : (11, x0) ∈ ids) (hx1 : (1, x1) ∈ ids) (hx2 : (9, x2) ∈ ids) {z : St} {H : Heap} {locs : List Loc} {ls : Array Slot} (hr : zRep D cy B ids A s.heap z H locs) (hl : lv_has ls 8 [(0, .ref (B 11 x0)), (1, .ref (B 1 x1)), (2, .ref (B 9 x2)), (3, .int x3), (4, .int x4), (5, .int x5)]), K26 x0 x1 x2 x3 x4 x5 z = some (r, z') → W p l e rmX11_sendDue s m args below meth c H locs 0 0 Q (F0 m 26 ls [])) (x0 : Nat) (x1 : Nat) (hx0 : (11, x0) ∈ ids) (hx1 : (1, x1) ∈ ids) {z : St} {H : Heap} {locs : List Loc} {ls : Array Slot} (hr : zRep D cy B ids A s.heap z H locs) (hl : lv_has ls 8 [(0, .ref (B 11 x0)), (1, .ref (B 1 x1))]) (h : fX11_sendDue N K26 x0 x1 z = some (r, z')) : W p l e rmX11_sendDue s m args below meth c H locs 0 0 Q (F0 m 0 ls []) := by
  unfold fX11_sendDue at h
  refine lv_aload_n F.1 F.2.1 dX11_sendDue_0 rfl (lv_at hl 1 rfl) ?_
  refine gf11_395 F hx1 hr dX11_sendDue_1 (fun y1 ey1 => ?_)
  replace h := zl_sub ey1 h
  have hy1 := zal_g hr hx1 (j := 10) rfl ey1
  clear ey1
  refine zr_astore_n (lv' := [(2, va_rf (Option.map (B 9) y1)), (0, .ref (B 11 x0)), (1, .ref (B 1 x1))]) F.1 F.2.1 dX11_sendDue_4 rfl hl (by decide) rfl (fun ls hl => ?_)
  refine lv_iconst (v := (0)) F.1 F.2.1 dX11_sendDue_5 (by decide) ?_
  refine lv_istore_n (lv' := [(3, .int (0)), (2, va_rf (Option.map (B 9) y1)), (0, .ref (B 11 x0)), (1, .ref (B 1 x1))]) F.1 F.2.1 dX11_sendDue_6 rfl hl (by decide) (by simp only [List.filter, zrf_cat]; rfl) (fun ls hl => ?_)
  exact lX11_sendDue_7 hst F hA E hK26 _ x0 x1 y1 (0) hx0 hx1 hy1 hr (lv_sub hl [2, 3, 1, 0] rfl) h
end SX11_sendDue
set_option maxRecDepth 100000 in
theorem okX11_sendDue (l : Launch) (D : va_G) (cy : Nat → ClassId) (B : Nat → Nat → Nat) (ids : List (Nat × Nat)) (hst : zSt B ids) (N : Nat) (x0 : Nat) (hx0 : (11, x0) ∈ ids) (x1 : Nat) (hx1 : (1, x1) ∈ ids) {z : St} {r : Int32} {z' : St} (hW : zWf ids z) (h : fX11_sendDue N x0 x1 z = some (r, z')) : zM l yX11_sendDue (zws yX11_sendDue cX11_sendDue 8 none) rmX11_sendDue D cy B ids [.ref (B 11 x0), .ref (B 1 x1)] none True z z' :=
  zM_of hst hW (by decide +kernel) (Nat.le_of_ble_eq_true rfl) (fun p e s m args below meth c A ls F hA hret hlocks hr hl => bX11_sendDue_0 hst F hA (zEnd_v F hret hlocks) x0 x1 hx0 hx1 hr hl h)
abbrev rmX11_sendGreetings : Room := { frames := 4, cells := 0, slots := 0, locals := 140 }
theorem hdX11_sendGreetings : yX11_sendGreetings.cls ≠ "java/lang/invoke/MethodHandle" ∧ yX11_sendGreetings.cls ≠ "java/lang/invoke/VarHandle" ∧ (parseMethodDescriptor yX11_sendGreetings.desc).map (fun d => d.parameters.length) = some 1 := by decide +kernel
theorem hroX11_sendGreetings_X11_putOn : rmX11_putOn.frames + 1 ≤ rmX11_sendGreetings.frames ∧ 8 + (7 + 11) + rmX11_putOn.locals ≤ rmX11_sendGreetings.locals := by decide
theorem hroX11_sendGreetings_X1_nextNumber : rmX1_nextNumber.frames + 1 ≤ rmX11_sendGreetings.frames ∧ 8 + (1 + 11) + rmX1_nextNumber.locals ≤ rmX11_sendGreetings.locals := by decide
theorem hroX11_sendGreetings_X7_begin : rmX7_begin.frames + 1 ≤ rmX11_sendGreetings.frames ∧ 8 + (3 + 11) + rmX7_begin.locals ≤ rmX11_sendGreetings.locals := by decide
theorem hroX11_sendGreetings_X7_put2 : rmX7_put2.frames + 1 ≤ rmX11_sendGreetings.frames ∧ 8 + (3 + 11) + rmX7_put2.locals ≤ rmX11_sendGreetings.locals := by decide
theorem hroX11_sendGreetings_X7_setLength : rmX7_setLength.frames + 1 ≤ rmX11_sendGreetings.frames ∧ 8 + (2 + 11) + rmX7_setLength.locals ≤ rmX11_sendGreetings.locals := by decide
section SX11_sendGreetings
variable {p : Program} {l : Launch} {e : Env} {s : State} {m : MethodId} {args : Array Value} {below : List Frame} {meth : Method} {c : Code} {Q : State → Prop} {D : va_G} {cy : Nat → ClassId} {B : Nat → Nat → Nat} {ids : List (Nat × Nat)} {A : Nat → Prop}
def fX11_sendGreetings_194 (N : Nat) (K7 : Nat → Nat → Option Nat → Int32 → St → Option (Int32 × St)) (K53 : Nat → Nat → Option Nat → Int32 → Nat → Int32 → Int32 → St → Option (Int32 × St)) (x0 : Nat) (x1 : Nat) (x2 : Option Nat) (x3 : Int32) (z : St) : Option (Int32 × St) := zl (x3 + 1) fun v1 => K7 x0 x1 x2 v1 z
set_option maxHeartbeats 4000000 in
set_option maxRecDepth 100000 in
theorem bX11_sendGreetings_194 (hst : zSt B ids) (F : zFx p m c cX11_sendGreetings 7 s args RX11 D cy B ids A) (hA : ∀ q : Nat, s.heap.size ≤ q → A q) {r : Int32} {z' : St} (E : zEnd p l e rmX11_sendGreetings s m args below meth c cX11_sendGreetings D cy B ids A Q none z' .return_ True) {N : Nat} {K7 : Nat → Nat → Option Nat → Int32 → St → Option (Int32 × St)} {K53 : Nat → Nat → Option Nat → Int32 → Nat → Int32 → Int32 → St → Option (Int32 × St)} (hK7 : ∀ (x0 : Nat) (x1 : Nat) (x2 : Option Nat) (x3 : Int32) (hx0 : (11, x0) ∈ ids) (hx1 : (1, x1) ∈ ids) (hx2 : ∀ t, x2 = some t → (9, t) ∈ ids) {z : St} {H : Heap} {locs : List Loc} {ls : Array Slot} (hr : zRep D cy B ids A s.heap z H locs) (hl : lv_has ls 7 [(0, .ref (B 11 x0)), (1, .ref (B 1 x1)), (2, va_rf (Option.map (B 9) x2)), (3, .int x3)]), K7 x0 x1 x2 x3 z = some (r, z') → W p l e rmX11_sendGreetings s m args below meth c H locs 0 0 Q (F0 m 7 ls [])) (hK53 : ∀ (x0 : Nat) (x1 : Nat) (x2 : Option Nat) (x3 : Int32) (x4 : Nat) (x5 : Int32) (x6 : Int32) (hx0 : (11, x0) ∈ ids) (hx1 : (1, x1) ∈ ids) (hx2 : ∀ t, x2 = some t → (9, t) ∈ ids) (hx4 : (8, x4) ∈ ids) {z : St} {H : Heap} {locs : List Loc} {ls : Array Slot} (hr : zRep D cy B ids A s.heap z H locs) (hl : lv_has ls 7 [(0, .ref (B 11 x0)), (1, .ref (B 1 x1)), (2, va_rf (Option.map (B 9) x2)), (3, .int x3), (4, .ref (B 8 x4)), (5, .int x5), (6, .int x6)]), K53 x0 x1 x2 x3 x4 x5 x6 z = some (r, z') → W p l e rmX11_sendGreetings s m args below meth c H locs 0 0 Q (F0 m 53 ls [])) (x0 : Nat) (x1 : Nat) (x2 : Option Nat) (x3 : Int32) (hx0 : (11, x0) ∈ ids) (hx1 : (1, x1) ∈ ids) (hx2 : ∀ t, x2 = some t → (9, t) ∈ ids) {z : St} {H : Heap} {locs : List Loc} {ls : Array Slot} (hr : zRep D cy B ids A s.heap z H locs) (hl : lv_has ls 7 [(0, .ref (B 11 x0)), (1, .ref (B 1 x1)), (2, va_rf (Option.map (B 9) x2)), (3, .int x3)]) (h : fX11_sendGreetings_194 N K7 K53 x0 x1 x2 x3 z = some (r, z')) : W p l e rmX11_sendGreetings s m args below meth c H locs 0 0 Q (F0 m 194 ls []) := by
  unfold fX11_sendGreetings_194 at h
  obtain ⟨v1, ev1⟩ : ∃ y : Int32, y = (x3 + 1) := ⟨_, rfl⟩
  replace h := zl_sub ev1 h
  refine lv_iinc (v := v1) (lv' := [(3, .int v1), (0, .ref (B 11 x0)), (1, .ref (B 1 x1)), (2, va_rf (Option.map (B 9) x2))]) F.1 F.2.1 dX11_sendGreetings_194 hl (k := 3) rfl (by rw [ev1]; rfl) (by decide) (by simp only [List.filter, zrf_cat]; rfl) (fun ls hl => ?_)
  refine lv_goto (tgt := 7) F.1 F.2.1 dX11_sendGreetings_197 (by decide) ?_
  exact hK7 x0 x1 x2 v1 hx0 hx1 hx2 hr (lv_sub hl [1, 2, 3, 0] rfl) h
def fX11_sendGreetings_7b (N : Nat) (K7 : Nat → Nat → Option Nat → Int32 → St → Option (Int32 × St)) (K53 : Nat → Nat → Option Nat → Int32 → Nat → Int32 → Int32 → St → Option (Int32 × St)) (x0 : Nat) (x1 : Nat) (x2 : Option Nat) (x3 : Int32) (z : St) : Option (Int32 × St) := if (zgI z 1 3 x1) ≤ x3 then (some (0, z)) else (zk x3 6 <| zl (zgQ z 112 x1 x3.toNatClampNeg) fun y3 => zd y3 fun a4 => zl (zgR z 8 1 a4) fun y5 => zd y5 fun a6 => if ¬ (zgI z 5 3 a6) = 0 then (zl (zgR z 11 13 x0) fun y8 => zd y8 fun a9 => zc (fX7_begin N a9 (2) (8) z) fun _ z11 => K53 x0 x1 x2 x3 a4 (0) (0) z11) else (fX11_sendGreetings_194 N K7 K53 x0 x1 x2 x3 z))
def fX11_sendGreetings_7 (N : Nat) (K53 : Nat → Nat → Option Nat → Int32 → Nat → Int32 → Int32 → St → Option (Int32 × St)) : Nat → Nat → Nat → Option Nat → Int32 → St → Option (Int32 × St)
  | 0 => fun _ _ _ _ _ => none
  | n + 1 => fX11_sendGreetings_7b N (fX11_sendGreetings_7 N K53 n) K53
set_option maxHeartbeats 4000000 in
set_option maxRecDepth 100000 in
theorem bX11_sendGreetings_7 (hst : zSt B ids) (F : zFx p m c cX11_sendGreetings 7 s args RX11 D cy B ids A) (hA : ∀ q : Nat, s.heap.size ≤ q → A q) {r : Int32} {z' : St} (E : zEnd p l e rmX11_sendGreetings s m args below meth c cX11_sendGreetings D cy B ids A Q none z' .return_ True) {N : Nat} {K7 : Nat → Nat → Option Nat → Int32 → St → Option (Int32 × St)} {K53 : Nat → Nat → Option Nat → Int32 → Nat → Int32 → Int32 → St → Option (Int32 × St)} (hK7 : ∀ (x0 : Nat) (x1 : Nat) (x2 : Option Nat) (x3 : Int32) (hx0 : (11, x0) ∈ ids) (hx1 : (1, x1) ∈ ids) (hx2 : ∀ t, x2 = some t → (9, t) ∈ ids) {z : St} {H : Heap} {locs : List Loc} {ls : Array Slot} (hr : zRep D cy B ids A s.heap z H locs) (hl : lv_has ls 7 [(0, .ref (B 11 x0)), (1, .ref (B 1 x1)), (2, va_rf (Option.map (B 9) x2)), (3, .int x3)]), K7 x0 x1 x2 x3 z = some (r, z') → W p l e rmX11_sendGreetings s m args below meth c H locs 0 0 Q (F0 m 7 ls [])) (hK53 : ∀ (x0 : Nat) (x1 : Nat) (x2 : Option Nat) (x3 : Int32) (x4 : Nat) (x5 : Int32) (x6 : Int32) (hx0 : (11, x0) ∈ ids) (hx1 : (1, x1) ∈ ids) (hx2 : ∀ t, x2 = some t → (9, t) ∈ ids) (hx4 : (8, x4) ∈ ids) {z : St} {H : Heap} {locs : List Loc} {ls : Array Slot} (hr : zRep D cy B ids A s.heap z H locs) (hl : lv_has ls 7 [(0, .ref (B 11 x0)), (1, .ref (B 1 x1)), (2, va_rf (Option.map (B 9) x2)), (3, .int x3), (4, .ref (B 8 x4)), (5, .int x5), (6, .int x6)]), K53 x0 x1 x2 x3 x4 x5 x6 z = some (r, z') → W p l e rmX11_sendGreetings s m args below meth c H locs 0 0 Q (F0 m 53 ls [])) (x0 : Nat) (x1 : Nat) (x2 : Option Nat) (x3 : Int32) (hx0 : (11, x0) ∈ ids) (hx1 : (1, x1) ∈ ids) (hx2 : ∀ t, x2 = some t → (9, t) ∈ ids) {z : St} {H : Heap} {locs : List Loc} {ls : Array Slot} (hr : zRep D cy B ids A s.heap z H locs) (hl : lv_has ls 7 [(0, .ref (B 11 x0)), (1, .ref (B 1 x1)), (2, va_rf (Option.map (B 9) x2)), (3, .int x3)]) (h : fX11_sendGreetings_7b N K7 K53 x0 x1 x2 x3 z = some (r, z')) : W p l e rmX11_sendGreetings s m args below meth c H locs 0 0 Q (F0 m 7 ls []) := by
  unfold fX11_sendGreetings_7b at h
  refine lv_iload_n F.1 F.2.1 dX11_sendGreetings_7 rfl (lv_at hl 3 rfl) ?_
  refine lv_aload_n F.1 F.2.1 dX11_sendGreetings_8 rfl (lv_at hl 1 rfl) ?_
  refine gf11_113 F hx1 hr dX11_sendGreetings_9 ?_
  refine lv_icmp_ge (tgt := 200) F.1 F.2.1 dX11_sendGreetings_12 (by decide) (fun c1 => ?_) (fun c1 => ?_)
  · replace h := zi_t c1 h
    obtain ⟨rfl, rfl⟩ := zret h
    exact E _ _ _ _ dX11_sendGreetings_200 trivial hr
  · replace h := zi_f c1 h
    refine lv_aload_n F.1 F.2.1 dX11_sendGreetings_15 rfl (lv_at hl 1 rfl) ?_
    refine gf11_134 F hx1 hr dX11_sendGreetings_16 ?_
    refine lv_iload_n F.1 F.2.1 dX11_sendGreetings_19 rfl (lv_at hl 3 rfl) ?_
    obtain ⟨c2, h⟩ := zk_some h
    refine zr_aaldv (k := 112) (by decide) rfl rfl (zlen_d (by decide)) F (zal_a F hx1 (j := 2) rfl) hr dX11_sendGreetings_20 c2 (fun y3 ey3 => ?_)
    replace h := zl_sub ey3 h
    have hy3 := zal_q hr (zal_a F hx1 (j := 2) rfl) rfl ey3
    clear ey3
    refine zr_astore (lv' := [(4, va_rf (Option.map (B 8) y3)), (0, .ref (B 11 x0)), (1, .ref (B 1 x1)), (2, va_rf (Option.map (B 9) x2)), (3, .int x3)]) F.1 F.2.1 dX11_sendGreetings_21 hl (by decide) rfl (fun ls hl => ?_)
    refine zr_aload F.1 F.2.1 dX11_sendGreetings_23 (lv_at hl 0 rfl) ?_
    obtain ⟨a4, rfl, h⟩ := zd_some h
    refine gf11_261 F (hy3 _ rfl) hr dX11_sendGreetings_25 (fun y5 ey5 => ?_)
    replace h := zl_sub ey5 h
    have hy5 := zal_g hr (hy3 _ rfl) (j := 1) rfl ey5
    clear ey5
    obtain ⟨a6, rfl, h⟩ := zd_some h
    refine gf11_158 F (hy5 _ rfl) hr dX11_sendGreetings_28 ?_
    refine lv_if_ne (tgt := 37) F.1 F.2.1 dX11_sendGreetings_31 (by decide) (fun c7 => ?_) (fun c7 => ?_)
    · replace h := zi_t c7 h
      refine lv_aload_n F.1 F.2.1 dX11_sendGreetings_37 rfl (lv_at hl 1 rfl) ?_
      refine gf11_31 F hx0 hr dX11_sendGreetings_38 (fun y8 ey8 => ?_)
      replace h := zl_sub ey8 h
      have hy8 := zal_g hr hx0 (j := 13) rfl ey8
      clear ey8
      refine lv_iconst (v := (2)) F.1 F.2.1 dX11_sendGreetings_41 (by decide) ?_
      refine lv_bipush (v := (8)) F.1 F.2.1 dX11_sendGreetings_42 (by decide) ?_
      obtain ⟨a9, rfl, h⟩ := zd_some h
      obtain ⟨r10, z11, hc12, h⟩ := zc_some h
      refine zr_callv (zrun_VN (As := [.int (2), .int (8)]) (rest := []) zn_1086 zq_1088 zs_X7_begin zq_1089 zq_2 hdX7_begin (by decide) (T := TX7) (N := 20) rfl (okX7_begin l D cy B ids hst N a9 (hy8 _ rfl) (2)  (8)  hr.2.2 hc12) F hr (hy8 _ rfl) hl.1 rfl (by decide) dX11_sendGreetings_44 rfl rfl hroX11_sendGreetings_X7_begin ⟨Nat.zero_le _, Nat.zero_le _⟩) F hA hr (fun H locs hx13 hr => ?_)
      clear hc12
      refine lv_iconst (v := (0)) F.1 F.2.1 dX11_sendGreetings_47 (by decide) ?_
      refine lv_istore (lv' := [(5, .int (0)), (4, .ref (B 8 a4)), (0, .ref (B 11 x0)), (1, .ref (B 1 x1)), (2, va_rf (Option.map (B 9) x2)), (3, .int x3)]) F.1 F.2.1 dX11_sendGreetings_48 hl (by decide) rfl (fun ls hl => ?_)
      refine lv_iconst (v := (0)) F.1 F.2.1 dX11_sendGreetings_50 (by decide) ?_
      refine lv_istore (lv' := [(6, .int (0)), (5, .int (0)), (4, .ref (B 8 a4)), (0, .ref (B 11 x0)), (1, .ref (B 1 x1)), (2, va_rf (Option.map (B 9) x2)), (3, .int x3)]) F.1 F.2.1 dX11_sendGreetings_51 hl (by decide) rfl (fun ls hl => ?_)
      exact hK53 x0 x1 x2 x3 a4 (0) (0) hx0 hx1 hx2 (hy3 _ rfl) hr (lv_sub hl [3, 4, 5, 6, 2, 1, 0] rfl) h
    · replace h := zi_f (fun q => q c7) h
      refine lv_goto (tgt := 194) F.1 F.2.1 dX11_sendGreetings_34 (by decide) ?_
      exact bX11_sendGreetings_194 hst F hA E hK7 hK53 x0 x1 x2 x3 hx0 hx1 hx2 hr (lv_sub hl [1, 2, 3, 4] rfl) h
theorem lX11_sendGreetings_7 (hst : zSt B ids) (F : zFx p m c cX11_sendGreetings 7 s args RX11 D cy B ids A) (hA : ∀ q : Nat, s.heap.size ≤ q → A q) {r : Int32} {z' : St} (E : zEnd p l e rmX11_sendGreetings s m args below meth c cX11_sendGreetings D cy B ids A Q none z' .return_ True) {N : Nat} {K53 : Nat → Nat → Option Nat → Int32 → Nat → Int32 → Int32 → St → Option (Int32 × St)} (hK53 : ∀ (x0 : Nat) (x1 : Nat) (x2 : Option Nat) (x3 : Int32) (x4 : Nat) (x5 : Int32) (x6 : Int32) (hx0 : (11, x0) ∈ ids) (hx1 : (1, x1) ∈ ids) (hx2 : ∀ t, x2 = some t → (9, t) ∈ ids) (hx4 : (8, x4) ∈ ids) {z : St} {H : Heap} {locs : List Loc} {ls : Array Slot} (hr : zRep D cy B ids A s.heap z H locs) (hl : lv_has ls 7 [(0, .ref (B 11 x0)), (1, .ref (B 1 x1)), (2, va_rf (Option.map (B 9) x2)), (3, .int x3), (4, .ref (B 8 x4)), (5, .int x5), (6, .int x6)]), K53 x0 x1 x2 x3 x4 x5 x6 z = some (r, z') → W p l e rmX11_sendGreetings s m args below meth c H locs 0 0 Q (F0 m 53 ls [])) : ∀ (n : Nat) (x0 : Nat) (x1 : Nat) (x2 : Option Nat) (x3 : Int32) (hx0 : (11, x0) ∈ ids) (hx1 : (1, x1) ∈ ids) (hx2 : ∀ t, x2 = some t → (9, t) ∈ ids) {z : St} {H : Heap} {locs : List Loc} {ls : Array Slot} (hr : zRep D cy B ids A s.heap z H locs) (hl : lv_has ls 7 [(0, .ref (B 11 x0)), (1, .ref (B 1 x1)), (2, va_rf (Option.map (B 9) x2)), (3, .int x3)]), fX11_sendGreetings_7 N K53 n x0 x1 x2 x3 z = some (r, z') → W p l e rmX11_sendGreetings s m args below meth c H locs 0 0 Q (F0 m 7 ls []) := by
  intro n
  induction n with
  | zero => intro x0 x1 x2 x3 hx0 hx1 hx2 z H locs ls hr hl h; cases h
  | succ n ih => intro x0 x1 x2 x3 hx0 hx1 hx2 z H locs ls hr hl h; exact bX11_sendGreetings_7 hst F hA E ih hK53 x0 x1 x2 x3 hx0 hx1 hx2 hr hl h
def fX11_sendGreetings (N : Nat) (K53 : Nat → Nat → Option Nat → Int32 → Nat → Int32 → Int32 → St → Option (Int32 × St)) (x0 : Nat) (x1 : Nat) (z : St) : Option (Int32 × St) := zl (zgR z 1 10 x1) fun y1 => fX11_sendGreetings_7 N K53 N x0 x1 y1 (0) z
set_option maxHeartbeats 4000000 in
set_option maxRecDepth 100000 in
theorem bX11_sendGreetings_0 (hst : zSt B ids) (F : zFx p m c cX11_sendGreetings 7 s args RX11 D cy B ids A) (hA : ∀ q : Nat, s.heap.size ≤ q → A q) {r : Int32} {z' : St} (E : zEnd p l e rmX11_sendGreetings s m args below meth c cX11_sendGreetings D cy B ids A Q none z' .return_ True) {N : Nat} {K53 : Nat → Nat → Option Nat → Int32 → Nat → Int32 → Int32 → St → Option (Int32 × St)} (hK53 : ∀ (x0 : Nat) (x1 : Nat) (x2 : Option Nat) (x3 : Int32) (x4 : Nat) (x5 : Int32) (x6 : Int32) (hx0 : (11, x0) ∈ ids) (hx1 : (1, x1) ∈ ids) (hx2 : ∀ t, x2 = some t → (9, t) ∈ ids) (hx4 : (8, x4) ∈ ids) {z : St} {H : Heap} {locs : List Loc} {ls : Array Slot} (hr : zRep D cy B ids A s.heap z H locs) (hl : lv_has ls 7 [(0, .ref (B 11 x0)), (1, .ref (B 1 x1)), (2, va_rf (Option.map (B 9) x2)), (3, .int x3), (4, .ref (B 8 x4)), (5, .int x5), (6, .int x6)]), K53 x0 x1 x2 x3 x4 x5 x6 z = some (r, z') → W p l e rmX11_sendGreetings s m args below meth c H locs 0 0 Q (F0 m 53 ls [])) (x0 : Nat) (x1 : Nat) (hx0 : (11, x0) ∈ ids) (hx1 : (1, x1) ∈ ids) {z : St} {H : Heap} {locs : List Loc} {ls : Array Slot} (hr : zRep D cy B ids A s.heap z H locs) (hl : lv_has ls 7 [(0, .ref (B 11 x0)), (1, .ref (B 1 x1))]) (h : fX11_sendGreetings N K53 x0 x1 z = some (r, z')) : W p l e rmX11_sendGreetings s m args below meth c H locs 0 0 Q (F0 m 0 ls []) := by
  unfold fX11_sendGreetings at h
  refine lv_aload_n F.1 F.2.1 dX11_sendGreetings_0 rfl (lv_at hl 1 rfl) ?_
  refine gf11_395 F hx1 hr dX11_sendGreetings_1 (fun y1 ey1 => ?_)
  replace h := zl_sub ey1 h
  have hy1 := zal_g hr hx1 (j := 10) rfl ey1
  clear ey1
  refine zr_astore_n (lv' := [(2, va_rf (Option.map (B 9) y1)), (0, .ref (B 11 x0)), (1, .ref (B 1 x1))]) F.1 F.2.1 dX11_sendGreetings_4 rfl hl (by decide) rfl (fun ls hl => ?_)
  refine lv_iconst (v := (0)) F.1 F.2.1 dX11_sendGreetings_5 (by decide) ?_
  refine lv_istore_n (lv' := [(3, .int (0)), (2, va_rf (Option.map (B 9) y1)), (0, .ref (B 11 x0)), (1, .ref (B 1 x1))]) F.1 F.2.1 dX11_sendGreetings_6 rfl hl (by decide) (by simp only [List.filter, zrf_cat]; rfl) (fun ls hl => ?_)
  exact lX11_sendGreetings_7 hst F hA E hK53 _ x0 x1 y1 (0) hx0 hx1 hy1 hr (lv_sub hl [2, 3, 1, 0] rfl) h
end SX11_sendGreetings
set_option maxRecDepth 100000 in
theorem okX11_sendGreetings (l : Launch) (D : va_G) (cy : Nat → ClassId) (B : Nat → Nat → Nat) (ids : List (Nat × Nat)) (hst : zSt B ids) (N : Nat) (x0 : Nat) (hx0 : (11, x0) ∈ ids) (x1 : Nat) (hx1 : (1, x1) ∈ ids) {z : St} {r : Int32} {z' : St} (hW : zWf ids z) (h : fX11_sendGreetings N x0 x1 z = some (r, z')) : zM l yX11_sendGreetings (zws yX11_sendGreetings cX11_sendGreetings 7 none) rmX11_sendGreetings D cy B ids [.ref (B 11 x0), .ref (B 1 x1)] none True z z' :=
  zM_of hst hW (by decide +kernel) (Nat.le_of_ble_eq_true rfl) (fun p e s m args below meth c A ls F hA hret hlocks hr hl => bX11_sendGreetings_0 hst F hA (zEnd_v F hret hlocks) x0 x1 hx0 hx1 hr hl h)
abbrev rmX11_sendThanks : Room := { frames := 5, cells := 0, slots := 0, locals := 164 }
theorem hdX11_sendThanks : yX11_sendThanks.cls ≠ "java/lang/invoke/MethodHandle" ∧ yX11_sendThanks.cls ≠ "java/lang/invoke/VarHandle" ∧ (parseMethodDescriptor yX11_sendThanks.desc).map (fun d => d.parameters.length) = some 1 := by decide +kernel
theorem hroX11_sendThanks_X11_addressToFriend : rmX11_addressToFriend.frames + 1 ≤ rmX11_sendThanks.frames ∧ 8 + (5 + 11) + rmX11_addressToFriend.locals ≤ rmX11_sendThanks.locals := by decide
theorem hroX11_sendThanks_X11_hand : rmX11_hand.frames + 1 ≤ rmX11_sendThanks.frames ∧ 8 + (5 + 11) + rmX11_hand.locals ≤ rmX11_sendThanks.locals := by decide
theorem hroX11_sendThanks_X7_begin : rmX7_begin.frames + 1 ≤ rmX11_sendThanks.frames ∧ 8 + (3 + 11) + rmX7_begin.locals ≤ rmX11_sendThanks.locals := by decide
theorem hroX11_sendThanks_X7_put2 : rmX7_put2.frames + 1 ≤ rmX11_sendThanks.frames ∧ 8 + (3 + 11) + rmX7_put2.locals ≤ rmX11_sendThanks.locals := by decide
theorem hroX11_sendThanks_X7_put4 : rmX7_put4.frames + 1 ≤ rmX11_sendThanks.frames ∧ 8 + (4 + 11) + rmX7_put4.locals ≤ rmX11_sendThanks.locals := by decide
section SX11_sendThanks
variable {p : Program} {l : Launch} {e : Env} {s : State} {m : MethodId} {args : Array Value} {below : List Frame} {meth : Method} {c : Code} {Q : State → Prop} {D : va_G} {cy : Nat → ClassId} {B : Nat → Nat → Nat} {ids : List (Nat × Nat)} {A : Nat → Prop}
def fX11_sendThanks_98 (N : Nat) (K7 : Nat → Nat → Option Nat → Int32 → St → Option (Int32 × St)) (x0 : Nat) (x1 : Nat) (x2 : Nat) (x3 : Int32) (z : St) : Option (Int32 × St) := zl (x3 + 1) fun v1 => K7 x0 x1 (some x2) v1 z
set_option maxHeartbeats 4000000 in
set_option maxRecDepth 100000 in
theorem bX11_sendThanks_98 (hst : zSt B ids) (F : zFx p m c cX11_sendThanks 5 s args RX11 D cy B ids A) (hA : ∀ q : Nat, s.heap.size ≤ q → A q) {r : Int32} {z' : St} (E : zEnd p l e rmX11_sendThanks s m args below meth c cX11_sendThanks D cy B ids A Q none z' .return_ True) {N : Nat} {K7 : Nat → Nat → Option Nat → Int32 → St → Option (Int32 × St)} (hK7 : ∀ (x0 : Nat) (x1 : Nat) (x2 : Option Nat) (x3 : Int32) (hx0 : (11, x0) ∈ ids) (hx1 : (1, x1) ∈ ids) (hx2 : ∀ t, x2 = some t → (9, t) ∈ ids) {z : St} {H : Heap} {locs : List Loc} {ls : Array Slot} (hr : zRep D cy B ids A s.heap z H locs) (hl : lv_has ls 5 [(0, .ref (B 11 x0)), (1, .ref (B 1 x1)), (2, va_rf (Option.map (B 9) x2)), (3, .int x3)]), K7 x0 x1 x2 x3 z = some (r, z') → W p l e rmX11_sendThanks s m args below meth c H locs 0 0 Q (F0 m 7 ls [])) (x0 : Nat) (x1 : Nat) (x2 : Nat) (x3 : Int32) (hx0 : (11, x0) ∈ ids) (hx1 : (1, x1) ∈ ids) (hx2 : (9, x2) ∈ ids) {z : St} {H : Heap} {locs : List Loc} {ls : Array Slot} (hr : zRep D cy B ids A s.heap z H locs) (hl : lv_has ls 5 [(0, .ref (B 11 x0)), (1, .ref (B 1 x1)), (2, .ref (B 9 x2)), (3, .int x3)]) (h : fX11_sendThanks_98 N K7 x0 x1 x2 x3 z = some (r, z')) : W p l e rmX11_sendThanks s m args below meth c H locs 0 0 Q (F0 m 98 ls []) := by
  unfold fX11_sendThanks_98 at h
  obtain ⟨v1, ev1⟩ : ∃ y : Int32, y = (x3 + 1) := ⟨_, rfl⟩
  replace h := zl_sub ev1 h
  refine lv_iinc (v := v1) (lv' := [(3, .int v1), (0, .ref (B 11 x0)), (1, .ref (B 1 x1)), (2, .ref (B 9 x2))]) F.1 F.2.1 dX11_sendThanks_98 hl (k := 3) rfl (by rw [ev1]; rfl) (by decide) rfl (fun ls hl => ?_)
  refine lv_goto (tgt := 7) F.1 F.2.1 dX11_sendThanks_101 (by decide) ?_
  exact hK7 x0 x1 (some x2) v1 hx0 hx1 (zal_s hx2) hr (lv_sub hl [1, 2, 3, 0] rfl) h
def fX11_sendThanks_7b (N : Nat) (K7 : Nat → Nat → Option Nat → Int32 → St → Option (Int32 × St)) (x0 : Nat) (x1 : Nat) (x2 : Option Nat) (x3 : Int32) (z : St) : Option (Int32 × St) := zd x2 fun a1 => if (zgI z 9 9 a1) ≤ x3 then (zl (zsI z 9 9 a1 (0)) fun z3 => some (0, z3)) else (zl (zgR z 11 13 x0) fun y4 => zd y4 fun a5 => zc (fX7_begin N a5 (4) (8) z) fun _ z7 => zl (zgR z7 11 13 x0) fun y10 => zk x3 64 <| zd y10 fun a12 => zc (fX7_put2 N a12 (0) (zgA z7 137 a1 x3.toNatClampNeg) z7) fun _ z14 => zl (zgR z14 11 13 x0) fun y17 => zk x3 64 <| zd y17 fun a19 => zc (fX7_put4 N a19 (2) (zgA z14 138 a1 x3.toNatClampNeg) z14) fun _ z21 => zk x3 64 <| zc (fX11_addressToFriend N x0 x1 (zgA z21 136 a1 x3.toNatClampNeg) z21) fun r25 z26 => zo r25 (fX11_sendThanks_98 N K7 x0 x1 a1 x3 z26) fun a30 => zk x3 64 <| zk ((zgA z26 136 a1 x3.toNatClampNeg) / (16)) 6 <| zl (zgQ z26 112 x1 ((zgA z26 136 a1 x3.toNatClampNeg) / (16)).toNatClampNeg) fun y33 => zl (zgR z26 11 13 x0) fun y34 => zd y33 fun a35 => zd y34 fun a36 => zc (fX11_hand N x0 a35 (zgI z26 8 3 a30) a36 z26) fun _ z38 => fX11_sendThanks_98 N K7 x0 x1 a1 x3 z38)
def fX11_sendThanks_7 (N : Nat)  : Nat → Nat → Nat → Option Nat → Int32 → St → Option (Int32 × St)
  | 0 => fun _ _ _ _ _ => none
  | n + 1 => fX11_sendThanks_7b N (fX11_sendThanks_7 N  n)
set_option maxHeartbeats 4000000 in
set_option maxRecDepth 100000 in
theorem bX11_sendThanks_7 (hst : zSt B ids) (F : zFx p m c cX11_sendThanks 5 s args RX11 D cy B ids A) (hA : ∀ q : Nat, s.heap.size ≤ q → A q) {r : Int32} {z' : St} (E : zEnd p l e rmX11_sendThanks s m args below meth c cX11_sendThanks D cy B ids A Q none z' .return_ True) {N : Nat} {K7 : Nat → Nat → Option Nat → Int32 → St → Option (Int32 × St)} (hK7 : ∀ (x0 : Nat) (x1 : Nat) (x2 : Option Nat) (x3 : Int32) (hx0 : (11, x0) ∈ ids) (hx1 : (1, x1) ∈ ids) (hx2 : ∀ t, x2 = some t → (9, t) ∈ ids) {z : St} {H : Heap} {locs : List Loc} {ls : Array Slot} (hr : zRep D cy B ids A s.heap z H locs) (hl : lv_has ls 5 [(0, .ref (B 11 x0)), (1, .ref (B 1 x1)), (2, va_rf (Option.map (B 9) x2)), (3, .int x3)]), K7 x0 x1 x2 x3 z = some (r, z') → W p l e rmX11_sendThanks s m args below meth c H locs 0 0 Q (F0 m 7 ls [])) (x0 : Nat) (x1 : Nat) (x2 : Option Nat) (x3 : Int32) (hx0 : (11, x0) ∈ ids) (hx1 : (1, x1) ∈ ids) (hx2 : ∀ t, x2 = some t → (9, t) ∈ ids) {z : St} {H : Heap} {locs : List Loc} {ls : Array Slot} (hr : zRep D cy B ids A s.heap z H locs) (hl : lv_has ls 5 [(0, .ref (B 11 x0)), (1, .ref (B 1 x1)), (2, va_rf (Option.map (B 9) x2)), (3, .int x3)]) (h : fX11_sendThanks_7b N K7 x0 x1 x2 x3 z = some (r, z')) : W p l e rmX11_sendThanks s m args below meth c H locs 0 0 Q (F0 m 7 ls []) := by
  unfold fX11_sendThanks_7b at h
  refine lv_iload_n F.1 F.2.1 dX11_sendThanks_7 rfl (lv_at hl 3 rfl) ?_
  refine zr_aload_n F.1 F.2.1 dX11_sendThanks_8 rfl (lv_at hl 2 rfl) ?_
  obtain ⟨a1, rfl, h⟩ := zd_some h
  refine gf11_747 F (hx2 _ rfl) hr dX11_sendThanks_9 ?_
  refine lv_icmp_ge (tgt := 104) F.1 F.2.1 dX11_sendThanks_12 (by decide) (fun c2 => ?_) (fun c2 => ?_)
  · replace h := zi_t c2 h
    refine lv_aload_n F.1 F.2.1 dX11_sendThanks_104 rfl (lv_at hl 2 rfl) ?_
    refine lv_iconst (v := (0)) F.1 F.2.1 dX11_sendThanks_105 (by decide) ?_
    refine pf11_747 F (hx2 _ rfl) hr dX11_sendThanks_106 (0) (fun H locs z3 ez3 hr => ?_)
    replace h := zl_sub ez3 h
    clear ez3
    obtain ⟨rfl, rfl⟩ := zret h
    exact E _ _ _ _ dX11_sendThanks_109 trivial hr
  · replace h := zi_f c2 h
    refine lv_aload_n F.1 F.2.1 dX11_sendThanks_15 rfl (lv_at hl 0 rfl) ?_
    refine gf11_31 F hx0 hr dX11_sendThanks_16 (fun y4 ey4 => ?_)
    replace h := zl_sub ey4 h
    have hy4 := zal_g hr hx0 (j := 13) rfl ey4
    clear ey4
    refine lv_iconst (v := (4)) F.1 F.2.1 dX11_sendThanks_19 (by decide) ?_
    refine lv_bipush (v := (8)) F.1 F.2.1 dX11_sendThanks_20 (by decide) ?_
    obtain ⟨a5, rfl, h⟩ := zd_some h
    obtain ⟨r6, z7, hc8, h⟩ := zc_some h
    refine zr_callv (zrun_VN (As := [.int (4), .int (8)]) (rest := []) zn_1086 zq_1088 zs_X7_begin zq_1089 zq_2 hdX7_begin (by decide) (T := TX7) (N := 20) rfl (okX7_begin l D cy B ids hst N a5 (hy4 _ rfl) (4)  (8)  hr.2.2 hc8) F hr (hy4 _ rfl) hl.1 rfl (by decide) dX11_sendThanks_22 rfl rfl hroX11_sendThanks_X7_begin ⟨Nat.zero_le _, Nat.zero_le _⟩) F hA hr (fun H locs hx9 hr => ?_)
    clear hc8
    refine lv_aload_n F.1 F.2.1 dX11_sendThanks_25 rfl (lv_at hl 0 rfl) ?_
    refine gf11_31 F hx0 hr dX11_sendThanks_26 (fun y10 ey10 => ?_)
    replace h := zl_sub ey10 h
    have hy10 := zal_g hr hx0 (j := 13) rfl ey10
    clear ey10
    refine lv_iconst (v := (0)) F.1 F.2.1 dX11_sendThanks_29 (by decide) ?_
    refine lv_aload_n F.1 F.2.1 dX11_sendThanks_30 rfl (lv_at hl 2 rfl) ?_
    refine gf11_793 F (hx2 _ rfl) hr dX11_sendThanks_31 ?_
    refine lv_iload_n F.1 F.2.1 dX11_sendThanks_34 rfl (lv_at hl 3 rfl) ?_
    obtain ⟨c11, h⟩ := zk_some h
    refine zr_iald (k := 137) (by decide) rfl (by decide) F (zal_a F (hx2 _ rfl) (j := 7) rfl) hr dX11_sendThanks_35 c11 ?_
    obtain ⟨a12, rfl, h⟩ := zd_some h
    obtain ⟨r13, z14, hc15, h⟩ := zc_some h
    refine zr_callv (zrun_VN (As := [.int (0), .int (zgA z7 137 a1 x3.toNatClampNeg)]) (rest := []) zn_1308 zq_1306 zs_X7_put2 zq_1307 zq_2 hdX7_put2 (by decide) (T := TX7) (N := 20) rfl (okX7_put2 l D cy B ids hst N a12 (hy10 _ rfl) (0)  (zgA z7 137 a1 x3.toNatClampNeg)  hr.2.2 hc15) F hr (hy10 _ rfl) hl.1 rfl (by decide) dX11_sendThanks_36 rfl rfl hroX11_sendThanks_X7_put2 ⟨Nat.zero_le _, Nat.zero_le _⟩) F hA hr (fun H locs hx16 hr => ?_)
    clear hc15
    refine lv_aload_n F.1 F.2.1 dX11_sendThanks_39 rfl (lv_at hl 0 rfl) ?_
    refine gf11_31 F hx0 hr dX11_sendThanks_40 (fun y17 ey17 => ?_)
    replace h := zl_sub ey17 h
    have hy17 := zal_g hr hx0 (j := 13) rfl ey17
    clear ey17
    refine lv_iconst (v := (2)) F.1 F.2.1 dX11_sendThanks_43 (by decide) ?_
    refine lv_aload_n F.1 F.2.1 dX11_sendThanks_44 rfl (lv_at hl 2 rfl) ?_
    refine gf11_796 F (hx2 _ rfl) hr dX11_sendThanks_45 ?_
    refine lv_iload_n F.1 F.2.1 dX11_sendThanks_48 rfl (lv_at hl 3 rfl) ?_
    obtain ⟨c18, h⟩ := zk_some h
    refine zr_iald (k := 138) (by decide) rfl (by decide) F (zal_a F (hx2 _ rfl) (j := 8) rfl) hr dX11_sendThanks_49 c18 ?_
    obtain ⟨a19, rfl, h⟩ := zd_some h
    obtain ⟨r20, z21, hc22, h⟩ := zc_some h
    refine zr_callv (zrun_VN (As := [.int (2), .int (zgA z14 138 a1 x3.toNatClampNeg)]) (rest := []) zn_1426 zq_1302 zs_X7_put4 zq_1303 zq_2 hdX7_put4 (by decide) (T := TX7) (N := 20) rfl (okX7_put4 l D cy B ids hst N a19 (hy17 _ rfl) (2)  (zgA z14 138 a1 x3.toNatClampNeg)  hr.2.2 hc22) F hr (hy17 _ rfl) hl.1 rfl (by decide) dX11_sendThanks_50 rfl rfl hroX11_sendThanks_X7_put4 ⟨Nat.zero_le _, Nat.zero_le _⟩) F hA hr (fun H locs hx23 hr => ?_)
    clear hc22
    refine lv_aload_n F.1 F.2.1 dX11_sendThanks_53 rfl (lv_at hl 0 rfl) ?_
    refine lv_aload_n F.1 F.2.1 dX11_sendThanks_54 rfl (lv_at hl 1 rfl) ?_
    refine lv_aload_n F.1 F.2.1 dX11_sendThanks_55 rfl (lv_at hl 2 rfl) ?_
    refine gf11_799 F (hx2 _ rfl) hr dX11_sendThanks_56 ?_
    refine lv_iload_n F.1 F.2.1 dX11_sendThanks_59 rfl (lv_at hl 3 rfl) ?_
    obtain ⟨c24, h⟩ := zk_some h
    refine zr_iald (k := 136) (by decide) rfl (by decide) F (zal_a F (hx2 _ rfl) (j := 6) rfl) hr dX11_sendThanks_60 c24 ?_
    obtain ⟨r25, z26, hc27, h⟩ := zc_some h
    refine zr_callr (zrun_V (As := [.ref (B 1 x1), .int (zgA z21 136 a1 x3.toNatClampNeg)]) (rest := []) zq_1533 zq_1535 zs_X11_addressToFriend zq_1536 zq_1 hdX11_addressToFriend (by decide) (T := TX11) (N := 21) rfl (okX11_addressToFriend l D cy B ids hst N x0 hx0 x1 hx1 (zgA z21 136 a1 x3.toNatClampNeg)  hr.2.2 hc27) F hr hx0 hl.1 rfl (by decide) dX11_sendThanks_61 rfl rfl hroX11_sendThanks_X11_addressToFriend ⟨Nat.zero_le _, Nat.zero_le _⟩) F hA hr (fun H locs hx28 hr => ?_)
    clear hc27
    refine zr_astore (lv' := [(4, va_rf (Option.map (B 8) r25)), (0, .ref (B 11 x0)), (1, .ref (B 1 x1)), (2, .ref (B 9 a1)), (3, .int x3)]) F.1 F.2.1 dX11_sendThanks_64 hl (by decide) rfl (fun ls hl => ?_)
    refine zr_aload F.1 F.2.1 dX11_sendThanks_66 (lv_at hl 0 rfl) ?_
    refine zr_ifnull (tgt := 98) F.1 F.2.1 dX11_sendThanks_68 (by decide) (fun e29 => ?_) (fun a30 e29 => ?_)
    · replace h := zo_n e29 h
      subst e29
      exact bX11_sendThanks_98 hst F hA E hK7 x0 x1 a1 x3 hx0 hx1 (hx2 _ rfl) hr (lv_sub hl [1, 2, 3, 4] rfl) h
    · replace h := zo_s e29 h
      subst e29
      refine lv_aload_n F.1 F.2.1 dX11_sendThanks_71 rfl (lv_at hl 1 rfl) ?_
      refine lv_aload_n F.1 F.2.1 dX11_sendThanks_72 rfl (lv_at hl 2 rfl) ?_
      refine gf11_134 F hx1 hr dX11_sendThanks_73 ?_
      refine lv_aload_n F.1 F.2.1 dX11_sendThanks_76 rfl (lv_at hl 3 rfl) ?_
      refine gf11_799 F (hx2 _ rfl) hr dX11_sendThanks_77 ?_
      refine lv_iload_n F.1 F.2.1 dX11_sendThanks_80 rfl (lv_at hl 4 rfl) ?_
      obtain ⟨c31, h⟩ := zk_some h
      refine zr_iald (k := 136) (by decide) rfl (by decide) F (zal_a F (hx2 _ rfl) (j := 6) rfl) hr dX11_sendThanks_81 c31 ?_
      refine lv_bipush (v := (16)) F.1 F.2.1 dX11_sendThanks_82 (by decide) ?_
      refine lv_idiv F.1 F.2.1 dX11_sendThanks_84 (by decide) ?_
      obtain ⟨c32, h⟩ := zk_some h
      refine zr_aaldv (k := 112) (by decide) rfl rfl (zlen_d (by decide)) F (zal_a F hx1 (j := 2) rfl) hr dX11_sendThanks_85 c32 (fun y33 ey33 => ?_)
      replace h := zl_sub ey33 h
      have hy33 := zal_q hr (zal_a F hx1 (j := 2) rfl) rfl ey33
      clear ey33
      refine lv_aload F.1 F.2.1 dX11_sendThanks_86 (lv_at hl 0 rfl) ?_
      refine gf11_519 F (hx28 _ rfl) hr dX11_sendThanks_88 ?_
      refine lv_aload_n F.1 F.2.1 dX11_sendThanks_91 rfl (lv_at hl 1 rfl) ?_
      refine gf11_31 F hx0 hr dX11_sendThanks_92 (fun y34 ey34 => ?_)
      replace h := zl_sub ey34 h
      have hy34 := zal_g hr hx0 (j := 13) rfl ey34
      clear ey34
      obtain ⟨a35, rfl, h⟩ := zd_some h
      obtain ⟨a36, rfl, h⟩ := zd_some h
      obtain ⟨r37, z38, hc39, h⟩ := zc_some h
      refine zr_callv (zrun_V (As := [.ref (B 8 a35), .int (zgI z26 8 3 a30), .ref (B 7 a36)]) (rest := []) zq_1431 zq_1433 zs_X11_hand zq_1434 zq_1 hdX11_hand (by decide) (T := TX11) (N := 21) rfl (okX11_hand l D cy B ids hst N x0 hx0 a35 (hy33 _ rfl) (zgI z26 8 3 a30)  a36 (hy34 _ rfl) hr.2.2 hc39) F hr hx0 hl.1 rfl (by decide) dX11_sendThanks_95 rfl rfl hroX11_sendThanks_X11_hand ⟨Nat.zero_le _, Nat.zero_le _⟩) F hA hr (fun H locs hx40 hr => ?_)
      clear hc39
      exact bX11_sendThanks_98 hst F hA E hK7 x0 x1 a1 x3 hx0 hx1 (hx2 _ rfl) hr (lv_sub hl [1, 2, 3, 4] rfl) h
theorem lX11_sendThanks_7 (hst : zSt B ids) (F : zFx p m c cX11_sendThanks 5 s args RX11 D cy B ids A) (hA : ∀ q : Nat, s.heap.size ≤ q → A q) {r : Int32} {z' : St} (E : zEnd p l e rmX11_sendThanks s m args below meth c cX11_sendThanks D cy B ids A Q none z' .return_ True) {N : Nat}  : ∀ (n : Nat) (x0 : Nat) (x1 : Nat) (x2 : Option Nat) (x3 : Int32) (hx0 : (11, x0) ∈ ids) (hx1 : (1, x1) ∈ ids) (hx2 : ∀ t, x2 = some t → (9, t) ∈ ids) {z : St} {H : Heap} {locs : List Loc} {ls : Array Slot} (hr : zRep D cy B ids A s.heap z H locs) (hl : lv_has ls 5 [(0, .ref (B 11 x0)), (1, .ref (B 1 x1)), (2, va_rf (Option.map (B 9) x2)), (3, .int x3)]), fX11_sendThanks_7 N  n x0 x1 x2 x3 z = some (r, z') → W p l e rmX11_sendThanks s m args below meth c H locs 0 0 Q (F0 m 7 ls []) := by
  intro n
  induction n with
  | zero => intro x0 x1 x2 x3 hx0 hx1 hx2 z H locs ls hr hl h; cases h
  | succ n ih => intro x0 x1 x2 x3 hx0 hx1 hx2 z H locs ls hr hl h; exact bX11_sendThanks_7 hst F hA E ih x0 x1 x2 x3 hx0 hx1 hx2 hr hl h
def fX11_sendThanks (N : Nat)  (x0 : Nat) (x1 : Nat) (z : St) : Option (Int32 × St) := zl (zgR z 1 10 x1) fun y1 => fX11_sendThanks_7 N N x0 x1 y1 (0) z
set_option maxHeartbeats 4000000 in
set_option maxRecDepth 100000 in
theorem bX11_sendThanks_0 (hst : zSt B ids) (F : zFx p m c cX11_sendThanks 5 s args RX11 D cy B ids A) (hA : ∀ q : Nat, s.heap.size ≤ q → A q) {r : Int32} {z' : St} (E : zEnd p l e rmX11_sendThanks s m args below meth c cX11_sendThanks D cy B ids A Q none z' .return_ True) {N : Nat}  (x0 : Nat) (x1 : Nat) (hx0 : (11, x0) ∈ ids) (hx1 : (1, x1) ∈ ids) {z : St} {H : Heap} {locs : List Loc} {ls : Array Slot} (hr : zRep D cy B ids A s.heap z H locs) (hl : lv_has ls 5 [(0, .ref (B 11 x0)), (1, .ref (B 1 x1))]) (h : fX11_sendThanks N x0 x1 z = some (r, z')) : W p l e rmX11_sendThanks s m args below meth c H locs 0 0 Q (F0 m 0 ls []) := by
  unfold fX11_sendThanks at h
  refine lv_aload_n F.1 F.2.1 dX11_sendThanks_0 rfl (lv_at hl 1 rfl) ?_
  refine gf11_395 F hx1 hr dX11_sendThanks_1 (fun y1 ey1 => ?_)
  replace h := zl_sub ey1 h
  have hy1 := zal_g hr hx1 (j := 10) rfl ey1
  clear ey1
  refine zr_astore_n (lv' := [(2, va_rf (Option.map (B 9) y1)), (0, .ref (B 11 x0)), (1, .ref (B 1 x1))]) F.1 F.2.1 dX11_sendThanks_4 rfl hl (by decide) rfl (fun ls hl => ?_)
  refine lv_iconst (v := (0)) F.1 F.2.1 dX11_sendThanks_5 (by decide) ?_
  refine lv_istore_n (lv' := [(3, .int (0)), (2, va_rf (Option.map (B 9) y1)), (0, .ref (B 11 x0)), (1, .ref (B 1 x1))]) F.1 F.2.1 dX11_sendThanks_6 rfl hl (by decide) (by simp only [List.filter, zrf_cat]; rfl) (fun ls hl => ?_)
  exact lX11_sendThanks_7 hst F hA E  _ x0 x1 y1 (0) hx0 hx1 hy1 hr (lv_sub hl [2, 3, 1, 0] rfl) h
end SX11_sendThanks
set_option maxRecDepth 100000 in
theorem okX11_sendThanks (l : Launch) (D : va_G) (cy : Nat → ClassId) (B : Nat → Nat → Nat) (ids : List (Nat × Nat)) (hst : zSt B ids) (N : Nat) (x0 : Nat) (hx0 : (11, x0) ∈ ids) (x1 : Nat) (hx1 : (1, x1) ∈ ids) {z : St} {r : Int32} {z' : St} (hW : zWf ids z) (h : fX11_sendThanks N x0 x1 z = some (r, z')) : zM l yX11_sendThanks (zws yX11_sendThanks cX11_sendThanks 5 none) rmX11_sendThanks D cy B ids [.ref (B 11 x0), .ref (B 1 x1)] none True z z' :=
  zM_of hst hW (by decide +kernel) (Nat.le_of_ble_eq_true rfl) (fun p e s m args below meth c A ls F hA hret hlocks hr hl => bX11_sendThanks_0 hst F hA (zEnd_v F hret hlocks) x0 x1 hx0 hx1 hr hl h)
abbrev rmX11_doRouter : Room := { frames := 6, cells := 0, slots := 0, locals := 191 }
theorem hdX11_doRouter : yX11_doRouter.cls ≠ "java/lang/invoke/MethodHandle" ∧ yX11_doRouter.cls ≠ "java/lang/invoke/VarHandle" ∧ (parseMethodDescriptor yX11_doRouter.desc).map (fun d => d.parameters.length) = some 1 := by decide +kernel
theorem hroX11_doRouter_X0_findWays : rmX0_findWays.frames + 1 ≤ rmX11_doRouter.frames ∧ 8 + (5 + 11) + rmX0_findWays.locals ≤ rmX11_doRouter.locals := by decide
theorem hroX11_doRouter_X0_takeOut : rmX0_takeOut.frames + 1 ≤ rmX11_doRouter.frames ∧ 8 + (2 + 11) + rmX0_takeOut.locals ≤ rmX11_doRouter.locals := by decide
theorem hroX11_doRouter_X11_forgetSilent : rmX11_forgetSilent.frames + 1 ≤ rmX11_doRouter.frames ∧ 8 + (6 + 11) + rmX11_forgetSilent.locals ≤ rmX11_doRouter.locals := by decide
theorem hroX11_doRouter_X11_makeOwnAdvert : rmX11_makeOwnAdvert.frames + 1 ≤ rmX11_doRouter.frames ∧ 8 + (6 + 11) + rmX11_makeOwnAdvert.locals ≤ rmX11_doRouter.locals := by decide
theorem hroX11_doRouter_X11_sendDue : rmX11_sendDue.frames + 1 ≤ rmX11_doRouter.frames ∧ 8 + (8 + 11) + rmX11_sendDue.locals ≤ rmX11_doRouter.locals := by decide
theorem hroX11_doRouter_X11_sendGreetings : rmX11_sendGreetings.frames + 1 ≤ rmX11_doRouter.frames ∧ 8 + (7 + 11) + rmX11_sendGreetings.locals ≤ rmX11_doRouter.locals := by decide
theorem hroX11_doRouter_X11_sendThanks : rmX11_sendThanks.frames + 1 ≤ rmX11_doRouter.frames ∧ 8 + (5 + 11) + rmX11_sendThanks.locals ≤ rmX11_doRouter.locals := by decide
theorem hroX11_doRouter_X9_clearDueOf : rmX9_clearDueOf.frames + 1 ≤ rmX11_doRouter.frames ∧ 8 + (3 + 11) + rmX9_clearDueOf.locals ≤ rmX11_doRouter.locals := by decide
section SX11_doRouter
variable {p : Program} {l : Launch} {e : Env} {s : State} {m : MethodId} {args : Array Value} {below : List Frame} {meth : Method} {c : Code} {Q : State → Prop} {D : va_G} {cy : Nat → ClassId} {B : Nat → Nat → Nat} {ids : List (Nat × Nat)} {A : Nat → Prop}
def fX11_doRouter_97 (N : Nat) (K47 : Nat → Nat → Nat → Option Nat → Int32 → St → Option (Int32 × St)) (x0 : Nat) (x1 : Nat) (x2 : Nat) (x3 : Nat) (x4 : Int32) (z : St) : Option (Int32 × St) := zl (x4 + 1) fun v1 => K47 x0 x1 x2 (some x3) v1 z
set_option maxHeartbeats 4000000 in
set_option maxRecDepth 100000 in
theorem bX11_doRouter_97 (hst : zSt B ids) (F : zFx p m c cX11_doRouter 5 s args RX11 D cy B ids A) (hA : ∀ q : Nat, s.heap.size ≤ q → A q) {r : Int32} {z' : St} (E : zEnd p l e rmX11_doRouter s m args below meth c cX11_doRouter D cy B ids A Q none z' .return_ True) {N : Nat} {K47 : Nat → Nat → Nat → Option Nat → Int32 → St → Option (Int32 × St)} (hK47 : ∀ (x0 : Nat) (x1 : Nat) (x2 : Nat) (x3 : Option Nat) (x4 : Int32) (hx0 : (11, x0) ∈ ids) (hx1 : (1, x1) ∈ ids) (hx2 : (9, x2) ∈ ids) (hx3 : ∀ t, x3 = some t → (0, t) ∈ ids) {z : St} {H : Heap} {locs : List Loc} {ls : Array Slot} (hr : zRep D cy B ids A s.heap z H locs) (hl : lv_has ls 5 [(0, .ref (B 11 x0)), (1, .ref (B 1 x1)), (2, .ref (B 9 x2)), (3, va_rf (Option.map (B 0) x3)), (4, .int x4)]), K47 x0 x1 x2 x3 x4 z = some (r, z') → W p l e rmX11_doRouter s m args below meth c H locs 0 0 Q (F0 m 47 ls [])) (x0 : Nat) (x1 : Nat) (x2 : Nat) (x3 : Nat) (x4 : Int32) (hx0 : (11, x0) ∈ ids) (hx1 : (1, x1) ∈ ids) (hx2 : (9, x2) ∈ ids) (hx3 : (0, x3) ∈ ids) {z : St} {H : Heap} {locs : List Loc} {ls : Array Slot} (hr : zRep D cy B ids A s.heap z H locs) (hl : lv_has ls 5 [(0, .ref (B 11 x0)), (1, .ref (B 1 x1)), (2, .ref (B 9 x2)), (3, .ref (B 0 x3)), (4, .int x4)]) (h : fX11_doRouter_97 N K47 x0 x1 x2 x3 x4 z = some (r, z')) : W p l e rmX11_doRouter s m args below meth c H locs 0 0 Q (F0 m 97 ls []) := by
  unfold fX11_doRouter_97 at h
  obtain ⟨v1, ev1⟩ : ∃ y : Int32, y = (x4 + 1) := ⟨_, rfl⟩
  replace h := zl_sub ev1 h
  refine lv_iinc (v := v1) (lv' := [(4, .int v1), (0, .ref (B 11 x0)), (1, .ref (B 1 x1)), (2, .ref (B 9 x2)), (3, .ref (B 0 x3))]) F.1 F.2.1 dX11_doRouter_97 hl (k := 4) rfl (by rw [ev1]; rfl) (by decide) rfl (fun ls hl => ?_)
  refine lv_goto (tgt := 47) F.1 F.2.1 dX11_doRouter_100 (by decide) ?_
  exact hK47 x0 x1 x2 (some x3) v1 hx0 hx1 hx2 (zal_s hx3) hr (lv_sub hl [1, 2, 3, 4, 0] rfl) h
def fX11_doRouter_147 (N : Nat)  (x0 : Nat) (x1 : Nat) (x3 : Option Nat) (z : St) : Option (Int32 × St) := zd x3 fun a1 => if (zgI z 0 9 a1) = 0 then (some (0, z)) else (zc (fX0_findWays N a1 x1 (zgI z 11 1 x0) z) fun _ z4 => some (0, z4))
set_option maxHeartbeats 4000000 in
set_option maxRecDepth 100000 in
theorem bX11_doRouter_147 (hst : zSt B ids) (F : zFx p m c cX11_doRouter 5 s args RX11 D cy B ids A) (hA : ∀ q : Nat, s.heap.size ≤ q → A q) {r : Int32} {z' : St} (E : zEnd p l e rmX11_doRouter s m args below meth c cX11_doRouter D cy B ids A Q none z' .return_ True) {N : Nat}  (x0 : Nat) (x1 : Nat) (x3 : Option Nat) (hx0 : (11, x0) ∈ ids) (hx1 : (1, x1) ∈ ids) (hx3 : ∀ t, x3 = some t → (0, t) ∈ ids) {z : St} {H : Heap} {locs : List Loc} {ls : Array Slot} (hr : zRep D cy B ids A s.heap z H locs) (hl : lv_has ls 5 [(0, .ref (B 11 x0)), (1, .ref (B 1 x1)), (3, va_rf (Option.map (B 0) x3))]) (h : fX11_doRouter_147 N x0 x1 x3 z = some (r, z')) : W p l e rmX11_doRouter s m args below meth c H locs 0 0 Q (F0 m 147 ls []) := by
  unfold fX11_doRouter_147 at h
  refine zr_aload_n F.1 F.2.1 dX11_doRouter_147 rfl (lv_at hl 2 rfl) ?_
  obtain ⟨a1, rfl, h⟩ := zd_some h
  refine gf11_726 F (hx3 _ rfl) hr dX11_doRouter_148 ?_
  refine lv_if_eq (tgt := 163) F.1 F.2.1 dX11_doRouter_151 (by decide) (fun c2 => ?_) (fun c2 => ?_)
  · replace h := zi_t c2 h
    obtain ⟨rfl, rfl⟩ := zret h
    exact E _ _ _ _ dX11_doRouter_163 trivial hr
  · replace h := zi_f c2 h
    refine lv_aload_n F.1 F.2.1 dX11_doRouter_154 rfl (lv_at hl 2 rfl) ?_
    refine lv_aload_n F.1 F.2.1 dX11_doRouter_155 rfl (lv_at hl 1 rfl) ?_
    refine lv_aload_n F.1 F.2.1 dX11_doRouter_156 rfl (lv_at hl 0 rfl) ?_
    refine gf11_85 F hx0 hr dX11_doRouter_157 ?_
    obtain ⟨r3, z4, hc5, h⟩ := zc_some h
    refine zr_callv (zrun_VN (As := [.ref (B 1 x1), .int (zgI z 11 1 x0)]) (rest := []) zn_1557 zq_1559 zs_X0_findWays zq_1560 zq_11 hdX0_findWays (by decide) (T := TX0) (N := 16) rfl (okX0_findWays l D cy B ids hst N a1 (hx3 _ rfl) x1 hx1 (zgI z 11 1 x0)  hr.2.2 hc5) F hr (hx3 _ rfl) hl.1 rfl (by decide) dX11_doRouter_160 rfl rfl hroX11_doRouter_X0_findWays ⟨Nat.zero_le _, Nat.zero_le _⟩) F hA hr (fun H locs hx6 hr => ?_)
    clear hc5
    obtain ⟨rfl, rfl⟩ := zret h
    exact E _ _ _ _ dX11_doRouter_163 trivial hr
def fX11_doRouter_135 (N : Nat)  (x0 : Nat) (x1 : Nat) (x2 : Nat) (x3 : Option Nat) (z : St) : Option (Int32 × St) := if (zgI z 9 5 x2) ≤ 0 then (fX11_doRouter_147 N x0 x1 x3 z) else (zc (fX11_sendDue N x0 x1 z) fun _ z3 => fX11_doRouter_147 N x0 x1 x3 z3)
set_option maxHeartbeats 4000000 in
set_option maxRecDepth 100000 in
theorem bX11_doRouter_135 (hst : zSt B ids) (F : zFx p m c cX11_doRouter 5 s args RX11 D cy B ids A) (hA : ∀ q : Nat, s.heap.size ≤ q → A q) {r : Int32} {z' : St} (E : zEnd p l e rmX11_doRouter s m args below meth c cX11_doRouter D cy B ids A Q none z' .return_ True) {N : Nat}  (x0 : Nat) (x1 : Nat) (x2 : Nat) (x3 : Option Nat) (hx0 : (11, x0) ∈ ids) (hx1 : (1, x1) ∈ ids) (hx2 : (9, x2) ∈ ids) (hx3 : ∀ t, x3 = some t → (0, t) ∈ ids) {z : St} {H : Heap} {locs : List Loc} {ls : Array Slot} (hr : zRep D cy B ids A s.heap z H locs) (hl : lv_has ls 5 [(0, .ref (B 11 x0)), (1, .ref (B 1 x1)), (2, .ref (B 9 x2)), (3, va_rf (Option.map (B 0) x3))]) (h : fX11_doRouter_135 N x0 x1 x2 x3 z = some (r, z')) : W p l e rmX11_doRouter s m args below meth c H locs 0 0 Q (F0 m 135 ls []) := by
  unfold fX11_doRouter_135 at h
  refine lv_aload_n F.1 F.2.1 dX11_doRouter_135 rfl (lv_at hl 2 rfl) ?_
  refine gf11_753 F hx2 hr dX11_doRouter_136 ?_
  refine lv_if_le (tgt := 147) F.1 F.2.1 dX11_doRouter_139 (by decide) (fun c1 => ?_) (fun c1 => ?_)
  · replace h := zi_t c1 h
    exact bX11_doRouter_147 hst F hA E  x0 x1 x3 hx0 hx1 hx3 hr (lv_sub hl [0, 1, 3] rfl) h
  · replace h := zi_f c1 h
    refine lv_aload_n F.1 F.2.1 dX11_doRouter_142 rfl (lv_at hl 0 rfl) ?_
    refine lv_aload_n F.1 F.2.1 dX11_doRouter_143 rfl (lv_at hl 1 rfl) ?_
    obtain ⟨r2, z3, hc4, h⟩ := zc_some h
    refine zr_callv (zrun_V (As := [.ref (B 1 x1)]) (rest := []) zq_1537 zq_1539 zs_X11_sendDue zq_1540 zq_1 hdX11_sendDue (by decide) (T := TX11) (N := 21) rfl (okX11_sendDue l D cy B ids hst N x0 hx0 x1 hx1 hr.2.2 hc4) F hr hx0 hl.1 rfl (by decide) dX11_doRouter_144 rfl rfl hroX11_doRouter_X11_sendDue ⟨Nat.zero_le _, Nat.zero_le _⟩) F hA hr (fun H locs hx5 hr => ?_)
    clear hc4
    exact bX11_doRouter_147 hst F hA E  x0 x1 x3 hx0 hx1 hx3 hr (lv_sub hl [0, 1, 3] rfl) h
def fX11_doRouter_123 (N : Nat)  (x0 : Nat) (x1 : Nat) (x2 : Nat) (x3 : Option Nat) (z : St) : Option (Int32 × St) := if (zgI z 9 9 x2) ≤ 0 then (fX11_doRouter_135 N x0 x1 x2 x3 z) else (zc (fX11_sendThanks N x0 x1 z) fun _ z3 => fX11_doRouter_135 N x0 x1 x2 x3 z3)
set_option maxHeartbeats 4000000 in
set_option maxRecDepth 100000 in
theorem bX11_doRouter_123 (hst : zSt B ids) (F : zFx p m c cX11_doRouter 5 s args RX11 D cy B ids A) (hA : ∀ q : Nat, s.heap.size ≤ q → A q) {r : Int32} {z' : St} (E : zEnd p l e rmX11_doRouter s m args below meth c cX11_doRouter D cy B ids A Q none z' .return_ True) {N : Nat}  (x0 : Nat) (x1 : Nat) (x2 : Nat) (x3 : Option Nat) (hx0 : (11, x0) ∈ ids) (hx1 : (1, x1) ∈ ids) (hx2 : (9, x2) ∈ ids) (hx3 : ∀ t, x3 = some t → (0, t) ∈ ids) {z : St} {H : Heap} {locs : List Loc} {ls : Array Slot} (hr : zRep D cy B ids A s.heap z H locs) (hl : lv_has ls 5 [(0, .ref (B 11 x0)), (1, .ref (B 1 x1)), (2, .ref (B 9 x2)), (3, va_rf (Option.map (B 0) x3))]) (h : fX11_doRouter_123 N x0 x1 x2 x3 z = some (r, z')) : W p l e rmX11_doRouter s m args below meth c H locs 0 0 Q (F0 m 123 ls []) := by
  unfold fX11_doRouter_123 at h
  refine lv_aload_n F.1 F.2.1 dX11_doRouter_123 rfl (lv_at hl 2 rfl) ?_
  refine gf11_747 F hx2 hr dX11_doRouter_124 ?_
  refine lv_if_le (tgt := 135) F.1 F.2.1 dX11_doRouter_127 (by decide) (fun c1 => ?_) (fun c1 => ?_)
  · replace h := zi_t c1 h
    exact bX11_doRouter_135 hst F hA E  x0 x1 x2 x3 hx0 hx1 hx2 hx3 hr (lv_sub hl [0, 1, 2, 3] rfl) h
  · replace h := zi_f c1 h
    refine lv_aload_n F.1 F.2.1 dX11_doRouter_130 rfl (lv_at hl 0 rfl) ?_
    refine lv_aload_n F.1 F.2.1 dX11_doRouter_131 rfl (lv_at hl 1 rfl) ?_
    obtain ⟨r2, z3, hc4, h⟩ := zc_some h
    refine zr_callv (zrun_V (As := [.ref (B 1 x1)]) (rest := []) zq_1529 zq_1531 zs_X11_sendThanks zq_1532 zq_1 hdX11_sendThanks (by decide) (T := TX11) (N := 21) rfl (okX11_sendThanks l D cy B ids hst N x0 hx0 x1 hx1 hr.2.2 hc4) F hr hx0 hl.1 rfl (by decide) dX11_doRouter_132 rfl rfl hroX11_doRouter_X11_sendThanks ⟨Nat.zero_le _, Nat.zero_le _⟩) F hA hr (fun H locs hx5 hr => ?_)
    clear hc4
    exact bX11_doRouter_135 hst F hA E  x0 x1 x2 x3 hx0 hx1 hx2 hx3 hr (lv_sub hl [0, 1, 2, 3] rfl) h
def fX11_doRouter_47b (N : Nat) (K47 : Nat → Nat → Nat → Option Nat → Int32 → St → Option (Int32 × St)) (x0 : Nat) (x1 : Nat) (x2 : Nat) (x3 : Option Nat) (x4 : Int32) (z : St) : Option (Int32 × St) := if (16) ≤ x4 then (zc (fX11_makeOwnAdvert N x0 x1 z) fun _ z3 => if ¬ ((zgI z3 11 4 x0) - (zgI z3 11 4 x0) / (20) * (20)) = 0 then (fX11_doRouter_123 N x0 x1 x2 x3 z3) else (zc (fX11_sendGreetings N x0 x1 z3) fun _ z8 => fX11_doRouter_123 N x0 x1 x2 x3 z8)) else (zd x3 fun a11 => zk x4 16 <| if (zgA z 100 a11 x4.toNatClampNeg) = 0 then (fX11_doRouter_97 N K47 x0 x1 x2 a11 x4 z) else (zk x4 16 <| if (5000) ≤ ((zgI z 11 4 x0) - (zgA z 101 a11 x4.toNatClampNeg)) then (zc (fX0_takeOut N a11 x4 z) fun _ z17 => zc (fX9_clearDueOf N x2 x4 z17) fun _ z21 => fX11_doRouter_97 N K47 x0 x1 x2 a11 x4 z21) else (fX11_doRouter_97 N K47 x0 x1 x2 a11 x4 z)))
def fX11_doRouter_47 (N : Nat)  : Nat → Nat → Nat → Nat → Option Nat → Int32 → St → Option (Int32 × St)
  | 0 => fun _ _ _ _ _ _ => none
  | n + 1 => fX11_doRouter_47b N (fX11_doRouter_47 N  n)
set_option maxHeartbeats 4000000 in
set_option maxRecDepth 100000 in
theorem bX11_doRouter_47 (hst : zSt B ids) (F : zFx p m c cX11_doRouter 5 s args RX11 D cy B ids A) (hA : ∀ q : Nat, s.heap.size ≤ q → A q) {r : Int32} {z' : St} (E : zEnd p l e rmX11_doRouter s m args below meth c cX11_doRouter D cy B ids A Q none z' .return_ True) {N : Nat} {K47 : Nat → Nat → Nat → Option Nat → Int32 → St → Option (Int32 × St)} (hK47 : ∀ (x0 : Nat) (x1 : Nat) (x2 : Nat) (x3 : Option Nat) (x4 : Int32) (hx0 : (11, x0) ∈ ids) (hx1 : (1, x1) ∈ ids) (hx2 : (9, x2) ∈ ids) (hx3 : ∀ t, x3 = some t → (0, t) ∈ ids) {z : St} {H : Heap} {locs : List Loc} {ls : Array Slot} (hr : zRep D cy B ids A s.heap z H locs) (hl : lv_has ls 5 [(0, .ref (B 11 x0)), (1, .ref (B 1 x1)), (2, .ref (B 9 x2)), (3, va_rf (Option.map (B 0) x3)), (4, .int x4)]), K47 x0 x1 x2 x3 x4 z = some (r, z') → W p l e rmX11_doRouter s m args below meth c H locs 0 0 Q (F0 m 47 ls [])) (x0 : Nat) (x1 : Nat) (x2 : Nat) (x3 : Option Nat) (x4 : Int32) (hx0 : (11, x0) ∈ ids) (hx1 : (1, x1) ∈ ids) (hx2 : (9, x2) ∈ ids) (hx3 : ∀ t, x3 = some t → (0, t) ∈ ids) {z : St} {H : Heap} {locs : List Loc} {ls : Array Slot} (hr : zRep D cy B ids A s.heap z H locs) (hl : lv_has ls 5 [(0, .ref (B 11 x0)), (1, .ref (B 1 x1)), (2, .ref (B 9 x2)), (3, va_rf (Option.map (B 0) x3)), (4, .int x4)]) (h : fX11_doRouter_47b N K47 x0 x1 x2 x3 x4 z = some (r, z')) : W p l e rmX11_doRouter s m args below meth c H locs 0 0 Q (F0 m 47 ls []) := by
  unfold fX11_doRouter_47b at h
  refine lv_iload F.1 F.2.1 dX11_doRouter_47 (lv_at hl 4 rfl) ?_
  refine lv_bipush (v := (16)) F.1 F.2.1 dX11_doRouter_49 (by decide) ?_
  refine lv_icmp_ge (tgt := 103) F.1 F.2.1 dX11_doRouter_51 (by decide) (fun c1 => ?_) (fun c1 => ?_)
  · replace h := zi_t c1 h
    refine lv_aload_n F.1 F.2.1 dX11_doRouter_103 rfl (lv_at hl 0 rfl) ?_
    refine lv_aload_n F.1 F.2.1 dX11_doRouter_104 rfl (lv_at hl 1 rfl) ?_
    obtain ⟨r2, z3, hc4, h⟩ := zc_some h
    refine zr_callv (zrun_V (As := [.ref (B 1 x1)]) (rest := []) zq_1502 zq_1504 zs_X11_makeOwnAdvert zq_1505 zq_1 hdX11_makeOwnAdvert (by decide) (T := TX11) (N := 21) rfl (okX11_makeOwnAdvert l D cy B ids hst N x0 hx0 x1 hx1 hr.2.2 hc4) F hr hx0 hl.1 rfl (by decide) dX11_doRouter_105 rfl rfl hroX11_doRouter_X11_makeOwnAdvert ⟨Nat.zero_le _, Nat.zero_le _⟩) F hA hr (fun H locs hx5 hr => ?_)
    clear hc4
    refine lv_aload_n F.1 F.2.1 dX11_doRouter_108 rfl (lv_at hl 0 rfl) ?_
    refine gf11_176 F hx0 hr dX11_doRouter_109 ?_
    refine lv_bipush (v := (20)) F.1 F.2.1 dX11_doRouter_112 (by decide) ?_
    refine lv_irem F.1 F.2.1 dX11_doRouter_114 (by decide) ?_
    refine lv_if_ne (tgt := 123) F.1 F.2.1 dX11_doRouter_115 (by decide) (fun c6 => ?_) (fun c6 => ?_)
    · replace h := zi_t c6 h
      exact bX11_doRouter_123 hst F hA E  x0 x1 x2 x3 hx0 hx1 hx2 hx3 hr (lv_sub hl [0, 1, 2, 3] rfl) h
    · replace h := zi_f (fun q => q c6) h
      refine lv_aload_n F.1 F.2.1 dX11_doRouter_118 rfl (lv_at hl 0 rfl) ?_
      refine lv_aload_n F.1 F.2.1 dX11_doRouter_119 rfl (lv_at hl 1 rfl) ?_
      obtain ⟨r7, z8, hc9, h⟩ := zc_some h
      refine zr_callv (zrun_V (As := [.ref (B 1 x1)]) (rest := []) zq_1521 zq_1523 zs_X11_sendGreetings zq_1524 zq_1 hdX11_sendGreetings (by decide) (T := TX11) (N := 21) rfl (okX11_sendGreetings l D cy B ids hst N x0 hx0 x1 hx1 hr.2.2 hc9) F hr hx0 hl.1 rfl (by decide) dX11_doRouter_120 rfl rfl hroX11_doRouter_X11_sendGreetings ⟨Nat.zero_le _, Nat.zero_le _⟩) F hA hr (fun H locs hx10 hr => ?_)
      clear hc9
      exact bX11_doRouter_123 hst F hA E  x0 x1 x2 x3 hx0 hx1 hx2 hx3 hr (lv_sub hl [0, 1, 2, 3] rfl) h
  · replace h := zi_f c1 h
    refine zr_aload_n F.1 F.2.1 dX11_doRouter_54 rfl (lv_at hl 3 rfl) ?_
    obtain ⟨a11, rfl, h⟩ := zd_some h
    refine gf11_426 F (hx3 _ rfl) hr dX11_doRouter_55 ?_
    refine lv_iload F.1 F.2.1 dX11_doRouter_58 (lv_at hl 4 rfl) ?_
    obtain ⟨c12, h⟩ := zk_some h
    refine zr_iald (k := 100) (by decide) rfl (by decide) F (zal_a F (hx3 _ rfl) (j := 1) rfl) hr dX11_doRouter_60 c12 ?_
    refine lv_if_eq (tgt := 97) F.1 F.2.1 dX11_doRouter_61 (by decide) (fun c13 => ?_) (fun c13 => ?_)
    · replace h := zi_t c13 h
      exact bX11_doRouter_97 hst F hA E hK47 x0 x1 x2 a11 x4 hx0 hx1 hx2 (hx3 _ rfl) hr (lv_sub hl [0, 1, 2, 3, 4] rfl) h
    · replace h := zi_f c13 h
      refine lv_aload_n F.1 F.2.1 dX11_doRouter_64 rfl (lv_at hl 0 rfl) ?_
      refine gf11_176 F hx0 hr dX11_doRouter_65 ?_
      refine lv_aload_n F.1 F.2.1 dX11_doRouter_68 rfl (lv_at hl 3 rfl) ?_
      refine gf11_732 F (hx3 _ rfl) hr dX11_doRouter_69 ?_
      refine lv_iload F.1 F.2.1 dX11_doRouter_72 (lv_at hl 4 rfl) ?_
      obtain ⟨c14, h⟩ := zk_some h
      refine zr_iald (k := 101) (by decide) rfl (by decide) F (zal_a F (hx3 _ rfl) (j := 2) rfl) hr dX11_doRouter_74 c14 ?_
      refine lv_isub F.1 F.2.1 dX11_doRouter_75 ?_
      refine lv_sipush (v := (5000)) F.1 F.2.1 dX11_doRouter_76 (by decide) ?_
      refine lv_icmp_ge (tgt := 85) F.1 F.2.1 dX11_doRouter_79 (by decide) (fun c15 => ?_) (fun c15 => ?_)
      · replace h := zi_t c15 h
        refine lv_aload_n F.1 F.2.1 dX11_doRouter_85 rfl (lv_at hl 3 rfl) ?_
        refine lv_iload F.1 F.2.1 dX11_doRouter_86 (lv_at hl 4 rfl) ?_
        obtain ⟨r16, z17, hc18, h⟩ := zc_some h
        refine zr_callv (zrun_VN (As := [.int x4]) (rest := []) zn_1494 zq_1496 zs_X0_takeOut zq_1497 zq_11 hdX0_takeOut (by decide) (T := TX0) (N := 16) rfl (okX0_takeOut l D cy B ids hst N a11 (hx3 _ rfl) x4  hr.2.2 hc18) F hr (hx3 _ rfl) hl.1 rfl (by decide) dX11_doRouter_88 rfl rfl hroX11_doRouter_X0_takeOut ⟨Nat.zero_le _, Nat.zero_le _⟩) F hA hr (fun H locs hx19 hr => ?_)
        clear hc18
        refine lv_aload_n F.1 F.2.1 dX11_doRouter_91 rfl (lv_at hl 2 rfl) ?_
        refine lv_iload F.1 F.2.1 dX11_doRouter_92 (lv_at hl 4 rfl) ?_
        obtain ⟨r20, z21, hc22, h⟩ := zc_some h
        refine zr_callv (zrun_VN (As := [.int x4]) (rest := []) zn_1498 zq_1500 zs_X9_clearDueOf zq_1501 zq_10 hdX9_clearDueOf (by decide) (T := TX9) (N := 13) rfl (okX9_clearDueOf l D cy B ids hst N x2 hx2 x4  hr.2.2 hc22) F hr hx2 hl.1 rfl (by decide) dX11_doRouter_94 rfl rfl hroX11_doRouter_X9_clearDueOf ⟨Nat.zero_le _, Nat.zero_le _⟩) F hA hr (fun H locs hx23 hr => ?_)
        clear hc22
        exact bX11_doRouter_97 hst F hA E hK47 x0 x1 x2 a11 x4 hx0 hx1 hx2 (hx3 _ rfl) hr (lv_sub hl [0, 1, 2, 3, 4] rfl) h
      · replace h := zi_f c15 h
        refine lv_goto (tgt := 97) F.1 F.2.1 dX11_doRouter_82 (by decide) ?_
        exact bX11_doRouter_97 hst F hA E hK47 x0 x1 x2 a11 x4 hx0 hx1 hx2 (hx3 _ rfl) hr (lv_sub hl [0, 1, 2, 3, 4] rfl) h
theorem lX11_doRouter_47 (hst : zSt B ids) (F : zFx p m c cX11_doRouter 5 s args RX11 D cy B ids A) (hA : ∀ q : Nat, s.heap.size ≤ q → A q) {r : Int32} {z' : St} (E : zEnd p l e rmX11_doRouter s m args below meth c cX11_doRouter D cy B ids A Q none z' .return_ True) {N : Nat}  : ∀ (n : Nat) (x0 : Nat) (x1 : Nat) (x2 : Nat) (x3 : Option Nat) (x4 : Int32) (hx0 : (11, x0) ∈ ids) (hx1 : (1, x1) ∈ ids) (hx2 : (9, x2) ∈ ids) (hx3 : ∀ t, x3 = some t → (0, t) ∈ ids) {z : St} {H : Heap} {locs : List Loc} {ls : Array Slot} (hr : zRep D cy B ids A s.heap z H locs) (hl : lv_has ls 5 [(0, .ref (B 11 x0)), (1, .ref (B 1 x1)), (2, .ref (B 9 x2)), (3, va_rf (Option.map (B 0) x3)), (4, .int x4)]), fX11_doRouter_47 N  n x0 x1 x2 x3 x4 z = some (r, z') → W p l e rmX11_doRouter s m args below meth c H locs 0 0 Q (F0 m 47 ls []) := by
  intro n
  induction n with
  | zero => intro x0 x1 x2 x3 x4 hx0 hx1 hx2 hx3 z H locs ls hr hl h; cases h
  | succ n ih => intro x0 x1 x2 x3 x4 hx0 hx1 hx2 hx3 z H locs ls hr hl h; exact bX11_doRouter_47 hst F hA E ih x0 x1 x2 x3 x4 hx0 hx1 hx2 hx3 hr hl h
def fX11_doRouter_39 (N : Nat)  (x0 : Nat) (x1 : Nat) (x2 : Nat) (x3 : Option Nat) (z : St) : Option (Int32 × St) := zc (fX11_forgetSilent N x0 x1 z) fun _ z2 => fX11_doRouter_47 N N x0 x1 x2 x3 (0) z2
set_option maxHeartbeats 4000000 in
set_option maxRecDepth 100000 in
theorem bX11_doRouter_39 (hst : zSt B ids) (F : zFx p m c cX11_doRouter 5 s args RX11 D cy B ids A) (hA : ∀ q : Nat, s.heap.size ≤ q → A q) {r : Int32} {z' : St} (E : zEnd p l e rmX11_doRouter s m args below meth c cX11_doRouter D cy B ids A Q none z' .return_ True) {N : Nat}  (x0 : Nat) (x1 : Nat) (x2 : Nat) (x3 : Option Nat) (hx0 : (11, x0) ∈ ids) (hx1 : (1, x1) ∈ ids) (hx2 : (9, x2) ∈ ids) (hx3 : ∀ t, x3 = some t → (0, t) ∈ ids) {z : St} {H : Heap} {locs : List Loc} {ls : Array Slot} (hr : zRep D cy B ids A s.heap z H locs) (hl : lv_has ls 5 [(0, .ref (B 11 x0)), (1, .ref (B 1 x1)), (2, .ref (B 9 x2)), (3, va_rf (Option.map (B 0) x3))]) (h : fX11_doRouter_39 N x0 x1 x2 x3 z = some (r, z')) : W p l e rmX11_doRouter s m args below meth c H locs 0 0 Q (F0 m 39 ls []) := by
  unfold fX11_doRouter_39 at h
  refine lv_aload_n F.1 F.2.1 dX11_doRouter_39 rfl (lv_at hl 0 rfl) ?_
  refine lv_aload_n F.1 F.2.1 dX11_doRouter_40 rfl (lv_at hl 1 rfl) ?_
  obtain ⟨r1, z2, hc3, h⟩ := zc_some h
  refine zr_callv (zrun_V (As := [.ref (B 1 x1)]) (rest := []) zq_1485 zq_1487 zs_X11_forgetSilent zq_1488 zq_1 hdX11_forgetSilent (by decide) (T := TX11) (N := 21) rfl (okX11_forgetSilent l D cy B ids hst N x0 hx0 x1 hx1 hr.2.2 hc3) F hr hx0 hl.1 rfl (by decide) dX11_doRouter_41 rfl rfl hroX11_doRouter_X11_forgetSilent ⟨Nat.zero_le _, Nat.zero_le _⟩) F hA hr (fun H locs hx4 hr => ?_)
  clear hc3
  refine lv_iconst (v := (0)) F.1 F.2.1 dX11_doRouter_44 (by decide) ?_
  refine lv_istore (lv' := [(4, .int (0)), (0, .ref (B 11 x0)), (1, .ref (B 1 x1)), (2, .ref (B 9 x2)), (3, va_rf (Option.map (B 0) x3))]) F.1 F.2.1 dX11_doRouter_45 hl (by decide) (by simp only [List.filter, zrf_cat]; rfl) (fun ls hl => ?_)
  exact lX11_doRouter_47 hst F hA E  _ x0 x1 x2 x3 (0) hx0 hx1 hx2 hx3 hr (lv_sub hl [1, 2, 3, 4, 0] rfl) h
def fX11_doRouter (N : Nat)  (x0 : Nat) (x1 : Nat) (z : St) : Option (Int32 × St) := zl (zgR z 1 10 x1) fun y1 => zd y1 fun a2 => zl (zgR z 9 12 a2) fun y3 => if (zgI z 9 11 a2) = (zgI z 11 6 x0) then (fX11_doRouter_39 N x0 x1 a2 y3 z) else (zl (zsI z 9 11 a2 (zgI z 11 6 x0)) fun z5 => zl (zsI z5 9 10 a2 (1)) fun z6 => zd y3 fun a7 => zl (zsI z6 0 9 a7 (1)) fun z8 => fX11_doRouter_39 N x0 x1 a2 (some a7) z8)
set_option maxHeartbeats 4000000 in
set_option maxRecDepth 100000 in
theorem bX11_doRouter_0 (hst : zSt B ids) (F : zFx p m c cX11_doRouter 5 s args RX11 D cy B ids A) (hA : ∀ q : Nat, s.heap.size ≤ q → A q) {r : Int32} {z' : St} (E : zEnd p l e rmX11_doRouter s m args below meth c cX11_doRouter D cy B ids A Q none z' .return_ True) {N : Nat}  (x0 : Nat) (x1 : Nat) (hx0 : (11, x0) ∈ ids) (hx1 : (1, x1) ∈ ids) {z : St} {H : Heap} {locs : List Loc} {ls : Array Slot} (hr : zRep D cy B ids A s.heap z H locs) (hl : lv_has ls 5 [(0, .ref (B 11 x0)), (1, .ref (B 1 x1))]) (h : fX11_doRouter N x0 x1 z = some (r, z')) : W p l e rmX11_doRouter s m args below meth c H locs 0 0 Q (F0 m 0 ls []) := by
  unfold fX11_doRouter at h
  refine lv_aload_n F.1 F.2.1 dX11_doRouter_0 rfl (lv_at hl 1 rfl) ?_
  refine gf11_395 F hx1 hr dX11_doRouter_1 (fun y1 ey1 => ?_)
  replace h := zl_sub ey1 h
  have hy1 := zal_g hr hx1 (j := 10) rfl ey1
  clear ey1
  refine zr_astore_n (lv' := [(2, va_rf (Option.map (B 9) y1)), (0, .ref (B 11 x0)), (1, .ref (B 1 x1))]) F.1 F.2.1 dX11_doRouter_4 rfl hl (by decide) rfl (fun ls hl => ?_)
  refine zr_aload_n F.1 F.2.1 dX11_doRouter_5 rfl (lv_at hl 0 rfl) ?_
  obtain ⟨a2, rfl, h⟩ := zd_some h
  refine gf11_399 F (hy1 _ rfl) hr dX11_doRouter_6 (fun y3 ey3 => ?_)
  replace h := zl_sub ey3 h
  have hy3 := zal_g hr (hy1 _ rfl) (j := 12) rfl ey3
  clear ey3
  refine zr_astore_n (lv' := [(3, va_rf (Option.map (B 0) y3)), (2, .ref (B 9 a2)), (0, .ref (B 11 x0)), (1, .ref (B 1 x1))]) F.1 F.2.1 dX11_doRouter_9 rfl hl (by decide) rfl (fun ls hl => ?_)
  refine lv_aload_n F.1 F.2.1 dX11_doRouter_10 rfl (lv_at hl 1 rfl) ?_
  refine gf11_720 F (hy1 _ rfl) hr dX11_doRouter_11 ?_
  refine lv_aload_n F.1 F.2.1 dX11_doRouter_14 rfl (lv_at hl 2 rfl) ?_
  refine gf11_498 F hx0 hr dX11_doRouter_15 ?_
  refine lv_icmp_eq (tgt := 39) F.1 F.2.1 dX11_doRouter_18 (by decide) (fun c4 => ?_) (fun c4 => ?_)
  · replace h := zi_t c4 h
    exact bX11_doRouter_39 hst F hA E  x0 x1 a2 y3 hx0 hx1 (hy1 _ rfl) hy3 hr (lv_sub hl [2, 3, 1, 0] rfl) h
  · replace h := zi_f c4 h
    refine lv_aload_n F.1 F.2.1 dX11_doRouter_21 rfl (lv_at hl 1 rfl) ?_
    refine lv_aload_n F.1 F.2.1 dX11_doRouter_22 rfl (lv_at hl 2 rfl) ?_
    refine gf11_498 F hx0 hr dX11_doRouter_23 ?_
    refine pf11_720 F (hy1 _ rfl) hr dX11_doRouter_26 (zgI z 11 6 x0) (fun H locs z5 ez5 hr => ?_)
    replace h := zl_sub ez5 h
    clear ez5
    refine lv_aload_n F.1 F.2.1 dX11_doRouter_29 rfl (lv_at hl 1 rfl) ?_
    refine lv_iconst (v := (1)) F.1 F.2.1 dX11_doRouter_30 (by decide) ?_
    refine pf11_723 F (hy1 _ rfl) hr dX11_doRouter_31 (1) (by decide) (fun H locs z6 ez6 hr => ?_)
    replace h := zl_sub ez6 h
    clear ez6
    refine zr_aload_n F.1 F.2.1 dX11_doRouter_34 rfl (lv_at hl 0 rfl) ?_
    refine lv_iconst (v := (1)) F.1 F.2.1 dX11_doRouter_35 (by decide) ?_
    obtain ⟨a7, rfl, h⟩ := zd_some h
    refine pf11_726 F (hy3 _ rfl) hr dX11_doRouter_36 (1) (by decide) (fun H locs z8 ez8 hr => ?_)
    replace h := zl_sub ez8 h
    clear ez8
    exact bX11_doRouter_39 hst F hA E  x0 x1 a2 (some a7) hx0 hx1 (hy1 _ rfl) (zal_s (hy3 _ rfl)) hr (lv_sub hl [2, 3, 1, 0] rfl) h
end SX11_doRouter
set_option maxRecDepth 100000 in
theorem okX11_doRouter (l : Launch) (D : va_G) (cy : Nat → ClassId) (B : Nat → Nat → Nat) (ids : List (Nat × Nat)) (hst : zSt B ids) (N : Nat) (x0 : Nat) (hx0 : (11, x0) ∈ ids) (x1 : Nat) (hx1 : (1, x1) ∈ ids) {z : St} {r : Int32} {z' : St} (hW : zWf ids z) (h : fX11_doRouter N x0 x1 z = some (r, z')) : zM l yX11_doRouter (zws yX11_doRouter cX11_doRouter 5 none) rmX11_doRouter D cy B ids [.ref (B 11 x0), .ref (B 1 x1)] none True z z' :=
  zM_of hst hW (by decide +kernel) (Nat.le_of_ble_eq_true rfl) (fun p e s m args below meth c A ls F hA hret hlocks hr hl => bX11_doRouter_0 hst F hA (zEnd_v F hret hlocks) x0 x1 hx0 hx1 hr hl h)
