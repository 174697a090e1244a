abbrev rmX19_netOfHost : Room := { frames := 2, cells := 0, slots := 0, locals := 43 }
theorem hdX19_netOfHost : yX19_netOfHost.cls ≠ "java/lang/invoke/MethodHandle" ∧ yX19_netOfHost.cls ≠ "java/lang/invoke/VarHandle" ∧ (parseMethodDescriptor yX19_netOfHost.desc).map (fun d => d.parameters.length) = some 1 := by decide +kernel
theorem hroX19_netOfHost_X19_isOwn : rmX19_isOwn.frames + 1 ≤ rmX19_netOfHost.frames ∧ 8 + (4 + 11) + rmX19_isOwn.locals ≤ rmX19_netOfHost.locals := by decide
section SX19_netOfHost
variable {p : Program} {l : Launch} {e : Env} {s : State} {m : MethodId} {args : Array Value} {below : List Frame} {meth : Method} {c : Code} {Q : State → Prop} {D : va_G} {cy : Nat → ClassId} {B : Nat → Nat → Nat} {ids : List (Nat × Nat)} {A : Nat → Prop}
def fX19_netOfHost_54 (N : Nat) (K2 : Nat → Int32 → Int32 → St → Option (Int32 × St)) (x0 : Nat) (x1 : Int32) (x2 : Int32) (z : St) : Option (Int32 × St) := zl (x2 + 1) fun v1 => K2 x0 x1 v1 z
set_option maxHeartbeats 4000000 in
set_option maxRecDepth 100000 in
theorem bX19_netOfHost_54 (hst : zSt B ids) (F : zFx p m c cX19_netOfHost 3 s args RX19 D cy B ids A) (hA : ∀ q : Nat, s.heap.size ≤ q → A q) {r : Int32} {z' : St} (E : zEnd p l e rmX19_netOfHost s m args below meth c cX19_netOfHost D cy B ids A Q (some (.int r)) z' .ireturn True) {N : Nat} {K2 : Nat → Int32 → Int32 → St → Option (Int32 × St)} (hK2 : ∀ (x0 : Nat) (x1 : Int32) (x2 : Int32) (hx0 : (19, x0) ∈ ids) {z : St} {H : Heap} {locs : List Loc} {ls : Array Slot} (hr : zRep D cy B ids A s.heap z H locs) (hl : lv_has ls 3 [(0, .ref (B 19 x0)), (1, .int x1), (2, .int x2)]), K2 x0 x1 x2 z = some (r, z') → W p l e rmX19_netOfHost s m args below meth c H locs 0 0 Q (F0 m 2 ls [])) (x0 : Nat) (x1 : Int32) (x2 : Int32) (hx0 : (19, x0) ∈ ids) {z : St} {H : Heap} {locs : List Loc} {ls : Array Slot} (hr : zRep D cy B ids A s.heap z H locs) (hl : lv_has ls 3 [(0, .ref (B 19 x0)), (1, .int x1), (2, .int x2)]) (h : fX19_netOfHost_54 N K2 x0 x1 x2 z = some (r, z')) : W p l e rmX19_netOfHost s m args below meth c H locs 0 0 Q (F0 m 54 ls []) := by
  unfold fX19_netOfHost_54 at h
  obtain ⟨v1, ev1⟩ : ∃ y : Int32, y = (x2 + 1) := ⟨_, rfl⟩
  replace h := zl_sub ev1 h
  refine lv_iinc (v := v1) (lv' := [(2, .int v1), (0, .ref (B 19 x0)), (1, .int x1)]) F.1 F.2.1 dX19_netOfHost_54 hl (k := 2) rfl (by rw [ev1]; rfl) (by decide) rfl (fun ls hl => ?_)
  refine lv_goto (tgt := 2) F.1 F.2.1 dX19_netOfHost_57 (by decide) ?_
  exact hK2 x0 x1 v1 hx0 hr (lv_sub hl [1, 2, 0] rfl) h
def fX19_netOfHost_2b (N : Nat) (K2 : Nat → Int32 → Int32 → St → Option (Int32 × St)) (x0 : Nat) (x1 : Int32) (x2 : Int32) (z : St) : Option (Int32 × St) := if (zgI z 19 19 x0) ≤ x2 then (some ((-1 : Int32), z)) else (zk x2 16 <| zl (zgQ z 186 x0 (Int32.toNatClampNeg x2)) fun y3 => zd y3 fun a4 => if ¬ (zgI z 12 1 a4) = 0 then (fX19_netOfHost_54 N K2 x0 x1 x2 z) else (zk x2 16 <| zl (zgQ z 186 x0 (Int32.toNatClampNeg x2)) fun y7 => zd y7 fun a8 => zc (fX19_isOwn N x0 a8 x1 z) fun r9 z10 => if r9 = 0 then (fX19_netOfHost_54 N K2 x0 x1 x2 z10) else (zk x2 16 <| zl (zgQ z10 186 x0 (Int32.toNatClampNeg x2)) fun y15 => zd y15 fun a16 => zk (0 : Int32) 6 <| zl (zgQ z10 147 a16 (Int32.toNatClampNeg (0 : Int32))) fun y18 => zd y18 fun a19 => zl (zgR z10 18 2 a19) fun y20 => zd y20 fun a21 => some ((zgI z10 16 0 a21), z10))))
def fX19_netOfHost_2 (N : Nat)  : Nat → Nat → Int32 → Int32 → St → Option (Int32 × St)
  | 0 => fun _ _ _ _ => none
  | n + 1 => fX19_netOfHost_2b N (fX19_netOfHost_2 N  n)
set_option maxHeartbeats 4000000 in
set_option maxRecDepth 100000 in
theorem bX19_netOfHost_2 (hst : zSt B ids) (F : zFx p m c cX19_netOfHost 3 s args RX19 D cy B ids A) (hA : ∀ q : Nat, s.heap.size ≤ q → A q) {r : Int32} {z' : St} (E : zEnd p l e rmX19_netOfHost s m args below meth c cX19_netOfHost D cy B ids A Q (some (.int r)) z' .ireturn True) {N : Nat} {K2 : Nat → Int32 → Int32 → St → Option (Int32 × St)} (hK2 : ∀ (x0 : Nat) (x1 : Int32) (x2 : Int32) (hx0 : (19, x0) ∈ ids) {z : St} {H : Heap} {locs : List Loc} {ls : Array Slot} (hr : zRep D cy B ids A s.heap z H locs) (hl : lv_has ls 3 [(0, .ref (B 19 x0)), (1, .int x1), (2, .int x2)]), K2 x0 x1 x2 z = some (r, z') → W p l e rmX19_netOfHost s m args below meth c H locs 0 0 Q (F0 m 2 ls [])) (x0 : Nat) (x1 : Int32) (x2 : Int32) (hx0 : (19, x0) ∈ ids) {z : St} {H : Heap} {locs : List Loc} {ls : Array Slot} (hr : zRep D cy B ids A s.heap z H locs) (hl : lv_has ls 3 [(0, .ref (B 19 x0)), (1, .int x1), (2, .int x2)]) (h : fX19_netOfHost_2b N K2 x0 x1 x2 z = some (r, z')) : W p l e rmX19_netOfHost s m args below meth c H locs 0 0 Q (F0 m 2 ls []) := by
  unfold fX19_netOfHost_2b at h
  refine lv_iload_n F.1 F.2.1 dX19_netOfHost_2 rfl (lv_at hl 2 rfl) ?_
  refine lv_aload_n F.1 F.2.1 dX19_netOfHost_3 rfl (lv_at hl 0 rfl) ?_
  refine gf19_831 F hx0 hr dX19_netOfHost_4 ?_
  refine lv_icmp_ge (tgt := 60) F.1 F.2.1 dX19_netOfHost_7 (by decide) (fun c1 => ?_) (fun c1 => ?_)
  · replace h := zi_t c1 h
    refine lv_iconst (v := (-1 : Int32)) F.1 F.2.1 dX19_netOfHost_60 (by decide) ?_
    obtain ⟨rfl, rfl⟩ := zret h
    exact E _ _ _ _ dX19_netOfHost_61 trivial hr
  · replace h := zi_f c1 h
    refine lv_aload_n F.1 F.2.1 dX19_netOfHost_10 rfl (lv_at hl 0 rfl) ?_
    refine gf19_114 F hx0 hr dX19_netOfHost_11 ?_
    refine lv_iload_n F.1 F.2.1 dX19_netOfHost_14 rfl (lv_at hl 2 rfl) ?_
    replace h := zk_some h
    obtain ⟨c2, h⟩ := h
    refine zr_aaldv (k := 186) (by decide) rfl rfl (zlen_d (by decide)) F (zal_a F hx0 (j := 18) rfl) hr dX19_netOfHost_15 c2 (fun y3 ey3 => ?_)
    replace h := zl_sub ey3 h
    have hy3 := zal_q hr (zal_a F hx0 (j := 18) rfl) rfl ey3
    clear ey3
    replace h := zd_some h
    obtain ⟨a4, rfl, h⟩ := h
    refine gf19_298 F (hy3 _ rfl) hr dX19_netOfHost_16 ?_
    refine lv_if_ne (tgt := 54) F.1 F.2.1 dX19_netOfHost_19 (by decide) (fun c5 => ?_) (fun c5 => ?_)
    · replace h := zi_t c5 h
      exact bX19_netOfHost_54 hst F hA E hK2 x0 x1 x2 hx0 hr (lv_sub hl [0, 1, 2] rfl) h
    · replace h := zi_f (fun q => q c5) h
      refine lv_aload_n F.1 F.2.1 dX19_netOfHost_22 rfl (lv_at hl 0 rfl) ?_
      refine lv_aload_n F.1 F.2.1 dX19_netOfHost_23 rfl (lv_at hl 0 rfl) ?_
      refine gf19_114 F hx0 hr dX19_netOfHost_24 ?_
      refine lv_iload_n F.1 F.2.1 dX19_netOfHost_27 rfl (lv_at hl 2 rfl) ?_
      replace h := zk_some h
      obtain ⟨c6, h⟩ := h
      refine zr_aaldv (k := 186) (by decide) rfl rfl (zlen_d (by decide)) F (zal_a F hx0 (j := 18) rfl) hr dX19_netOfHost_28 c6 (fun y7 ey7 => ?_)
      replace h := zl_sub ey7 h
      have hy7 := zal_q hr (zal_a F hx0 (j := 18) rfl) rfl ey7
      clear ey7
      refine lv_iload_n F.1 F.2.1 dX19_netOfHost_29 rfl (lv_at hl 1 rfl) ?_
      replace h := zd_some h
      obtain ⟨a8, rfl, h⟩ := h
      replace h := zc_some h
      obtain ⟨r9, z10, hc11, h⟩ := h
      refine zr_calli (zrun_V (As := [.ref (B 12 a8), .int x1]) (rest := []) zq_2627 zq_2629 zs_X19_isOwn zq_2630 zq_4 hdX19_isOwn (by decide) (T := TX19) (N := 32) rfl (okX19_isOwn l D cy B ids hst N x0 hx0 a8 (hy7 _ rfl) x1  hr.2.2 hc11) F hr hx0 hl.1 rfl (by decide) dX19_netOfHost_30 rfl rfl hroX19_netOfHost_X19_isOwn ⟨Nat.zero_le _, Nat.zero_le _⟩) F hA hr (fun H locs hw12 hr => ?_)
      clear hc11
      refine lv_if_eq (tgt := 54) F.1 F.2.1 dX19_netOfHost_33 (by decide) (fun c13 => ?_) (fun c13 => ?_)
      · replace h := zi_t c13 h
        exact bX19_netOfHost_54 hst F hA E hK2 x0 x1 x2 hx0 hr (lv_sub hl [0, 1, 2] rfl) h
      · replace h := zi_f c13 h
        refine lv_aload_n F.1 F.2.1 dX19_netOfHost_36 rfl (lv_at hl 0 rfl) ?_
        refine gf19_114 F hx0 hr dX19_netOfHost_37 ?_
        refine lv_iload_n F.1 F.2.1 dX19_netOfHost_40 rfl (lv_at hl 2 rfl) ?_
        replace h := zk_some h
        obtain ⟨c14, h⟩ := h
        refine zr_aaldv (k := 186) (by decide) rfl rfl (zlen_d (by decide)) F (zal_a F hx0 (j := 18) rfl) hr dX19_netOfHost_41 c14 (fun y15 ey15 => ?_)
        replace h := zl_sub ey15 h
        have hy15 := zal_q hr (zal_a F hx0 (j := 18) rfl) rfl ey15
        clear ey15
        replace h := zd_some h
        obtain ⟨a16, rfl, h⟩ := h
        refine gf19_276 F (hy15 _ rfl) hr dX19_netOfHost_42 ?_
        refine lv_iconst (v := (0 : Int32)) F.1 F.2.1 dX19_netOfHost_45 (by decide) ?_
        replace h := zk_some h
        obtain ⟨c17, h⟩ := h
        refine zr_aaldv (k := 147) (by decide) rfl rfl (zlen_d (by decide)) F (zal_a F (hy15 _ rfl) (j := 2) rfl) hr dX19_netOfHost_46 c17 (fun y18 ey18 => ?_)
        replace h := zl_sub ey18 h
        have hy18 := zal_q hr (zal_a F (hy15 _ rfl) (j := 2) rfl) rfl ey18
        clear ey18
        replace h := zd_some h
        obtain ⟨a19, rfl, h⟩ := h
        refine gf19_149 F (hy18 _ rfl) hr dX19_netOfHost_47 (fun y20 ey20 => ?_)
        replace h := zl_sub ey20 h
        have hy20 := zal_g hr (hy18 _ rfl) (j := 2) rfl ey20
        clear ey20
        replace h := zd_some h
        obtain ⟨a21, rfl, h⟩ := h
        refine gf19_181 F (hy20 _ rfl) hr dX19_netOfHost_50 ?_
        obtain ⟨rfl, rfl⟩ := zret h
        exact E _ _ _ _ dX19_netOfHost_53 trivial hr
theorem lX19_netOfHost_2 (hst : zSt B ids) (F : zFx p m c cX19_netOfHost 3 s args RX19 D cy B ids A) (hA : ∀ q : Nat, s.heap.size ≤ q → A q) {r : Int32} {z' : St} (E : zEnd p l e rmX19_netOfHost s m args below meth c cX19_netOfHost D cy B ids A Q (some (.int r)) z' .ireturn True) {N : Nat}  : ∀ (n : Nat) (x0 : Nat) (x1 : Int32) (x2 : Int32) (hx0 : (19, x0) ∈ ids) {z : St} {H : Heap} {locs : List Loc} {ls : Array Slot} (hr : zRep D cy B ids A s.heap z H locs) (hl : lv_has ls 3 [(0, .ref (B 19 x0)), (1, .int x1), (2, .int x2)]), fX19_netOfHost_2 N  n x0 x1 x2 z = some (r, z') → W p l e rmX19_netOfHost s m args below meth c H locs 0 0 Q (F0 m 2 ls []) := by
  intro n
  induction n with
  | zero => intro x0 x1 x2 hx0 z H locs ls hr hl h; cases h
  | succ n ih => intro x0 x1 x2 hx0 z H locs ls hr hl h; exact bX19_netOfHost_2 hst F hA E ih x0 x1 x2 hx0 hr hl h
def fX19_netOfHost (N : Nat)  (x0 : Nat) (x1 : Int32) (z : St) : Option (Int32 × St) := fX19_netOfHost_2 N N x0 x1 (0 : Int32) z
set_option maxHeartbeats 4000000 in
set_option maxRecDepth 100000 in
theorem bX19_netOfHost_0 (hst : zSt B ids) (F : zFx p m c cX19_netOfHost 3 s args RX19 D cy B ids A) (hA : ∀ q : Nat, s.heap.size ≤ q → A q) {r : Int32} {z' : St} (E : zEnd p l e rmX19_netOfHost s m args below meth c cX19_netOfHost D cy B ids A Q (some (.int r)) z' .ireturn True) {N : Nat}  (x0 : Nat) (x1 : Int32) (hx0 : (19, x0) ∈ ids) {z : St} {H : Heap} {locs : List Loc} {ls : Array Slot} (hr : zRep D cy B ids A s.heap z H locs) (hl : lv_has ls 3 [(0, .ref (B 19 x0)), (1, .int x1)]) (h : fX19_netOfHost N x0 x1 z = some (r, z')) : W p l e rmX19_netOfHost s m args below meth c H locs 0 0 Q (F0 m 0 ls []) := by
  unfold fX19_netOfHost at h
  refine lv_iconst (v := (0 : Int32)) F.1 F.2.1 dX19_netOfHost_0 (by decide) ?_
  refine lv_istore_n (lv' := [(2, .int (0 : Int32)), (0, .ref (B 19 x0)), (1, .int x1)]) F.1 F.2.1 dX19_netOfHost_1 rfl hl (by decide) rfl (fun ls hl => ?_)
  exact lX19_netOfHost_2 hst F hA E  _ x0 x1 (0 : Int32) hx0 hr (lv_sub hl [1, 2, 0] rfl) h
end SX19_netOfHost
set_option maxRecDepth 100000 in
theorem okX19_netOfHost (l : Launch) (D : va_G) (cy : Nat → ClassId) (B : Nat → Nat → Nat) (ids : List (Nat × Nat)) (hst : zSt B ids) (N : Nat) (x0 : Nat) (hx0 : (19, x0) ∈ ids) (x1 : Int32) {z : St} {r : Int32} {z' : St} (hW : zWf ids z) (h : fX19_netOfHost N x0 x1 z = some (r, z')) : zM l yX19_netOfHost (zws yX19_netOfHost cX19_netOfHost 3 (some .int)) rmX19_netOfHost D cy B ids [.ref (B 19 x0), .int x1] (some (.int r)) True z z' :=
  zM_of hst hW (by decide +kernel) (Nat.le_of_ble_eq_true rfl) (fun p e s m args below meth c A ls F hA hret hlocks hr hl => bX19_netOfHost_0 hst F hA (zEnd_i F hret hlocks) x0 x1 hx0 hr hl h)
abbrev rmX19_isLate : Room := { frames := 3, cells := 0, slots := 0, locals := 69 }
theorem hdX19_isLate : yX19_isLate.cls ≠ "java/lang/invoke/MethodHandle" ∧ yX19_isLate.cls ≠ "java/lang/invoke/VarHandle" ∧ (parseMethodDescriptor yX19_isLate.desc).map (fun d => d.parameters.length) = some 2 := by decide +kernel
theorem hroX19_isLate_X14_unthanked : rmX14_unthanked.frames + 1 ≤ rmX19_isLate.frames ∧ 8 + (2 + 11) + rmX14_unthanked.locals ≤ rmX19_isLate.locals := by decide
theorem hroX19_isLate_X19_areJoined : rmX19_areJoined.frames + 1 ≤ rmX19_isLate.frames ∧ 8 + (8 + 11) + rmX19_areJoined.locals ≤ rmX19_isLate.locals := by decide
theorem hroX19_isLate_X19_netOfHost : rmX19_netOfHost.frames + 1 ≤ rmX19_isLate.frames ∧ 8 + (3 + 11) + rmX19_netOfHost.locals ≤ rmX19_isLate.locals := by decide
section SX19_isLate
variable {p : Program} {l : Launch} {e : Env} {s : State} {m : MethodId} {args : Array Value} {below : List Frame} {meth : Method} {c : Code} {Q : State → Prop} {D : va_G} {cy : Nat → ClassId} {B : Nat → Nat → Nat} {ids : List (Nat × Nat)} {A : Nat → Prop}
def fX19_isLate (N : Nat)  (x0 : Nat) (x1 : Nat) (x2 : Nat) (z : St) : Option (Int32 × St) := if (zgI z 13 3 x2) = 0 then (some ((0 : Int32), z)) else (zl (zgR z 13 4 x2) fun y2 => zd y2 fun a3 => if (zgI z 14 0 a3) < (4 : Int32) then (some ((0 : Int32), z)) else (zl (zgR z 13 4 x2) fun y5 => zd y5 fun a6 => if (zgI z 14 0 a6) = (11 : Int32) then (some ((0 : Int32), z)) else (zl (zgR z 13 4 x2) fun y8 => zd y8 fun a9 => zc (fX14_unthanked N a9 z) fun r10 z11 => if ¬ r10 = 0 then (zl (zgR z11 13 4 x2) fun y15 => zd y15 fun a16 => zc (fX19_netOfHost N x0 (zgI z11 14 3 a16) z11) fun r17 z18 => if r17 = (-1 : Int32) then (some ((0 : Int32), z18)) else (zk (0 : Int32) 6 <| zl (zgQ z18 147 x1 (Int32.toNatClampNeg (0 : Int32))) fun y23 => zd y23 fun a24 => zl (zgR z18 18 2 a24) fun y25 => zd y25 fun a26 => zc (fX19_areJoined N x0 (zgI z18 16 0 a26) r17 z18) fun r27 z28 => if r27 = 0 then (some ((0 : Int32), z28)) else (some ((1 : Int32), z28)))) else (some ((0 : Int32), z11)))))
set_option maxHeartbeats 4000000 in
set_option maxRecDepth 100000 in
theorem bX19_isLate_0 (hst : zSt B ids) (F : zFx p m c cX19_isLate 4 s args RX19 D cy B ids A) (hA : ∀ q : Nat, s.heap.size ≤ q → A q) {r : Int32} {z' : St} (E : zEnd p l e rmX19_isLate s m args below meth c cX19_isLate D cy B ids A Q (some (.int r)) z' .ireturn (r = 0 ∨ r = 1)) {N : Nat}  (x0 : Nat) (x1 : Nat) (x2 : Nat) (hx0 : (19, x0) ∈ ids) (hx1 : (12, x1) ∈ ids) (hx2 : (13, x2) ∈ ids) {z : St} {H : Heap} {locs : List Loc} {ls : Array Slot} (hr : zRep D cy B ids A s.heap z H locs) (hl : lv_has ls 4 [(0, .ref (B 19 x0)), (1, .ref (B 12 x1)), (2, .ref (B 13 x2))]) (h : fX19_isLate N x0 x1 x2 z = some (r, z')) : W p l e rmX19_isLate s m args below meth c H locs 0 0 Q (F0 m 0 ls []) := by
  unfold fX19_isLate at h
  refine lv_aload_n F.1 F.2.1 dX19_isLate_0 rfl (lv_at hl 2 rfl) ?_
  refine gf19_350 F hx2 hr dX19_isLate_1 ?_
  refine lv_if_eq (tgt := 40) F.1 F.2.1 dX19_isLate_4 (by decide) (fun c1 => ?_) (fun c1 => ?_)
  · replace h := zi_t c1 h
    refine lv_iconst (v := (0 : Int32)) F.1 F.2.1 dX19_isLate_40 (by decide) ?_
    obtain ⟨rfl, rfl⟩ := zret h
    exact E _ _ _ _ dX19_isLate_41 (by decide) hr
  · replace h := zi_f c1 h
    refine lv_aload_n F.1 F.2.1 dX19_isLate_7 rfl (lv_at hl 2 rfl) ?_
    refine gf19_344 F hx2 hr dX19_isLate_8 (fun y2 ey2 => ?_)
    replace h := zl_sub ey2 h
    have hy2 := zal_g hr hx2 (j := 4) rfl ey2
    clear ey2
    replace h := zd_some h
    obtain ⟨a3, rfl, h⟩ := h
    refine gf19_353 F (hy2 _ rfl) hr dX19_isLate_11 ?_
    refine lv_iconst (v := (4 : Int32)) F.1 F.2.1 dX19_isLate_14 (by decide) ?_
    refine lv_icmp_lt (tgt := 40) F.1 F.2.1 dX19_isLate_15 (by decide) (fun c4 => ?_) (fun c4 => ?_)
    · replace h := zi_t c4 h
      refine lv_iconst (v := (0 : Int32)) F.1 F.2.1 dX19_isLate_40 (by decide) ?_
      obtain ⟨rfl, rfl⟩ := zret h
      exact E _ _ _ _ dX19_isLate_41 (by decide) hr
    · replace h := zi_f c4 h
      refine lv_aload_n F.1 F.2.1 dX19_isLate_18 rfl (lv_at hl 2 rfl) ?_
      refine gf19_344 F hx2 hr dX19_isLate_19 (fun y5 ey5 => ?_)
      replace h := zl_sub ey5 h
      have hy5 := zal_g hr hx2 (j := 4) rfl ey5
      clear ey5
      replace h := zd_some h
      obtain ⟨a6, rfl, h⟩ := h
      refine gf19_353 F (hy5 _ rfl) hr dX19_isLate_22 ?_
      refine lv_bipush (v := (11 : Int32)) F.1 F.2.1 dX19_isLate_25 (by decide) ?_
      refine lv_icmp_eq (tgt := 40) F.1 F.2.1 dX19_isLate_27 (by decide) (fun c7 => ?_) (fun c7 => ?_)
      · replace h := zi_t c7 h
        refine lv_iconst (v := (0 : Int32)) F.1 F.2.1 dX19_isLate_40 (by decide) ?_
        obtain ⟨rfl, rfl⟩ := zret h
        exact E _ _ _ _ dX19_isLate_41 (by decide) hr
      · replace h := zi_f c7 h
        refine lv_aload_n F.1 F.2.1 dX19_isLate_30 rfl (lv_at hl 2 rfl) ?_
        refine gf19_344 F hx2 hr dX19_isLate_31 (fun y8 ey8 => ?_)
        replace h := zl_sub ey8 h
        have hy8 := zal_g hr hx2 (j := 4) rfl ey8
        clear ey8
        replace h := zd_some h
        obtain ⟨a9, rfl, h⟩ := h
        replace h := zc_some h
        obtain ⟨r10, z11, hc12, h⟩ := h
        refine zr_calli (zrun_VN (As := []) (rest := []) zn_3033 zq_3035 zs_X14_unthanked zq_3036 zq_21 hdX14_unthanked (by decide) (T := TX14) (N := 47) rfl (okX14_unthanked l D cy B ids hst N a9 (hy8 _ rfl) hr.2.2 hc12) F hr (hy8 _ rfl) hl.1 rfl (by decide) dX19_isLate_34 rfl rfl hroX19_isLate_X14_unthanked ⟨Nat.zero_le _, Nat.zero_le _⟩) F hA hr (fun H locs hw13 hr => ?_)
        clear hc12
        refine lv_if_ne (tgt := 42) F.1 F.2.1 dX19_isLate_37 (by decide) (fun c14 => ?_) (fun c14 => ?_)
        · replace h := zi_t c14 h
          refine lv_aload_n F.1 F.2.1 dX19_isLate_42 rfl (lv_at hl 0 rfl) ?_
          refine lv_aload_n F.1 F.2.1 dX19_isLate_43 rfl (lv_at hl 2 rfl) ?_
          refine gf19_344 F hx2 hr dX19_isLate_44 (fun y15 ey15 => ?_)
          replace h := zl_sub ey15 h
          have hy15 := zal_g hr hx2 (j := 4) rfl ey15
          clear ey15
          replace h := zd_some h
          obtain ⟨a16, rfl, h⟩ := h
          refine gf19_361 F (hy15 _ rfl) hr dX19_isLate_47 ?_
          replace h := zc_some h
          obtain ⟨r17, z18, hc19, h⟩ := h
          refine zr_calli (zrun_V (As := [.int (zgI z11 14 3 a16)]) (rest := []) zq_3145 zq_3147 zs_X19_netOfHost zq_3148 zq_4 hdX19_netOfHost (by decide) (T := TX19) (N := 32) rfl (okX19_netOfHost l D cy B ids hst N x0 hx0 (zgI z11 14 3 a16)  hr.2.2 hc19) F hr hx0 hl.1 rfl (by decide) dX19_isLate_50 rfl rfl hroX19_isLate_X19_netOfHost ⟨Nat.zero_le _, Nat.zero_le _⟩) F hA hr (fun H locs hw20 hr => ?_)
          clear hc19
          refine lv_istore_n (lv' := [(3, .int r17), (0, .ref (B 19 x0)), (1, .ref (B 12 x1)), (2, .ref (B 13 x2))]) F.1 F.2.1 dX19_isLate_53 rfl hl (by decide) rfl (fun ls hl => ?_)
          refine lv_iload_n F.1 F.2.1 dX19_isLate_54 rfl (lv_at hl 0 rfl) ?_
          refine lv_iconst (v := (-1 : Int32)) F.1 F.2.1 dX19_isLate_55 (by decide) ?_
          refine lv_icmp_eq (tgt := 83) F.1 F.2.1 dX19_isLate_56 (by decide) (fun c21 => ?_) (fun c21 => ?_)
          · replace h := zi_t c21 h
            refine lv_iconst (v := (0 : Int32)) F.1 F.2.1 dX19_isLate_83 (by decide) ?_
            obtain ⟨rfl, rfl⟩ := zret h
            exact E _ _ _ _ dX19_isLate_84 (by decide) hr
          · replace h := zi_f c21 h
            refine lv_aload_n F.1 F.2.1 dX19_isLate_59 rfl (lv_at hl 1 rfl) ?_
            refine lv_aload_n F.1 F.2.1 dX19_isLate_60 rfl (lv_at hl 2 rfl) ?_
            refine gf19_276 F hx1 hr dX19_isLate_61 ?_
            refine lv_iconst (v := (0 : Int32)) F.1 F.2.1 dX19_isLate_64 (by decide) ?_
            replace h := zk_some h
            obtain ⟨c22, h⟩ := h
            refine zr_aaldv (k := 147) (by decide) rfl rfl (zlen_d (by decide)) F (zal_a F hx1 (j := 2) rfl) hr dX19_isLate_65 c22 (fun y23 ey23 => ?_)
            replace h := zl_sub ey23 h
            have hy23 := zal_q hr (zal_a F hx1 (j := 2) rfl) rfl ey23
            clear ey23
            replace h := zd_some h
            obtain ⟨a24, rfl, h⟩ := h
            refine gf19_149 F (hy23 _ rfl) hr dX19_isLate_66 (fun y25 ey25 => ?_)
            replace h := zl_sub ey25 h
            have hy25 := zal_g hr (hy23 _ rfl) (j := 2) rfl ey25
            clear ey25
            replace h := zd_some h
            obtain ⟨a26, rfl, h⟩ := h
            refine gf19_181 F (hy25 _ rfl) hr dX19_isLate_69 ?_
            refine lv_iload_n F.1 F.2.1 dX19_isLate_72 rfl (lv_at hl 0 rfl) ?_
            replace h := zc_some h
            obtain ⟨r27, z28, hc29, h⟩ := h
            refine zr_calli (zrun_V (As := [.int (zgI z18 16 0 a26), .int r17]) (rest := []) zq_3149 zq_3151 zs_X19_areJoined zq_3152 zq_4 hdX19_areJoined (by decide) (T := TX19) (N := 32) rfl (okX19_areJoined l D cy B ids hst N x0 hx0 (zgI z18 16 0 a26)  r17  hr.2.2 hc29) F hr hx0 hl.1 rfl (by decide) dX19_isLate_73 rfl rfl hroX19_isLate_X19_areJoined ⟨Nat.zero_le _, Nat.zero_le _⟩) F hA hr (fun H locs hw30 hr => ?_)
            clear hc29
            refine lv_if_eq (tgt := 83) F.1 F.2.1 dX19_isLate_76 (by decide) (fun c31 => ?_) (fun c31 => ?_)
            · replace h := zi_t c31 h
              refine lv_iconst (v := (0 : Int32)) F.1 F.2.1 dX19_isLate_83 (by decide) ?_
              obtain ⟨rfl, rfl⟩ := zret h
              exact E _ _ _ _ dX19_isLate_84 (by decide) hr
            · replace h := zi_f c31 h
              refine lv_iconst (v := (1 : Int32)) F.1 F.2.1 dX19_isLate_79 (by decide) ?_
              refine lv_goto (tgt := 84) F.1 F.2.1 dX19_isLate_80 (by decide) ?_
              obtain ⟨rfl, rfl⟩ := zret h
              exact E _ _ _ _ dX19_isLate_84 (by decide) hr
        · replace h := zi_f (fun q => q c14) h
          refine lv_iconst (v := (0 : Int32)) F.1 F.2.1 dX19_isLate_40 (by decide) ?_
          obtain ⟨rfl, rfl⟩ := zret h
          exact E _ _ _ _ dX19_isLate_41 (by decide) hr
end SX19_isLate
set_option maxRecDepth 100000 in
theorem okX19_isLate (l : Launch) (D : va_G) (cy : Nat → ClassId) (B : Nat → Nat → Nat) (ids : List (Nat × Nat)) (hst : zSt B ids) (N : Nat) (x0 : Nat) (hx0 : (19, x0) ∈ ids) (x1 : Nat) (hx1 : (12, x1) ∈ ids) (x2 : Nat) (hx2 : (13, x2) ∈ ids) {z : St} {r : Int32} {z' : St} (hW : zWf ids z) (h : fX19_isLate N x0 x1 x2 z = some (r, z')) : zM l yX19_isLate (zws yX19_isLate cX19_isLate 4 (some .boolean)) rmX19_isLate D cy B ids [.ref (B 19 x0), .ref (B 12 x1), .ref (B 13 x2)] (some (.int r)) (r = 0 ∨ r = 1) z z' :=
  zM_of hst hW (by decide +kernel) (Nat.le_of_ble_eq_true rfl) (fun p e s m args below meth c A ls F hA hret hlocks hr hl => bX19_isLate_0 hst F hA (zEnd_z F hret hlocks) x0 x1 x2 hx0 hx1 hx2 hr hl h)
abbrev rmX19_overdue : Room := { frames := 4, cells := 0, slots := 0, locals := 92 }
theorem hdX19_overdue : yX19_overdue.cls ≠ "java/lang/invoke/MethodHandle" ∧ yX19_overdue.cls ≠ "java/lang/invoke/VarHandle" ∧ (parseMethodDescriptor yX19_overdue.desc).map (fun d => d.parameters.length) = some 0 := by decide +kernel
theorem hroX19_overdue_X19_boundNow : rmX19_boundNow.frames + 1 ≤ rmX19_overdue.frames ∧ 8 + (3 + 11) + rmX19_boundNow.locals ≤ rmX19_overdue.locals := by decide
theorem hroX19_overdue_X19_costAbove : rmX19_costAbove.frames + 1 ≤ rmX19_overdue.frames ∧ 8 + (7 + 11) + rmX19_costAbove.locals ≤ rmX19_overdue.locals := by decide
theorem hroX19_overdue_X19_fromAbove : rmX19_fromAbove.frames + 1 ≤ rmX19_overdue.frames ∧ 8 + (5 + 11) + rmX19_fromAbove.locals ≤ rmX19_overdue.locals := by decide
theorem hroX19_overdue_X19_isLate : rmX19_isLate.frames + 1 ≤ rmX19_overdue.frames ∧ 8 + (4 + 11) + rmX19_isLate.locals ≤ rmX19_overdue.locals := by decide
section SX19_overdue
variable {p : Program} {l : Launch} {e : Env} {s : State} {m : MethodId} {args : Array Value} {below : List Frame} {meth : Method} {c : Code} {Q : State → Prop} {D : va_G} {cy : Nat → ClassId} {B : Nat → Nat → Nat} {ids : List (Nat × Nat)} {A : Nat → Prop}
def fX19_overdue_88 (N : Nat) (K27 : Nat → Int32 → Int32 → St → Option (Int32 × St)) (K54 : Nat → Int32 → Int32 → Int32 → St → Option (Int32 × St)) (x0 : Nat) (x2 : Int32) (x3 : Int32) (s0 : Int32) (s1 : Int32) (z : St) : Option (Int32 × St) := zl (s0 + s1) fun v1 => zl (x3 + 1) fun v2 => K54 x0 v1 x2 v2 z
set_option maxHeartbeats 4000000 in
set_option maxRecDepth 100000 in
theorem bX19_overdue_88 (hst : zSt B ids) (F : zFx p m c cX19_overdue 4 s args RX19 D cy B ids A) (hA : ∀ q : Nat, s.heap.size ≤ q → A q) {r : Int32} {z' : St} (E : zEnd p l e rmX19_overdue s m args below meth c cX19_overdue D cy B ids A Q (some (.int r)) z' .ireturn True) {N : Nat} {K27 : Nat → Int32 → Int32 → St → Option (Int32 × St)} {K54 : Nat → Int32 → Int32 → Int32 → St → Option (Int32 × St)} (hK27 : ∀ (x0 : Nat) (x1 : Int32) (x2 : Int32) (hx0 : (19, x0) ∈ ids) {z : St} {H : Heap} {locs : List Loc} {ls : Array Slot} (hr : zRep D cy B ids A s.heap z H locs) (hl : lv_has ls 4 [(0, .ref (B 19 x0)), (1, .int x1), (2, .int x2)]), K27 x0 x1 x2 z = some (r, z') → W p l e rmX19_overdue s m args below meth c H locs 0 0 Q (F0 m 27 ls [])) (hK54 : ∀ (x0 : Nat) (x1 : Int32) (x2 : Int32) (x3 : Int32) (hx0 : (19, x0) ∈ ids) {z : St} {H : Heap} {locs : List Loc} {ls : Array Slot} (hr : zRep D cy B ids A s.heap z H locs) (hl : lv_has ls 4 [(0, .ref (B 19 x0)), (1, .int x1), (2, .int x2), (3, .int x3)]), K54 x0 x1 x2 x3 z = some (r, z') → W p l e rmX19_overdue s m args below meth c H locs 0 0 Q (F0 m 54 ls [])) (x0 : Nat) (x2 : Int32) (x3 : Int32) (s0 : Int32) (s1 : Int32) (hx0 : (19, x0) ∈ ids) {z : St} {H : Heap} {locs : List Loc} {ls : Array Slot} (hr : zRep D cy B ids A s.heap z H locs) (hl : lv_has ls 4 [(0, .ref (B 19 x0)), (2, .int x2), (3, .int x3)]) (h : fX19_overdue_88 N K27 K54 x0 x2 x3 s0 s1 z = some (r, z')) : W p l e rmX19_overdue s m args below meth c H locs 0 0 Q (F0 m 88 ls [.int s1, .int s0]) := by
  unfold fX19_overdue_88 at h
  refine lv_iadd F.1 F.2.1 dX19_overdue_88 ?_
  refine lv_topi (fun v1 ev1 => ?_)
  replace h := zl_sub ev1 h
  refine lv_istore_n (lv' := [(1, .int v1), (0, .ref (B 19 x0)), (2, .int x2), (3, .int x3)]) F.1 F.2.1 dX19_overdue_89 rfl hl (by decide) rfl (fun ls hl => ?_)
  obtain ⟨v2, ev2⟩ : ∃ y : Int32, y = (x3 + 1) := ⟨_, rfl⟩
  replace h := zl_sub ev2 h
  refine lv_iinc (v := v2) (lv' := [(3, .int v2), (1, .int v1), (0, .ref (B 19 x0)), (2, .int x2)]) F.1 F.2.1 dX19_overdue_90 hl (k := 3) rfl (by rw [ev2]; rfl) (by decide) rfl (fun ls hl => ?_)
  refine lv_goto (tgt := 54) F.1 F.2.1 dX19_overdue_93 (by decide) ?_
  exact hK54 x0 v1 x2 v2 hx0 hr (lv_sub hl [2, 1, 3, 0] rfl) h
def fX19_overdue_145 (N : Nat) (K27 : Nat → Int32 → Int32 → St → Option (Int32 × St)) (x0 : Nat) (x1 : Int32) (x2 : Int32) (z : St) : Option (Int32 × St) := zl (x2 + 1) fun v1 => K27 x0 x1 v1 z
set_option maxHeartbeats 4000000 in
set_option maxRecDepth 100000 in
theorem bX19_overdue_145 (hst : zSt B ids) (F : zFx p m c cX19_overdue 4 s args RX19 D cy B ids A) (hA : ∀ q : Nat, s.heap.size ≤ q → A q) {r : Int32} {z' : St} (E : zEnd p l e rmX19_overdue s m args below meth c cX19_overdue D cy B ids A Q (some (.int r)) z' .ireturn True) {N : Nat} {K27 : Nat → Int32 → Int32 → St → Option (Int32 × St)} (hK27 : ∀ (x0 : Nat) (x1 : Int32) (x2 : Int32) (hx0 : (19, x0) ∈ ids) {z : St} {H : Heap} {locs : List Loc} {ls : Array Slot} (hr : zRep D cy B ids A s.heap z H locs) (hl : lv_has ls 4 [(0, .ref (B 19 x0)), (1, .int x1), (2, .int x2)]), K27 x0 x1 x2 z = some (r, z') → W p l e rmX19_overdue s m args below meth c H locs 0 0 Q (F0 m 27 ls [])) (x0 : Nat) (x1 : Int32) (x2 : Int32) (hx0 : (19, x0) ∈ ids) {z : St} {H : Heap} {locs : List Loc} {ls : Array Slot} (hr : zRep D cy B ids A s.heap z H locs) (hl : lv_has ls 4 [(0, .ref (B 19 x0)), (1, .int x1), (2, .int x2)]) (h : fX19_overdue_145 N K27 x0 x1 x2 z = some (r, z')) : W p l e rmX19_overdue s m args below meth c H locs 0 0 Q (F0 m 145 ls []) := by
  unfold fX19_overdue_145 at h
  obtain ⟨v1, ev1⟩ : ∃ y : Int32, y = (x2 + 1) := ⟨_, rfl⟩
  replace h := zl_sub ev1 h
  refine lv_iinc (v := v1) (lv' := [(2, .int v1), (0, .ref (B 19 x0)), (1, .int x1)]) F.1 F.2.1 dX19_overdue_145 hl (k := 2) rfl (by rw [ev1]; rfl) (by decide) rfl (fun ls hl => ?_)
  refine lv_goto (tgt := 27) F.1 F.2.1 dX19_overdue_148 (by decide) ?_
  exact hK27 x0 x1 v1 hx0 hr (lv_sub hl [1, 2, 0] rfl) h
def fX19_overdue_54b (N : Nat) (K27 : Nat → Int32 → Int32 → St → Option (Int32 × St)) (K54 : Nat → Int32 → Int32 → Int32 → St → Option (Int32 × St)) (x0 : Nat) (x1 : Int32) (x2 : Int32) (x3 : Int32) (z : St) : Option (Int32 × St) := if (zgI z 19 21 x0) ≤ x3 then (fX19_overdue_145 N K27 x0 x1 x2 z) else (zk x2 16 <| zl (zgQ z 186 x0 (Int32.toNatClampNeg x2)) fun y3 => zd y3 fun a4 => zk x3 24 <| zc (fX19_costAbove N x0 x2 x3 z) fun r6 z7 => if (zgA z 155 a4 (Int32.toNatClampNeg x3)) = r6 then (fX19_overdue_88 N K27 K54 x0 x2 x3 x1 (0 : Int32) z7) else (fX19_overdue_88 N K27 K54 x0 x2 x3 x1 (1 : Int32) z7))
def fX19_overdue_54 (N : Nat) (K27 : Nat → Int32 → Int32 → St → Option (Int32 × St)) : Nat → Nat → Int32 → Int32 → Int32 → St → Option (Int32 × St)
  | 0 => fun _ _ _ _ _ => none
  | n + 1 => fX19_overdue_54b N K27 (fX19_overdue_54 N K27 n)
set_option maxHeartbeats 4000000 in
set_option maxRecDepth 100000 in
theorem bX19_overdue_54 (hst : zSt B ids) (F : zFx p m c cX19_overdue 4 s args RX19 D cy B ids A) (hA : ∀ q : Nat, s.heap.size ≤ q → A q) {r : Int32} {z' : St} (E : zEnd p l e rmX19_overdue s m args below meth c cX19_overdue D cy B ids A Q (some (.int r)) z' .ireturn True) {N : Nat} {K27 : Nat → Int32 → Int32 → St → Option (Int32 × St)} {K54 : Nat → Int32 → Int32 → Int32 → St → Option (Int32 × St)} (hK27 : ∀ (x0 : Nat) (x1 : Int32) (x2 : Int32) (hx0 : (19, x0) ∈ ids) {z : St} {H : Heap} {locs : List Loc} {ls : Array Slot} (hr : zRep D cy B ids A s.heap z H locs) (hl : lv_has ls 4 [(0, .ref (B 19 x0)), (1, .int x1), (2, .int x2)]), K27 x0 x1 x2 z = some (r, z') → W p l e rmX19_overdue s m args below meth c H locs 0 0 Q (F0 m 27 ls [])) (hK54 : ∀ (x0 : Nat) (x1 : Int32) (x2 : Int32) (x3 : Int32) (hx0 : (19, x0) ∈ ids) {z : St} {H : Heap} {locs : List Loc} {ls : Array Slot} (hr : zRep D cy B ids A s.heap z H locs) (hl : lv_has ls 4 [(0, .ref (B 19 x0)), (1, .int x1), (2, .int x2), (3, .int x3)]), K54 x0 x1 x2 x3 z = some (r, z') → W p l e rmX19_overdue s m args below meth c H locs 0 0 Q (F0 m 54 ls [])) (x0 : Nat) (x1 : Int32) (x2 : Int32) (x3 : Int32) (hx0 : (19, x0) ∈ ids) {z : St} {H : Heap} {locs : List Loc} {ls : Array Slot} (hr : zRep D cy B ids A s.heap z H locs) (hl : lv_has ls 4 [(0, .ref (B 19 x0)), (1, .int x1), (2, .int x2), (3, .int x3)]) (h : fX19_overdue_54b N K27 K54 x0 x1 x2 x3 z = some (r, z')) : W p l e rmX19_overdue s m args below meth c H locs 0 0 Q (F0 m 54 ls []) := by
  unfold fX19_overdue_54b at h
  refine lv_iload_n F.1 F.2.1 dX19_overdue_54 rfl (lv_at hl 3 rfl) ?_
  refine lv_aload_n F.1 F.2.1 dX19_overdue_55 rfl (lv_at hl 0 rfl) ?_
  refine gf19_270 F hx0 hr dX19_overdue_56 ?_
  refine lv_icmp_ge (tgt := 96) F.1 F.2.1 dX19_overdue_59 (by decide) (fun c1 => ?_) (fun c1 => ?_)
  · replace h := zi_t c1 h
    refine lv_goto (tgt := 145) F.1 F.2.1 dX19_overdue_96 (by decide) ?_
    exact bX19_overdue_145 hst F hA E hK27 x0 x1 x2 hx0 hr (lv_sub hl [0, 1, 2] rfl) h
  · replace h := zi_f c1 h
    refine lv_iload_n F.1 F.2.1 dX19_overdue_62 rfl (lv_at hl 1 rfl) ?_
    refine lv_aload_n F.1 F.2.1 dX19_overdue_63 rfl (lv_at hl 0 rfl) ?_
    refine gf19_114 F hx0 hr dX19_overdue_64 ?_
    refine lv_iload_n F.1 F.2.1 dX19_overdue_67 rfl (lv_at hl 2 rfl) ?_
    replace h := zk_some h
    obtain ⟨c2, h⟩ := h
    refine zr_aaldv (k := 186) (by decide) rfl rfl (zlen_d (by decide)) F (zal_a F hx0 (j := 18) rfl) hr dX19_overdue_68 c2 (fun y3 ey3 => ?_)
    replace h := zl_sub ey3 h
    have hy3 := zal_q hr (zal_a F hx0 (j := 18) rfl) rfl ey3
    clear ey3
    replace h := zd_some h
    obtain ⟨a4, rfl, h⟩ := h
    refine gf19_301 F (hy3 _ rfl) hr dX19_overdue_69 ?_
    refine lv_iload_n F.1 F.2.1 dX19_overdue_72 rfl (lv_at hl 3 rfl) ?_
    replace h := zk_some h
    obtain ⟨c5, h⟩ := h
    refine zr_iald (k := 155) (by decide) rfl (by decide) F (zal_a F (hy3 _ rfl) (j := 25) rfl) hr dX19_overdue_73 c5 ?_
    refine lv_aload_n F.1 F.2.1 dX19_overdue_74 rfl (lv_at hl 0 rfl) ?_
    refine lv_iload_n F.1 F.2.1 dX19_overdue_75 rfl (lv_at hl 2 rfl) ?_
    refine lv_iload_n F.1 F.2.1 dX19_overdue_76 rfl (lv_at hl 3 rfl) ?_
    replace h := zc_some h
    obtain ⟨r6, z7, hc8, h⟩ := h
    refine zr_calli (zrun_V (As := [.int x2, .int x3]) (rest := [.int (zgA z 155 a4 (Int32.toNatClampNeg x3)), .int x1]) zq_3113 zq_3115 zs_X19_costAbove zq_3116 zq_4 hdX19_costAbove (by decide) (T := TX19) (N := 32) rfl (okX19_costAbove l D cy B ids hst N x0 hx0 x2  x3  hr.2.2 hc8) F hr hx0 hl.1 rfl (Nat.le_of_ble_eq_true rfl) dX19_overdue_77 rfl rfl hroX19_overdue_X19_costAbove ⟨Nat.zero_le _, Nat.zero_le _⟩) F hA hr (fun H locs hw9 hr => ?_)
    clear hc8
    refine lv_icmp_eq (tgt := 87) F.1 F.2.1 dX19_overdue_80 (by decide) (fun c10 => ?_) (fun c10 => ?_)
    · replace h := zi_t c10 h
      refine lv_iconst (v := (0 : Int32)) F.1 F.2.1 dX19_overdue_87 (by decide) ?_
      exact bX19_overdue_88 hst F hA E hK27 hK54 x0 x2 x3 x1 (0 : Int32) hx0 hr (lv_sub hl [0, 2, 3] rfl) h
    · replace h := zi_f c10 h
      refine lv_iconst (v := (1 : Int32)) F.1 F.2.1 dX19_overdue_83 (by decide) ?_
      refine lv_goto (tgt := 88) F.1 F.2.1 dX19_overdue_84 (by decide) ?_
      exact bX19_overdue_88 hst F hA E hK27 hK54 x0 x2 x3 x1 (1 : Int32) hx0 hr (lv_sub hl [0, 2, 3] rfl) h
theorem lX19_overdue_54 (hst : zSt B ids) (F : zFx p m c cX19_overdue 4 s args RX19 D cy B ids A) (hA : ∀ q : Nat, s.heap.size ≤ q → A q) {r : Int32} {z' : St} (E : zEnd p l e rmX19_overdue s m args below meth c cX19_overdue D cy B ids A Q (some (.int r)) z' .ireturn True) {N : Nat} {K27 : Nat → Int32 → Int32 → St → Option (Int32 × St)} (hK27 : ∀ (x0 : Nat) (x1 : Int32) (x2 : Int32) (hx0 : (19, x0) ∈ ids) {z : St} {H : Heap} {locs : List Loc} {ls : Array Slot} (hr : zRep D cy B ids A s.heap z H locs) (hl : lv_has ls 4 [(0, .ref (B 19 x0)), (1, .int x1), (2, .int x2)]), K27 x0 x1 x2 z = some (r, z') → W p l e rmX19_overdue s m args below meth c H locs 0 0 Q (F0 m 27 ls [])) : ∀ (n : Nat) (x0 : Nat) (x1 : Int32) (x2 : Int32) (x3 : Int32) (hx0 : (19, x0) ∈ ids) {z : St} {H : Heap} {locs : List Loc} {ls : Array Slot} (hr : zRep D cy B ids A s.heap z H locs) (hl : lv_has ls 4 [(0, .ref (B 19 x0)), (1, .int x1), (2, .int x2), (3, .int x3)]), fX19_overdue_54 N K27 n x0 x1 x2 x3 z = some (r, z') → W p l e rmX19_overdue s m args below meth c H locs 0 0 Q (F0 m 54 ls []) := by
  intro n
  induction n with
  | zero => intro x0 x1 x2 x3 hx0 z H locs ls hr hl h; cases h
  | succ n ih => intro x0 x1 x2 x3 hx0 z H locs ls hr hl h; exact bX19_overdue_54 hst F hA E hK27 ih x0 x1 x2 x3 hx0 hr hl h
def fX19_overdue_137 (N : Nat) (K27 : Nat → Int32 → Int32 → St → Option (Int32 × St)) (K101 : Nat → Int32 → Int32 → Int32 → St → Option (Int32 × St)) (x0 : Nat) (x2 : Int32) (x3 : Int32) (s0 : Int32) (s1 : Int32) (z : St) : Option (Int32 × St) := zl (s0 + s1) fun v1 => zl (x3 + 1) fun v2 => K101 x0 v1 x2 v2 z
set_option maxHeartbeats 4000000 in
set_option maxRecDepth 100000 in
theorem bX19_overdue_137 (hst : zSt B ids) (F : zFx p m c cX19_overdue 4 s args RX19 D cy B ids A) (hA : ∀ q : Nat, s.heap.size ≤ q → A q) {r : Int32} {z' : St} (E : zEnd p l e rmX19_overdue s m args below meth c cX19_overdue D cy B ids A Q (some (.int r)) z' .ireturn True) {N : Nat} {K27 : Nat → Int32 → Int32 → St → Option (Int32 × St)} {K101 : Nat → Int32 → Int32 → Int32 → St → Option (Int32 × St)} (hK27 : ∀ (x0 : Nat) (x1 : Int32) (x2 : Int32) (hx0 : (19, x0) ∈ ids) {z : St} {H : Heap} {locs : List Loc} {ls : Array Slot} (hr : zRep D cy B ids A s.heap z H locs) (hl : lv_has ls 4 [(0, .ref (B 19 x0)), (1, .int x1), (2, .int x2)]), K27 x0 x1 x2 z = some (r, z') → W p l e rmX19_overdue s m args below meth c H locs 0 0 Q (F0 m 27 ls [])) (hK101 : ∀ (x0 : Nat) (x1 : Int32) (x2 : Int32) (x3 : Int32) (hx0 : (19, x0) ∈ ids) {z : St} {H : Heap} {locs : List Loc} {ls : Array Slot} (hr : zRep D cy B ids A s.heap z H locs) (hl : lv_has ls 4 [(0, .ref (B 19 x0)), (1, .int x1), (2, .int x2), (3, .int x3)]), K101 x0 x1 x2 x3 z = some (r, z') → W p l e rmX19_overdue s m args below meth c H locs 0 0 Q (F0 m 101 ls [])) (x0 : Nat) (x2 : Int32) (x3 : Int32) (s0 : Int32) (s1 : Int32) (hx0 : (19, x0) ∈ ids) {z : St} {H : Heap} {locs : List Loc} {ls : Array Slot} (hr : zRep D cy B ids A s.heap z H locs) (hl : lv_has ls 4 [(0, .ref (B 19 x0)), (2, .int x2), (3, .int x3)]) (h : fX19_overdue_137 N K27 K101 x0 x2 x3 s0 s1 z = some (r, z')) : W p l e rmX19_overdue s m args below meth c H locs 0 0 Q (F0 m 137 ls [.int s1, .int s0]) := by
  unfold fX19_overdue_137 at h
  refine lv_iadd F.1 F.2.1 dX19_overdue_137 ?_
  refine lv_topi (fun v1 ev1 => ?_)
  replace h := zl_sub ev1 h
  refine lv_istore_n (lv' := [(1, .int v1), (0, .ref (B 19 x0)), (2, .int x2), (3, .int x3)]) F.1 F.2.1 dX19_overdue_138 rfl hl (by decide) rfl (fun ls hl => ?_)
  obtain ⟨v2, ev2⟩ : ∃ y : Int32, y = (x3 + 1) := ⟨_, rfl⟩
  replace h := zl_sub ev2 h
  refine lv_iinc (v := v2) (lv' := [(3, .int v2), (1, .int v1), (0, .ref (B 19 x0)), (2, .int x2)]) F.1 F.2.1 dX19_overdue_139 hl (k := 3) rfl (by rw [ev2]; rfl) (by decide) rfl (fun ls hl => ?_)
  refine lv_goto (tgt := 101) F.1 F.2.1 dX19_overdue_142 (by decide) ?_
  exact hK101 x0 v1 x2 v2 hx0 hr (lv_sub hl [2, 1, 3, 0] rfl) h
def fX19_overdue_101b (N : Nat) (K27 : Nat → Int32 → Int32 → St → Option (Int32 × St)) (K101 : Nat → Int32 → Int32 → Int32 → St → Option (Int32 × St)) (x0 : Nat) (x1 : Int32) (x2 : Int32) (x3 : Int32) (z : St) : Option (Int32 × St) := if (6 : Int32) ≤ x3 then (fX19_overdue_145 N K27 x0 x1 x2 z) else (zk x2 16 <| zl (zgQ z 186 x0 (Int32.toNatClampNeg x2)) fun y3 => zk x2 16 <| zl (zgQ z 186 x0 (Int32.toNatClampNeg x2)) fun y5 => zd y5 fun a6 => zk x3 6 <| zl (zgQ z 158 a6 (Int32.toNatClampNeg x3)) fun y8 => zd y3 fun a9 => zd y8 fun a10 => zc (fX19_isLate N x0 a9 a10 z) fun r11 z12 => if r11 = 0 then (fX19_overdue_137 N K27 K101 x0 x2 x3 x1 (0 : Int32) z12) else (fX19_overdue_137 N K27 K101 x0 x2 x3 x1 (1 : Int32) z12))
def fX19_overdue_101 (N : Nat) (K27 : Nat → Int32 → Int32 → St → Option (Int32 × St)) : Nat → Nat → Int32 → Int32 → Int32 → St → Option (Int32 × St)
  | 0 => fun _ _ _ _ _ => none
  | n + 1 => fX19_overdue_101b N K27 (fX19_overdue_101 N K27 n)
set_option maxHeartbeats 4000000 in
set_option maxRecDepth 100000 in
theorem bX19_overdue_101 (hst : zSt B ids) (F : zFx p m c cX19_overdue 4 s args RX19 D cy B ids A) (hA : ∀ q : Nat, s.heap.size ≤ q → A q) {r : Int32} {z' : St} (E : zEnd p l e rmX19_overdue s m args below meth c cX19_overdue D cy B ids A Q (some (.int r)) z' .ireturn True) {N : Nat} {K27 : Nat → Int32 → Int32 → St → Option (Int32 × St)} {K101 : Nat → Int32 → Int32 → Int32 → St → Option (Int32 × St)} (hK27 : ∀ (x0 : Nat) (x1 : Int32) (x2 : Int32) (hx0 : (19, x0) ∈ ids) {z : St} {H : Heap} {locs : List Loc} {ls : Array Slot} (hr : zRep D cy B ids A s.heap z H locs) (hl : lv_has ls 4 [(0, .ref (B 19 x0)), (1, .int x1), (2, .int x2)]), K27 x0 x1 x2 z = some (r, z') → W p l e rmX19_overdue s m args below meth c H locs 0 0 Q (F0 m 27 ls [])) (hK101 : ∀ (x0 : Nat) (x1 : Int32) (x2 : Int32) (x3 : Int32) (hx0 : (19, x0) ∈ ids) {z : St} {H : Heap} {locs : List Loc} {ls : Array Slot} (hr : zRep D cy B ids A s.heap z H locs) (hl : lv_has ls 4 [(0, .ref (B 19 x0)), (1, .int x1), (2, .int x2), (3, .int x3)]), K101 x0 x1 x2 x3 z = some (r, z') → W p l e rmX19_overdue s m args below meth c H locs 0 0 Q (F0 m 101 ls [])) (x0 : Nat) (x1 : Int32) (x2 : Int32) (x3 : Int32) (hx0 : (19, x0) ∈ ids) {z : St} {H : Heap} {locs : List Loc} {ls : Array Slot} (hr : zRep D cy B ids A s.heap z H locs) (hl : lv_has ls 4 [(0, .ref (B 19 x0)), (1, .int x1), (2, .int x2), (3, .int x3)]) (h : fX19_overdue_101b N K27 K101 x0 x1 x2 x3 z = some (r, z')) : W p l e rmX19_overdue s m args below meth c H locs 0 0 Q (F0 m 101 ls []) := by
  unfold fX19_overdue_101b at h
  refine lv_iload_n F.1 F.2.1 dX19_overdue_101 rfl (lv_at hl 3 rfl) ?_
  refine lv_bipush (v := (6 : Int32)) F.1 F.2.1 dX19_overdue_102 (by decide) ?_
  refine lv_icmp_ge (tgt := 145) F.1 F.2.1 dX19_overdue_104 (by decide) (fun c1 => ?_) (fun c1 => ?_)
  · replace h := zi_t c1 h
    exact bX19_overdue_145 hst F hA E hK27 x0 x1 x2 hx0 hr (lv_sub hl [0, 1, 2] rfl) h
  · replace h := zi_f c1 h
    refine lv_iload_n F.1 F.2.1 dX19_overdue_107 rfl (lv_at hl 1 rfl) ?_
    refine lv_aload_n F.1 F.2.1 dX19_overdue_108 rfl (lv_at hl 0 rfl) ?_
    refine lv_aload_n F.1 F.2.1 dX19_overdue_109 rfl (lv_at hl 0 rfl) ?_
    refine gf19_114 F hx0 hr dX19_overdue_110 ?_
    refine lv_iload_n F.1 F.2.1 dX19_overdue_113 rfl (lv_at hl 2 rfl) ?_
    replace h := zk_some h
    obtain ⟨c2, h⟩ := h
    refine zr_aaldv (k := 186) (by decide) rfl rfl (zlen_d (by decide)) F (zal_a F hx0 (j := 18) rfl) hr dX19_overdue_114 c2 (fun y3 ey3 => ?_)
    replace h := zl_sub ey3 h
    have hy3 := zal_q hr (zal_a F hx0 (j := 18) rfl) rfl ey3
    clear ey3
    refine lv_aload_n F.1 F.2.1 dX19_overdue_115 rfl (lv_at hl 0 rfl) ?_
    refine gf19_114 F hx0 hr dX19_overdue_116 ?_
    refine lv_iload_n F.1 F.2.1 dX19_overdue_119 rfl (lv_at hl 2 rfl) ?_
    replace h := zk_some h
    obtain ⟨c4, h⟩ := h
    refine zr_aaldv (k := 186) (by decide) rfl rfl (zlen_d (by decide)) F (zal_a F hx0 (j := 18) rfl) hr dX19_overdue_120 c4 (fun y5 ey5 => ?_)
    replace h := zl_sub ey5 h
    have hy5 := zal_q hr (zal_a F hx0 (j := 18) rfl) rfl ey5
    clear ey5
    replace h := zd_some h
    obtain ⟨a6, rfl, h⟩ := h
    refine gf19_340 F (hy5 _ rfl) hr dX19_overdue_121 ?_
    refine lv_iload_n F.1 F.2.1 dX19_overdue_124 rfl (lv_at hl 3 rfl) ?_
    replace h := zk_some h
    obtain ⟨c7, h⟩ := h
    refine zr_aaldv (k := 158) (by decide) rfl rfl (zlen_d (by decide)) F (zal_a F (hy5 _ rfl) (j := 28) rfl) hr dX19_overdue_125 c7 (fun y8 ey8 => ?_)
    replace h := zl_sub ey8 h
    have hy8 := zal_q hr (zal_a F (hy5 _ rfl) (j := 28) rfl) rfl ey8
    clear ey8
    replace h := zd_some h
    obtain ⟨a9, rfl, h⟩ := h
    replace h := zd_some h
    obtain ⟨a10, rfl, h⟩ := h
    replace h := zc_some h
    obtain ⟨r11, z12, hc13, h⟩ := h
    refine zr_calli (zrun_V (As := [.ref (B 12 a9), .ref (B 13 a10)]) (rest := [.int x1]) zq_3141 zq_3143 zs_X19_isLate zq_3144 zq_4 hdX19_isLate (by decide) (T := TX19) (N := 32) rfl (okX19_isLate l D cy B ids hst N x0 hx0 a9 (hy3 _ rfl) a10 (hy8 _ rfl) hr.2.2 hc13) F hr hx0 hl.1 rfl (Nat.le_of_ble_eq_true rfl) dX19_overdue_126 rfl rfl hroX19_overdue_X19_isLate ⟨Nat.zero_le _, Nat.zero_le _⟩) F hA hr (fun H locs hw14 hr => ?_)
    clear hc13
    refine lv_if_eq (tgt := 136) F.1 F.2.1 dX19_overdue_129 (by decide) (fun c15 => ?_) (fun c15 => ?_)
    · replace h := zi_t c15 h
      refine lv_iconst (v := (0 : Int32)) F.1 F.2.1 dX19_overdue_136 (by decide) ?_
      exact bX19_overdue_137 hst F hA E hK27 hK101 x0 x2 x3 x1 (0 : Int32) hx0 hr (lv_sub hl [0, 2, 3] rfl) h
    · replace h := zi_f c15 h
      refine lv_iconst (v := (1 : Int32)) F.1 F.2.1 dX19_overdue_132 (by decide) ?_
      refine lv_goto (tgt := 137) F.1 F.2.1 dX19_overdue_133 (by decide) ?_
      exact bX19_overdue_137 hst F hA E hK27 hK101 x0 x2 x3 x1 (1 : Int32) hx0 hr (lv_sub hl [0, 2, 3] rfl) h
theorem lX19_overdue_101 (hst : zSt B ids) (F : zFx p m c cX19_overdue 4 s args RX19 D cy B ids A) (hA : ∀ q : Nat, s.heap.size ≤ q → A q) {r : Int32} {z' : St} (E : zEnd p l e rmX19_overdue s m args below meth c cX19_overdue D cy B ids A Q (some (.int r)) z' .ireturn True) {N : Nat} {K27 : Nat → Int32 → Int32 → St → Option (Int32 × St)} (hK27 : ∀ (x0 : Nat) (x1 : Int32) (x2 : Int32) (hx0 : (19, x0) ∈ ids) {z : St} {H : Heap} {locs : List Loc} {ls : Array Slot} (hr : zRep D cy B ids A s.heap z H locs) (hl : lv_has ls 4 [(0, .ref (B 19 x0)), (1, .int x1), (2, .int x2)]), K27 x0 x1 x2 z = some (r, z') → W p l e rmX19_overdue s m args below meth c H locs 0 0 Q (F0 m 27 ls [])) : ∀ (n : Nat) (x0 : Nat) (x1 : Int32) (x2 : Int32) (x3 : Int32) (hx0 : (19, x0) ∈ ids) {z : St} {H : Heap} {locs : List Loc} {ls : Array Slot} (hr : zRep D cy B ids A s.heap z H locs) (hl : lv_has ls 4 [(0, .ref (B 19 x0)), (1, .int x1), (2, .int x2), (3, .int x3)]), fX19_overdue_101 N K27 n x0 x1 x2 x3 z = some (r, z') → W p l e rmX19_overdue s m args below meth c H locs 0 0 Q (F0 m 101 ls []) := by
  intro n
  induction n with
  | zero => intro x0 x1 x2 x3 hx0 z H locs ls hr hl h; cases h
  | succ n ih => intro x0 x1 x2 x3 hx0 z H locs ls hr hl h; exact bX19_overdue_101 hst F hA E hK27 ih x0 x1 x2 x3 hx0 hr hl h
def fX19_overdue_27b (N : Nat) (K27 : Nat → Int32 → Int32 → St → Option (Int32 × St)) (x0 : Nat) (x1 : Int32) (x2 : Int32) (z : St) : Option (Int32 × St) := if (zgI z 19 19 x0) ≤ x2 then (some (x1, z)) else (zk x2 16 <| zl (zgQ z 186 x0 (Int32.toNatClampNeg x2)) fun y3 => zd y3 fun a4 => if (zgI z 12 1 a4) = 0 then (fX19_overdue_101 N K27 N x0 x1 x2 (0 : Int32) z) else (zc (fX19_fromAbove N x0 x2 z) fun _ z7 => fX19_overdue_54 N K27 N x0 x1 x2 (0 : Int32) z7))
def fX19_overdue_27 (N : Nat)  : Nat → Nat → Int32 → Int32 → St → Option (Int32 × St)
  | 0 => fun _ _ _ _ => none
  | n + 1 => fX19_overdue_27b N (fX19_overdue_27 N  n)
set_option maxHeartbeats 4000000 in
set_option maxRecDepth 100000 in
theorem bX19_overdue_27 (hst : zSt B ids) (F : zFx p m c cX19_overdue 4 s args RX19 D cy B ids A) (hA : ∀ q : Nat, s.heap.size ≤ q → A q) {r : Int32} {z' : St} (E : zEnd p l e rmX19_overdue s m args below meth c cX19_overdue D cy B ids A Q (some (.int r)) z' .ireturn True) {N : Nat} {K27 : Nat → Int32 → Int32 → St → Option (Int32 × St)} (hK27 : ∀ (x0 : Nat) (x1 : Int32) (x2 : Int32) (hx0 : (19, x0) ∈ ids) {z : St} {H : Heap} {locs : List Loc} {ls : Array Slot} (hr : zRep D cy B ids A s.heap z H locs) (hl : lv_has ls 4 [(0, .ref (B 19 x0)), (1, .int x1), (2, .int x2)]), K27 x0 x1 x2 z = some (r, z') → W p l e rmX19_overdue s m args below meth c H locs 0 0 Q (F0 m 27 ls [])) (x0 : Nat) (x1 : Int32) (x2 : Int32) (hx0 : (19, x0) ∈ ids) {z : St} {H : Heap} {locs : List Loc} {ls : Array Slot} (hr : zRep D cy B ids A s.heap z H locs) (hl : lv_has ls 4 [(0, .ref (B 19 x0)), (1, .int x1), (2, .int x2)]) (h : fX19_overdue_27b N K27 x0 x1 x2 z = some (r, z')) : W p l e rmX19_overdue s m args below meth c H locs 0 0 Q (F0 m 27 ls []) := by
  unfold fX19_overdue_27b at h
  refine lv_iload_n F.1 F.2.1 dX19_overdue_27 rfl (lv_at hl 2 rfl) ?_
  refine lv_aload_n F.1 F.2.1 dX19_overdue_28 rfl (lv_at hl 0 rfl) ?_
  refine gf19_831 F hx0 hr dX19_overdue_29 ?_
  refine lv_icmp_ge (tgt := 151) F.1 F.2.1 dX19_overdue_32 (by decide) (fun c1 => ?_) (fun c1 => ?_)
  · replace h := zi_t c1 h
    refine lv_iload_n F.1 F.2.1 dX19_overdue_151 rfl (lv_at hl 1 rfl) ?_
    obtain ⟨rfl, rfl⟩ := zret h
    exact E _ _ _ _ dX19_overdue_152 trivial hr
  · replace h := zi_f c1 h
    refine lv_aload_n F.1 F.2.1 dX19_overdue_35 rfl (lv_at hl 0 rfl) ?_
    refine gf19_114 F hx0 hr dX19_overdue_36 ?_
    refine lv_iload_n F.1 F.2.1 dX19_overdue_39 rfl (lv_at hl 2 rfl) ?_
    replace h := zk_some h
    obtain ⟨c2, h⟩ := h
    refine zr_aaldv (k := 186) (by decide) rfl rfl (zlen_d (by decide)) F (zal_a F hx0 (j := 18) rfl) hr dX19_overdue_40 c2 (fun y3 ey3 => ?_)
    replace h := zl_sub ey3 h
    have hy3 := zal_q hr (zal_a F hx0 (j := 18) rfl) rfl ey3
    clear ey3
    replace h := zd_some h
    obtain ⟨a4, rfl, h⟩ := h
    refine gf19_298 F (hy3 _ rfl) hr dX19_overdue_41 ?_
    refine lv_if_eq (tgt := 99) F.1 F.2.1 dX19_overdue_44 (by decide) (fun c5 => ?_) (fun c5 => ?_)
    · replace h := zi_t c5 h
      refine lv_iconst (v := (0 : Int32)) F.1 F.2.1 dX19_overdue_99 (by decide) ?_
      refine lv_istore_n (lv' := [(3, .int (0 : Int32)), (0, .ref (B 19 x0)), (1, .int x1), (2, .int x2)]) F.1 F.2.1 dX19_overdue_100 rfl hl (by decide) rfl (fun ls hl => ?_)
      exact lX19_overdue_101 hst F hA E hK27 _ x0 x1 x2 (0 : Int32) hx0 hr (lv_sub hl [1, 2, 3, 0] rfl) h
    · replace h := zi_f c5 h
      refine lv_aload_n F.1 F.2.1 dX19_overdue_47 rfl (lv_at hl 0 rfl) ?_
      refine lv_iload_n F.1 F.2.1 dX19_overdue_48 rfl (lv_at hl 2 rfl) ?_
      replace h := zc_some h
      obtain ⟨r6, z7, hc8, h⟩ := h
      refine zr_callv (zrun_V (As := [.int x2]) (rest := []) zq_3105 zq_3107 zs_X19_fromAbove zq_3108 zq_4 hdX19_fromAbove (by decide) (T := TX19) (N := 32) rfl (okX19_fromAbove l D cy B ids hst N x0 hx0 x2  hr.2.2 hc8) F hr hx0 hl.1 rfl (by decide) dX19_overdue_49 rfl rfl hroX19_overdue_X19_fromAbove ⟨Nat.zero_le _, Nat.zero_le _⟩) F hA hr (fun H locs hw9 hr => ?_)
      clear hc8
      refine lv_iconst (v := (0 : Int32)) F.1 F.2.1 dX19_overdue_52 (by decide) ?_
      refine lv_istore_n (lv' := [(3, .int (0 : Int32)), (0, .ref (B 19 x0)), (1, .int x1), (2, .int x2)]) F.1 F.2.1 dX19_overdue_53 rfl hl (by decide) rfl (fun ls hl => ?_)
      exact lX19_overdue_54 hst F hA E hK27 _ x0 x1 x2 (0 : Int32) hx0 hr (lv_sub hl [1, 2, 3, 0] rfl) h
theorem lX19_overdue_27 (hst : zSt B ids) (F : zFx p m c cX19_overdue 4 s args RX19 D cy B ids A) (hA : ∀ q : Nat, s.heap.size ≤ q → A q) {r : Int32} {z' : St} (E : zEnd p l e rmX19_overdue s m args below meth c cX19_overdue D cy B ids A Q (some (.int r)) z' .ireturn True) {N : Nat}  : ∀ (n : Nat) (x0 : Nat) (x1 : Int32) (x2 : Int32) (hx0 : (19, x0) ∈ ids) {z : St} {H : Heap} {locs : List Loc} {ls : Array Slot} (hr : zRep D cy B ids A s.heap z H locs) (hl : lv_has ls 4 [(0, .ref (B 19 x0)), (1, .int x1), (2, .int x2)]), fX19_overdue_27 N  n x0 x1 x2 z = some (r, z') → W p l e rmX19_overdue s m args below meth c H locs 0 0 Q (F0 m 27 ls []) := by
  intro n
  induction n with
  | zero => intro x0 x1 x2 hx0 z H locs ls hr hl h; cases h
  | succ n ih => intro x0 x1 x2 hx0 z H locs ls hr hl h; exact bX19_overdue_27 hst F hA E ih x0 x1 x2 hx0 hr hl h
def fX19_overdue (N : Nat)  (x0 : Nat) (z : St) : Option (Int32 × St) := zl (zsI z 19 25 x0 (0 : Int32)) fun z1 => zc (fX19_boundNow N x0 z1) fun r2 z3 => if r2 ≤ ((zgI z1 19 24 x0) - (zgI z1 19 27 x0)) then (fX19_overdue_27 N N x0 (0 : Int32) (0 : Int32) z3) else (some ((0 : Int32), z3))
set_option maxHeartbeats 4000000 in
set_option maxRecDepth 100000 in
theorem bX19_overdue_0 (hst : zSt B ids) (F : zFx p m c cX19_overdue 4 s args RX19 D cy B ids A) (hA : ∀ q : Nat, s.heap.size ≤ q → A q) {r : Int32} {z' : St} (E : zEnd p l e rmX19_overdue s m args below meth c cX19_overdue D cy B ids A Q (some (.int r)) z' .ireturn True) {N : Nat}  (x0 : Nat) (hx0 : (19, x0) ∈ ids) {z : St} {H : Heap} {locs : List Loc} {ls : Array Slot} (hr : zRep D cy B ids A s.heap z H locs) (hl : lv_has ls 4 [(0, .ref (B 19 x0))]) (h : fX19_overdue N x0 z = some (r, z')) : W p l e rmX19_overdue s m args below meth c H locs 0 0 Q (F0 m 0 ls []) := by
  unfold fX19_overdue at h
  refine lv_aload_n F.1 F.2.1 dX19_overdue_0 rfl (lv_at hl 0 rfl) ?_
  refine lv_iconst (v := (0 : Int32)) F.1 F.2.1 dX19_overdue_1 (by decide) ?_
  refine pf19_140 F hx0 hr dX19_overdue_2 (0 : Int32) (fun H locs z1 ez1 hr => ?_)
  replace h := zl_sub ez1 h
  clear ez1
  refine lv_aload_n F.1 F.2.1 dX19_overdue_5 rfl (lv_at hl 0 rfl) ?_
  refine gf19_143 F hx0 hr dX19_overdue_6 ?_
  refine lv_aload_n F.1 F.2.1 dX19_overdue_9 rfl (lv_at hl 0 rfl) ?_
  refine gf19_146 F hx0 hr dX19_overdue_10 ?_
  refine lv_isub F.1 F.2.1 dX19_overdue_13 ?_
  refine lv_aload_n F.1 F.2.1 dX19_overdue_14 rfl (lv_at hl 0 rfl) ?_
  replace h := zc_some h
  obtain ⟨r2, z3, hc4, h⟩ := h
  refine zr_calli (zrun_V (As := []) (rest := [.int ((zgI z1 19 24 x0) - (zgI z1 19 27 x0))]) zq_3121 zq_3123 zs_X19_boundNow zq_3124 zq_4 hdX19_boundNow (by decide) (T := TX19) (N := 32) rfl (okX19_boundNow l D cy B ids hst N x0 hx0 hr.2.2 hc4) F hr hx0 hl.1 rfl (Nat.le_of_ble_eq_true rfl) dX19_overdue_15 rfl rfl hroX19_overdue_X19_boundNow ⟨Nat.zero_le _, Nat.zero_le _⟩) F hA hr (fun H locs hw5 hr => ?_)
  clear hc4
  refine lv_icmp_ge (tgt := 23) F.1 F.2.1 dX19_overdue_18 (by decide) (fun c6 => ?_) (fun c6 => ?_)
  · replace h := zi_t c6 h
    refine lv_iconst (v := (0 : Int32)) F.1 F.2.1 dX19_overdue_23 (by decide) ?_
    refine lv_istore_n (lv' := [(1, .int (0 : Int32)), (0, .ref (B 19 x0))]) F.1 F.2.1 dX19_overdue_24 rfl hl (by decide) rfl (fun ls hl => ?_)
    refine lv_iconst (v := (0 : Int32)) F.1 F.2.1 dX19_overdue_25 (by decide) ?_
    refine lv_istore_n (lv' := [(2, .int (0 : Int32)), (1, .int (0 : Int32)), (0, .ref (B 19 x0))]) F.1 F.2.1 dX19_overdue_26 rfl hl (by decide) rfl (fun ls hl => ?_)
    exact lX19_overdue_27 hst F hA E  _ x0 (0 : Int32) (0 : Int32) hx0 hr (lv_sub hl [2, 1, 0] rfl) h
  · replace h := zi_f c6 h
    refine lv_iconst (v := (0 : Int32)) F.1 F.2.1 dX19_overdue_21 (by decide) ?_
    obtain ⟨rfl, rfl⟩ := zret h
    exact E _ _ _ _ dX19_overdue_22 trivial hr
end SX19_overdue
set_option maxRecDepth 100000 in
theorem okX19_overdue (l : Launch) (D : va_G) (cy : Nat → ClassId) (B : Nat → Nat → Nat) (ids : List (Nat × Nat)) (hst : zSt B ids) (N : Nat) (x0 : Nat) (hx0 : (19, x0) ∈ ids) {z : St} {r : Int32} {z' : St} (hW : zWf ids z) (h : fX19_overdue N x0 z = some (r, z')) : zM l yX19_overdue (zws yX19_overdue cX19_overdue 4 (some .int)) rmX19_overdue D cy B ids [.ref (B 19 x0)] (some (.int r)) True z z' :=
  zM_of hst hW (by decide +kernel) (Nat.le_of_ble_eq_true rfl) (fun p e s m args below meth c A ls F hA hret hlocks hr hl => bX19_overdue_0 hst F hA (zEnd_i F hret hlocks) x0 hx0 hr hl h)
