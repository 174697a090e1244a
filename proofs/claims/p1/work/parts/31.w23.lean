abbrev rmX19_knows : Room := { frames := 0, cells := 0, slots := 0, locals := 0 }
theorem hdX19_knows : yX19_knows.cls ≠ "java/lang/invoke/MethodHandle" ∧ yX19_knows.cls ≠ "java/lang/invoke/VarHandle" ∧ (parseMethodDescriptor yX19_knows.desc).map (fun d => d.parameters.length) = some 2 := by decide +kernel
section SX19_knows
variable {p : Program} {l : Launch} {e : Env} {s : State} {m : MethodId} {args : Array Value} {below : List Frame} {meth : Method} {c : Code} {Q : State → Prop} {D : va_G} {cy : Nat → ClassId} {B : Nat → Nat → Nat} {ids : List (Nat × Nat)} {A : Nat → Prop}
def fX19_knows (N : Nat)  (x0 : Nat) (x1 : Nat) (x2 : Int32) (z : St) : Option (Int32 × St) := zk x2 8 <| if (2500 : Int32) < ((zgI z 19 24 x0) - (zgA z 167 x1 (Int32.toNatClampNeg x2))) then (some ((0 : Int32), z)) else (some ((1 : Int32), z))
set_option maxHeartbeats 4000000 in
set_option maxRecDepth 100000 in
theorem bX19_knows_0 (hst : zSt B ids) (F : zFx p m c cX19_knows 3 s args RX19 D cy B ids A) (hA : ∀ q : Nat, s.heap.size ≤ q → A q) {r : Int32} {z' : St} (E : zEnd p l e rmX19_knows s m args below meth c cX19_knows D cy B ids A Q (some (.int r)) z' .ireturn (r = 0 ∨ r = 1)) {N : Nat}  (x0 : Nat) (x1 : Nat) (x2 : Int32) (hx0 : (19, x0) ∈ ids) (hx1 : (18, x1) ∈ ids) {z : St} {H : Heap} {locs : List Loc} {ls : Array Slot} (hr : zRep D cy B ids A s.heap z H locs) (hl : lv_has ls 3 [(0, .ref (B 19 x0)), (1, .ref (B 18 x1)), (2, .int x2)]) (h : fX19_knows N x0 x1 x2 z = some (r, z')) : W p l e rmX19_knows s m args below meth c H locs 0 0 Q (F0 m 0 ls []) := by
  unfold fX19_knows at h
  refine lv_aload_n F.1 F.2.1 dX19_knows_0 rfl (lv_at hl 0 rfl) ?_
  refine gf19_143 F hx0 hr dX19_knows_1 ?_
  refine lv_aload_n F.1 F.2.1 dX19_knows_4 rfl (lv_at hl 1 rfl) ?_
  refine gf19_207 F hx1 hr dX19_knows_5 ?_
  refine lv_iload_n F.1 F.2.1 dX19_knows_8 rfl (lv_at hl 2 rfl) ?_
  replace h := zk_some h
  obtain ⟨c1, h⟩ := h
  refine zr_iald (k := 167) (by decide) rfl (by decide) F (zal_a F hx1 (j := 6) rfl) hr dX19_knows_9 c1 ?_
  refine lv_isub F.1 F.2.1 dX19_knows_10 ?_
  refine lv_sipush (v := (2500 : Int32)) F.1 F.2.1 dX19_knows_11 (by decide) ?_
  refine lv_icmp_gt (tgt := 21) F.1 F.2.1 dX19_knows_14 (by decide) (fun c2 => ?_) (fun c2 => ?_)
  · replace h := zi_t c2 h
    refine lv_iconst (v := (0 : Int32)) F.1 F.2.1 dX19_knows_21 (by decide) ?_
    obtain ⟨rfl, rfl⟩ := zret h
    exact E _ _ _ _ dX19_knows_22 (by decide) hr
  · replace h := zi_f c2 h
    refine lv_iconst (v := (1 : Int32)) F.1 F.2.1 dX19_knows_17 (by decide) ?_
    refine lv_goto (tgt := 22) F.1 F.2.1 dX19_knows_18 (by decide) ?_
    obtain ⟨rfl, rfl⟩ := zret h
    exact E _ _ _ _ dX19_knows_22 (by decide) hr
end SX19_knows
set_option maxRecDepth 100000 in
theorem okX19_knows (l : Launch) (D : va_G) (cy : Nat → ClassId) (B : Nat → Nat → Nat) (ids : List (Nat × Nat)) (hst : zSt B ids) (N : Nat) (x0 : Nat) (hx0 : (19, x0) ∈ ids) (x1 : Nat) (hx1 : (18, x1) ∈ ids) (x2 : Int32) {z : St} {r : Int32} {z' : St} (hW : zWf ids z) (h : fX19_knows N x0 x1 x2 z = some (r, z')) : zM l yX19_knows (zws yX19_knows cX19_knows 3 (some .boolean)) rmX19_knows D cy B ids [.ref (B 19 x0), .ref (B 18 x1), .int x2] (some (.int r)) (r = 0 ∨ r = 1) z z' :=
  zM_of hst hW (by decide +kernel) (Nat.le_of_ble_eq_true rfl) (fun p e s m args below meth c A ls F hA hret hlocks hr hl => bX19_knows_0 hst F hA (zEnd_z F hret hlocks) x0 x1 x2 hx0 hx1 hr hl h)
abbrev rmX19_ask : Room := { frames := 4, cells := 0, slots := 0, locals := 100 }
theorem hdX19_ask : yX19_ask.cls ≠ "java/lang/invoke/MethodHandle" ∧ yX19_ask.cls ≠ "java/lang/invoke/VarHandle" ∧ (parseMethodDescriptor yX19_ask.desc).map (fun d => d.parameters.length) = some 2 := by decide +kernel
theorem hroX19_ask_X19_put : rmX19_put.frames + 1 ≤ rmX19_ask.frames ∧ 8 + (9 + 11) + rmX19_put.locals ≤ rmX19_ask.locals := by decide
section SX19_ask
variable {p : Program} {l : Launch} {e : Env} {s : State} {m : MethodId} {args : Array Value} {below : List Frame} {meth : Method} {c : Code} {Q : State → Prop} {D : va_G} {cy : Nat → ClassId} {B : Nat → Nat → Nat} {ids : List (Nat × Nat)} {A : Nat → Prop}
def fX19_ask (N : Nat)  (x0 : Nat) (x1 : Nat) (x2 : Int32) (z : St) : Option (Int32 × St) := zl (zgR z 18 2 x1) fun y1 => zd y1 fun a2 => zc (fX19_put N x0 x1 (-1 : Int32) (0 : Int32) ((((167772160 : Int32) + ((zgI z 16 0 a2) <<< ((16 : Int32) &&& 31))) + x2) + (1 : Int32)) (-1 : Int32) z) fun _ z4 => some (0, z4)
set_option maxHeartbeats 4000000 in
set_option maxRecDepth 100000 in
theorem bX19_ask_0 (hst : zSt B ids) (F : zFx p m c cX19_ask 3 s args RX19 D cy B ids A) (hA : ∀ q : Nat, s.heap.size ≤ q → A q) {r : Int32} {z' : St} (E : zEnd p l e rmX19_ask s m args below meth c cX19_ask D cy B ids A Q none z' .return_ True) {N : Nat}  (x0 : Nat) (x1 : Nat) (x2 : Int32) (hx0 : (19, x0) ∈ ids) (hx1 : (18, x1) ∈ ids) {z : St} {H : Heap} {locs : List Loc} {ls : Array Slot} (hr : zRep D cy B ids A s.heap z H locs) (hl : lv_has ls 3 [(0, .ref (B 19 x0)), (1, .ref (B 18 x1)), (2, .int x2)]) (h : fX19_ask N x0 x1 x2 z = some (r, z')) : W p l e rmX19_ask s m args below meth c H locs 0 0 Q (F0 m 0 ls []) := by
  unfold fX19_ask at h
  refine lv_aload_n F.1 F.2.1 dX19_ask_0 rfl (lv_at hl 0 rfl) ?_
  refine lv_aload_n F.1 F.2.1 dX19_ask_1 rfl (lv_at hl 1 rfl) ?_
  refine lv_iconst (v := (-1 : Int32)) F.1 F.2.1 dX19_ask_2 (by decide) ?_
  refine lv_iconst (v := (0 : Int32)) F.1 F.2.1 dX19_ask_3 (by decide) ?_
  refine lv_ldc (v := (167772160)) F.1 F.2.1 F.2.2.2.1 (F.2.2.2.2.1 _ zq_2801) dX19_ask_4 ?_
  refine lv_aload_n F.1 F.2.1 dX19_ask_6 rfl (lv_at hl 1 rfl) ?_
  refine gf19_149 F hx1 hr dX19_ask_7 (fun y1 ey1 => ?_)
  replace h := zl_sub ey1 h
  have hy1 := zal_g hr hx1 (j := 2) rfl ey1
  clear ey1
  replace h := zd_some h
  obtain ⟨a2, rfl, h⟩ := h
  refine gf19_181 F (hy1 _ rfl) hr dX19_ask_10 ?_
  refine lv_bipush (v := (16 : Int32)) F.1 F.2.1 dX19_ask_13 (by decide) ?_
  refine lv_ishl F.1 F.2.1 dX19_ask_15 ?_
  refine lv_iadd F.1 F.2.1 dX19_ask_16 ?_
  refine lv_iload_n F.1 F.2.1 dX19_ask_17 rfl (lv_at hl 2 rfl) ?_
  refine lv_iadd F.1 F.2.1 dX19_ask_18 ?_
  refine lv_iconst (v := (1 : Int32)) F.1 F.2.1 dX19_ask_19 (by decide) ?_
  refine lv_iadd F.1 F.2.1 dX19_ask_20 ?_
  refine lv_iconst (v := (-1 : Int32)) F.1 F.2.1 dX19_ask_21 (by decide) ?_
  replace h := zc_some h
  obtain ⟨r3, z4, hc5, h⟩ := h
  refine zr_callv (zrun_V (As := [.ref (B 18 x1), .int (-1 : Int32), .int (0 : Int32), .int ((((167772160 : Int32) + ((zgI z 16 0 a2) <<< ((16 : Int32) &&& 31))) + x2) + (1 : Int32)), .int (-1 : Int32)]) (rest := []) zq_2611 zq_2613 zs_X19_put zq_2614 zq_4 hdX19_put (by decide) (T := TX19) (N := 32) rfl (okX19_put l D cy B ids hst N x0 hx0 x1 hx1 (-1 : Int32)  (0 : Int32)  ((((167772160 : Int32) + ((zgI z 16 0 a2) <<< ((16 : Int32) &&& 31))) + x2) + (1 : Int32))  (-1 : Int32)  hr.2.2 hc5) F hr hx0 hl.1 rfl (by decide) dX19_ask_22 rfl rfl hroX19_ask_X19_put ⟨Nat.zero_le _, Nat.zero_le _⟩) F hA hr (fun H locs hw6 hr => ?_)
  clear hc5
  obtain ⟨rfl, rfl⟩ := zret h
  exact E _ _ _ _ dX19_ask_25 trivial hr
end SX19_ask
set_option maxRecDepth 100000 in
theorem okX19_ask (l : Launch) (D : va_G) (cy : Nat → ClassId) (B : Nat → Nat → Nat) (ids : List (Nat × Nat)) (hst : zSt B ids) (N : Nat) (x0 : Nat) (hx0 : (19, x0) ∈ ids) (x1 : Nat) (hx1 : (18, x1) ∈ ids) (x2 : Int32) {z : St} {r : Int32} {z' : St} (hW : zWf ids z) (h : fX19_ask N x0 x1 x2 z = some (r, z')) : zM l yX19_ask (zws yX19_ask cX19_ask 3 none) rmX19_ask D cy B ids [.ref (B 19 x0), .ref (B 18 x1), .int x2] none True z z' :=
  zM_of hst hW (by decide +kernel) (Nat.le_of_ble_eq_true rfl) (fun p e s m args below meth c A ls F hA hret hlocks hr hl => bX19_ask_0 hst F hA (zEnd_v F hret hlocks) x0 x1 x2 hx0 hx1 hr hl h)
abbrev rmX19_deliver : Room := { frames := 5, cells := 0, slots := 0, locals := 128 }
theorem hdX19_deliver : yX19_deliver.cls ≠ "java/lang/invoke/MethodHandle" ∧ yX19_deliver.cls ≠ "java/lang/invoke/VarHandle" ∧ (parseMethodDescriptor yX19_deliver.desc).map (fun d => d.parameters.length) = some 3 := by decide +kernel
theorem hroX19_deliver_X18_askingOf : rmX18_askingOf.frames + 1 ≤ rmX19_deliver.frames ∧ 8 + (3 + 11) + rmX18_askingOf.locals ≤ rmX19_deliver.locals := by decide
theorem hroX19_deliver_X18_endAsking : rmX18_endAsking.frames + 1 ≤ rmX19_deliver.frames ∧ 8 + (3 + 11) + rmX18_endAsking.locals ≤ rmX19_deliver.locals := by decide
theorem hroX19_deliver_X18_someWaitFor : rmX18_someWaitFor.frames + 1 ≤ rmX19_deliver.frames ∧ 8 + (3 + 11) + rmX18_someWaitFor.locals ≤ rmX19_deliver.locals := by decide
theorem hroX19_deliver_X18_takeWaiting : rmX18_takeWaiting.frames + 1 ≤ rmX19_deliver.frames ∧ 8 + (4 + 11) + rmX18_takeWaiting.locals ≤ rmX19_deliver.locals := by decide
theorem hroX19_deliver_X19_ask : rmX19_ask.frames + 1 ≤ rmX19_deliver.frames ∧ 8 + (3 + 11) + rmX19_ask.locals ≤ rmX19_deliver.locals := by decide
theorem hroX19_deliver_X19_carry : rmX19_carry.frames + 1 ≤ rmX19_deliver.frames ∧ 8 + (9 + 11) + rmX19_carry.locals ≤ rmX19_deliver.locals := by decide
theorem hroX19_deliver_X19_copyOf : rmX19_copyOf.frames + 1 ≤ rmX19_deliver.frames ∧ 8 + (4 + 11) + rmX19_copyOf.locals ≤ rmX19_deliver.locals := by decide
theorem hroX19_deliver_X19_drop : rmX19_drop.frames + 1 ≤ rmX19_deliver.frames ∧ 8 + (2 + 11) + rmX19_drop.locals ≤ rmX19_deliver.locals := by decide
theorem hroX19_deliver_X19_knows : rmX19_knows.frames + 1 ≤ rmX19_deliver.frames ∧ 8 + (3 + 11) + rmX19_knows.locals ≤ rmX19_deliver.locals := by decide
theorem hroX19_deliver_X19_stir : rmX19_stir.frames + 1 ≤ rmX19_deliver.frames ∧ 8 + (1 + 11) + rmX19_stir.locals ≤ rmX19_deliver.locals := by decide
section SX19_deliver
variable {p : Program} {l : Launch} {e : Env} {s : State} {m : MethodId} {args : Array Value} {below : List Frame} {meth : Method} {c : Code} {Q : State → Prop} {D : va_G} {cy : Nat → ClassId} {B : Nat → Nat → Nat} {ids : List (Nat × Nat)} {A : Nat → Prop}
def fX19_deliver_102 (N : Nat)  (x0 : Nat) (x1 : Nat) (z : St) : Option (Int32 × St) := if (zgI z 18 12 x1) ≤ (16 : Int32) then (some (0, z)) else (zk (0 : Int32) 17 <| zl (zgA z 171 x1 (Int32.toNatClampNeg (0 : Int32))) fun v3 => zc (fX18_takeWaiting N x1 (0 : Int32) z) fun r4 z5 => zc (fX19_drop N x0 r4 z5) fun _ z9 => zc (fX19_stir N x0 z9) fun _ z13 => zc (fX18_someWaitFor N x1 v3 z13) fun r16 z17 => if ¬ r16 = 0 then (some (0, z17)) else (zc (fX18_askingOf N x1 v3 z17) fun r21 z22 => zc (fX18_endAsking N x1 r21 z22) fun _ z26 => some (0, z26)))
set_option maxHeartbeats 4000000 in
set_option maxRecDepth 100000 in
theorem bX19_deliver_102 (hst : zSt B ids) (F : zFx p m c cX19_deliver 6 s args RX19 D cy B ids A) (hA : ∀ q : Nat, s.heap.size ≤ q → A q) {r : Int32} {z' : St} (E : zEnd p l e rmX19_deliver s m args below meth c cX19_deliver D cy B ids A Q none z' .return_ True) {N : Nat}  (x0 : Nat) (x1 : Nat) (hx0 : (19, x0) ∈ ids) (hx1 : (18, x1) ∈ ids) {z : St} {H : Heap} {locs : List Loc} {ls : Array Slot} (hr : zRep D cy B ids A s.heap z H locs) (hl : lv_has ls 6 [(0, .ref (B 19 x0)), (1, .ref (B 18 x1))]) (h : fX19_deliver_102 N x0 x1 z = some (r, z')) : W p l e rmX19_deliver s m args below meth c H locs 0 0 Q (F0 m 102 ls []) := by
  unfold fX19_deliver_102 at h
  refine lv_aload_n F.1 F.2.1 dX19_deliver_102 rfl (lv_at hl 1 rfl) ?_
  refine gf19_226 F hx1 hr dX19_deliver_103 ?_
  refine lv_bipush (v := (16 : Int32)) F.1 F.2.1 dX19_deliver_106 (by decide) ?_
  refine lv_icmp_le (tgt := 151) F.1 F.2.1 dX19_deliver_108 (by decide) (fun c1 => ?_) (fun c1 => ?_)
  · replace h := zi_t c1 h
    obtain ⟨rfl, rfl⟩ := zret h
    exact E _ _ _ _ dX19_deliver_151 trivial hr
  · replace h := zi_f c1 h
    refine lv_aload_n F.1 F.2.1 dX19_deliver_111 rfl (lv_at hl 1 rfl) ?_
    refine gf19_229 F hx1 hr dX19_deliver_112 ?_
    refine lv_iconst (v := (0 : Int32)) F.1 F.2.1 dX19_deliver_115 (by decide) ?_
    replace h := zk_some h
    obtain ⟨c2, h⟩ := h
    refine zr_iald (k := 171) (by decide) rfl (by decide) F (zal_a F hx1 (j := 11) rfl) hr dX19_deliver_116 c2 ?_
    refine lv_topi (fun v3 ev3 => ?_)
    replace h := zl_sub ev3 h
    refine lv_istore (lv' := [(5, .int v3), (0, .ref (B 19 x0)), (1, .ref (B 18 x1))]) F.1 F.2.1 dX19_deliver_117 hl (by decide) rfl (fun ls hl => ?_)
    refine lv_aload_n F.1 F.2.1 dX19_deliver_119 rfl (lv_at hl 1 rfl) ?_
    refine lv_aload_n F.1 F.2.1 dX19_deliver_120 rfl (lv_at hl 2 rfl) ?_
    refine lv_iconst (v := (0 : Int32)) F.1 F.2.1 dX19_deliver_121 (by decide) ?_
    replace h := zc_some h
    obtain ⟨r4, z5, hc6, h⟩ := h
    refine zr_calli (zrun_VN (As := [.int (0 : Int32)]) (rest := [.ref (B 19 x0)]) zn_2603 zq_2605 zs_X18_takeWaiting zq_2606 zq_25 hdX18_takeWaiting (by decide) (T := TX18) (N := 13) rfl (okX18_takeWaiting l D cy B ids hst N x1 hx1 (0 : Int32)  hr.2.2 hc6) F hr hx1 hl.1 rfl (Nat.le_of_ble_eq_true rfl) dX19_deliver_122 rfl rfl hroX19_deliver_X18_takeWaiting ⟨Nat.zero_le _, Nat.zero_le _⟩) F hA hr (fun H locs hw7 hr => ?_)
    clear hc6
    replace h := zc_some h
    obtain ⟨r8, z9, hc10, h⟩ := h
    refine zr_callv (zrun_V (As := [.int r4]) (rest := []) zq_2545 zq_2547 zs_X19_drop zq_2548 zq_4 hdX19_drop (by decide) (T := TX19) (N := 32) rfl (okX19_drop l D cy B ids hst N x0 hx0 r4  hr.2.2 hc10) F hr hx0 hl.1 rfl (by decide) dX19_deliver_125 rfl rfl hroX19_deliver_X19_drop ⟨Nat.zero_le _, Nat.zero_le _⟩) F hA hr (fun H locs hw11 hr => ?_)
    clear hc10
    refine lv_aload_n F.1 F.2.1 dX19_deliver_128 rfl (lv_at hl 1 rfl) ?_
    replace h := zc_some h
    obtain ⟨r12, z13, hc14, h⟩ := h
    refine zr_callv (zrun_V (As := []) (rest := []) zq_2394 zq_2396 zs_X19_stir zq_2397 zq_4 hdX19_stir (by decide) (T := TX19) (N := 32) rfl (okX19_stir l D cy B ids hst N x0 hx0 hr.2.2 hc14) F hr hx0 hl.1 rfl (by decide) dX19_deliver_129 rfl rfl hroX19_deliver_X19_stir ⟨Nat.zero_le _, Nat.zero_le _⟩) F hA hr (fun H locs hw15 hr => ?_)
    clear hc14
    refine lv_aload_n F.1 F.2.1 dX19_deliver_132 rfl (lv_at hl 2 rfl) ?_
    refine lv_iload F.1 F.2.1 dX19_deliver_133 (lv_at hl 0 rfl) ?_
    replace h := zc_some h
    obtain ⟨r16, z17, hc18, h⟩ := h
    refine zr_calli (zrun_VN (As := [.int v3]) (rest := []) zn_2793 zq_2795 zs_X18_someWaitFor zq_2796 zq_25 hdX18_someWaitFor (by decide) (T := TX18) (N := 13) rfl (okX18_someWaitFor l D cy B ids hst N x1 hx1 v3  hr.2.2 hc18) F hr hx1 hl.1 rfl (by decide) dX19_deliver_135 rfl rfl hroX19_deliver_X18_someWaitFor ⟨Nat.zero_le _, Nat.zero_le _⟩) F hA hr (fun H locs hw19 hr => ?_)
    clear hc18
    refine lv_if_ne (tgt := 151) F.1 F.2.1 dX19_deliver_138 (by decide) (fun c20 => ?_) (fun c20 => ?_)
    · replace h := zi_t c20 h
      obtain ⟨rfl, rfl⟩ := zret h
      exact E _ _ _ _ dX19_deliver_151 trivial hr
    · replace h := zi_f (fun q => q c20) h
      refine lv_aload_n F.1 F.2.1 dX19_deliver_141 rfl (lv_at hl 2 rfl) ?_
      refine lv_aload_n F.1 F.2.1 dX19_deliver_142 rfl (lv_at hl 2 rfl) ?_
      refine lv_iload F.1 F.2.1 dX19_deliver_143 (lv_at hl 0 rfl) ?_
      replace h := zc_some h
      obtain ⟨r21, z22, hc23, h⟩ := h
      refine zr_calli (zrun_VN (As := [.int v3]) (rest := [.ref (B 18 x1)]) zn_2591 zq_2593 zs_X18_askingOf zq_2594 zq_25 hdX18_askingOf (by decide) (T := TX18) (N := 13) rfl (okX18_askingOf l D cy B ids hst N x1 hx1 v3  hr.2.2 hc23) F hr hx1 hl.1 rfl (Nat.le_of_ble_eq_true rfl) dX19_deliver_145 rfl rfl hroX19_deliver_X18_askingOf ⟨Nat.zero_le _, Nat.zero_le _⟩) F hA hr (fun H locs hw24 hr => ?_)
      clear hc23
      replace h := zc_some h
      obtain ⟨r25, z26, hc27, h⟩ := h
      refine zr_callv (zrun_VN (As := [.int r21]) (rest := []) zn_2595 zq_2597 zs_X18_endAsking zq_2598 zq_25 hdX18_endAsking (by decide) (T := TX18) (N := 13) rfl (okX18_endAsking l D cy B ids hst N x1 hx1 r21  hr.2.2 hc27) F hr hx1 hl.1 rfl (by decide) dX19_deliver_148 rfl rfl hroX19_deliver_X18_endAsking ⟨Nat.zero_le _, Nat.zero_le _⟩) F hA hr (fun H locs hw28 hr => ?_)
      clear hc27
      obtain ⟨rfl, rfl⟩ := zret h
      exact E _ _ _ _ dX19_deliver_151 trivial hr
def fX19_deliver (N : Nat)  (x0 : Nat) (x1 : Nat) (x2 : Int32) (x3 : Int32) (z : St) : Option (Int32 × St) := zc (fX19_knows N x0 x1 x2 z) fun r1 z2 => if r1 = 0 then (zc (fX18_someWaitFor N x1 x2 z2) fun r6 z7 => zc (fX19_copyOf N x0 x3 z7) fun r10 z11 => zk (zgI z7 18 12 x1) 17 <| zl (zsA z11 170 x1 (Int32.toNatClampNeg (zgI z7 18 12 x1)) r10) fun z15 => zk (zgI z15 18 12 x1) 17 <| zl (zsA z15 171 x1 (Int32.toNatClampNeg (zgI z15 18 12 x1)) x2) fun z17 => zl (zsI z17 18 12 x1 ((zgI z17 18 12 x1) + (1 : Int32))) fun z18 => if ¬ r6 = 0 then (fX19_deliver_102 N x0 x1 z18) else (zk (zgI z18 18 9 x1) 8 <| zl (zsA z18 168 x1 (Int32.toNatClampNeg (zgI z18 18 9 x1)) x2) fun z21 => zk (zgI z21 18 9 x1) 8 <| zl (zsA z21 169 x1 (Int32.toNatClampNeg (zgI z21 18 9 x1)) (zgI z21 19 24 x0)) fun z23 => zl (zsI z23 18 9 x1 ((zgI z23 18 9 x1) + (1 : Int32))) fun z24 => zc (fX19_ask N x0 x1 x2 z24) fun _ z26 => fX19_deliver_102 N x0 x1 z26)) else (zc (fX19_carry N x0 x1 x2 x3 z2) fun _ z30 => some (0, z30))
set_option maxHeartbeats 4000000 in
set_option maxRecDepth 100000 in
theorem bX19_deliver_0 (hst : zSt B ids) (F : zFx p m c cX19_deliver 6 s args RX19 D cy B ids A) (hA : ∀ q : Nat, s.heap.size ≤ q → A q) {r : Int32} {z' : St} (E : zEnd p l e rmX19_deliver s m args below meth c cX19_deliver D cy B ids A Q none z' .return_ True) {N : Nat}  (x0 : Nat) (x1 : Nat) (x2 : Int32) (x3 : Int32) (hx0 : (19, x0) ∈ ids) (hx1 : (18, x1) ∈ ids) {z : St} {H : Heap} {locs : List Loc} {ls : Array Slot} (hr : zRep D cy B ids A s.heap z H locs) (hl : lv_has ls 6 [(0, .ref (B 19 x0)), (1, .ref (B 18 x1)), (2, .int x2), (3, .int x3)]) (h : fX19_deliver N x0 x1 x2 x3 z = some (r, z')) : W p l e rmX19_deliver s m args below meth c H locs 0 0 Q (F0 m 0 ls []) := by
  unfold fX19_deliver at h
  refine lv_aload_n F.1 F.2.1 dX19_deliver_0 rfl (lv_at hl 0 rfl) ?_
  refine lv_aload_n F.1 F.2.1 dX19_deliver_1 rfl (lv_at hl 1 rfl) ?_
  refine lv_iload_n F.1 F.2.1 dX19_deliver_2 rfl (lv_at hl 2 rfl) ?_
  replace h := zc_some h
  obtain ⟨r1, z2, hc3, h⟩ := h
  refine zr_calli (zrun_V (As := [.ref (B 18 x1), .int x2]) (rest := []) zq_2789 zq_2791 zs_X19_knows zq_2792 zq_4 hdX19_knows (by decide) (T := TX19) (N := 32) rfl (okX19_knows l D cy B ids hst N x0 hx0 x1 hx1 x2  hr.2.2 hc3) F hr hx0 hl.1 rfl (by decide) dX19_deliver_3 rfl rfl hroX19_deliver_X19_knows ⟨Nat.zero_le _, Nat.zero_le _⟩) F hA hr (fun H locs hw4 hr => ?_)
  clear hc3
  refine lv_if_eq (tgt := 17) F.1 F.2.1 dX19_deliver_6 (by decide) (fun c5 => ?_) (fun c5 => ?_)
  · replace h := zi_t c5 h
    refine lv_aload_n F.1 F.2.1 dX19_deliver_17 rfl (lv_at hl 1 rfl) ?_
    refine lv_iload_n F.1 F.2.1 dX19_deliver_18 rfl (lv_at hl 2 rfl) ?_
    replace h := zc_some h
    obtain ⟨r6, z7, hc8, h⟩ := h
    refine zr_calli (zrun_VN (As := [.int x2]) (rest := []) zn_2793 zq_2795 zs_X18_someWaitFor zq_2796 zq_25 hdX18_someWaitFor (by decide) (T := TX18) (N := 13) rfl (okX18_someWaitFor l D cy B ids hst N x1 hx1 x2  hr.2.2 hc8) F hr hx1 hl.1 rfl (by decide) dX19_deliver_19 rfl rfl hroX19_deliver_X18_someWaitFor ⟨Nat.zero_le _, Nat.zero_le _⟩) F hA hr (fun H locs hw9 hr => ?_)
    clear hc8
    refine lv_istore (lv' := [(4, .int r6), (0, .ref (B 19 x0)), (1, .ref (B 18 x1)), (2, .int x2), (3, .int x3)]) F.1 F.2.1 dX19_deliver_22 hl (by decide) rfl (fun ls hl => ?_)
    refine lv_aload_n F.1 F.2.1 dX19_deliver_24 rfl (lv_at hl 2 rfl) ?_
    refine gf19_223 F hx1 hr dX19_deliver_25 ?_
    refine lv_aload_n F.1 F.2.1 dX19_deliver_28 rfl (lv_at hl 2 rfl) ?_
    refine gf19_226 F hx1 hr dX19_deliver_29 ?_
    refine lv_aload_n F.1 F.2.1 dX19_deliver_32 rfl (lv_at hl 1 rfl) ?_
    refine lv_iload_n F.1 F.2.1 dX19_deliver_33 rfl (lv_at hl 4 rfl) ?_
    replace h := zc_some h
    obtain ⟨r10, z11, hc12, h⟩ := h
    refine zr_calli (zrun_V (As := [.int x3]) (rest := [.int (zgI z7 18 12 x1), .ref (B 170 x1)]) zq_2619 zq_2621 zs_X19_copyOf zq_2622 zq_4 hdX19_copyOf (by decide) (T := TX19) (N := 32) rfl (okX19_copyOf l D cy B ids hst N x0 hx0 x3  hr.2.2 hc12) F hr hx0 hl.1 rfl (Nat.le_of_ble_eq_true rfl) dX19_deliver_34 rfl rfl hroX19_deliver_X19_copyOf ⟨Nat.zero_le _, Nat.zero_le _⟩) F hA hr (fun H locs hw13 hr => ?_)
    clear hc12
    replace h := zk_some h
    obtain ⟨c14, h⟩ := h
    refine zr_iast (k := 170) (by decide) rfl (by decide) F (zal_a F hx1 (j := 10) rfl) hr dX19_deliver_37 c14 (fun H locs z15 ez15 hr => ?_)
    replace h := zl_sub ez15 h
    clear ez15
    refine lv_aload_n F.1 F.2.1 dX19_deliver_38 rfl (lv_at hl 2 rfl) ?_
    refine gf19_229 F hx1 hr dX19_deliver_39 ?_
    refine lv_aload_n F.1 F.2.1 dX19_deliver_42 rfl (lv_at hl 2 rfl) ?_
    refine gf19_226 F hx1 hr dX19_deliver_43 ?_
    refine lv_iload_n F.1 F.2.1 dX19_deliver_46 rfl (lv_at hl 3 rfl) ?_
    replace h := zk_some h
    obtain ⟨c16, h⟩ := h
    refine zr_iast (k := 171) (by decide) rfl (by decide) F (zal_a F hx1 (j := 11) rfl) hr dX19_deliver_47 c16 (fun H locs z17 ez17 hr => ?_)
    replace h := zl_sub ez17 h
    clear ez17
    refine lv_aload_n F.1 F.2.1 dX19_deliver_48 rfl (lv_at hl 2 rfl) ?_
    refine lv_dup F.1 F.2.1 dX19_deliver_49 rfl ?_
    refine gf19_226 F hx1 hr dX19_deliver_50 ?_
    refine lv_iconst (v := (1 : Int32)) F.1 F.2.1 dX19_deliver_53 (by decide) ?_
    refine lv_iadd F.1 F.2.1 dX19_deliver_54 ?_
    refine pf19_226 F hx1 hr dX19_deliver_55 ((zgI z17 18 12 x1) + (1 : Int32)) (fun H locs z18 ez18 hr => ?_)
    replace h := zl_sub ez18 h
    clear ez18
    refine lv_iload F.1 F.2.1 dX19_deliver_58 (lv_at hl 0 rfl) ?_
    refine lv_if_ne (tgt := 102) F.1 F.2.1 dX19_deliver_60 (by decide) (fun c19 => ?_) (fun c19 => ?_)
    · replace h := zi_t c19 h
      exact bX19_deliver_102 hst F hA E  x0 x1 hx0 hx1 hr (lv_sub hl [1, 2] rfl) h
    · replace h := zi_f (fun q => q c19) h
      refine lv_aload_n F.1 F.2.1 dX19_deliver_63 rfl (lv_at hl 2 rfl) ?_
      refine gf19_232 F hx1 hr dX19_deliver_64 ?_
      refine lv_aload_n F.1 F.2.1 dX19_deliver_67 rfl (lv_at hl 2 rfl) ?_
      refine gf19_235 F hx1 hr dX19_deliver_68 ?_
      refine lv_iload_n F.1 F.2.1 dX19_deliver_71 rfl (lv_at hl 3 rfl) ?_
      replace h := zk_some h
      obtain ⟨c20, h⟩ := h
      refine zr_iast (k := 168) (by decide) rfl (by decide) F (zal_a F hx1 (j := 7) rfl) hr dX19_deliver_72 c20 (fun H locs z21 ez21 hr => ?_)
      replace h := zl_sub ez21 h
      clear ez21
      refine lv_aload_n F.1 F.2.1 dX19_deliver_73 rfl (lv_at hl 2 rfl) ?_
      refine gf19_238 F hx1 hr dX19_deliver_74 ?_
      refine lv_aload_n F.1 F.2.1 dX19_deliver_77 rfl (lv_at hl 2 rfl) ?_
      refine gf19_235 F hx1 hr dX19_deliver_78 ?_
      refine lv_aload_n F.1 F.2.1 dX19_deliver_81 rfl (lv_at hl 1 rfl) ?_
      refine gf19_143 F hx0 hr dX19_deliver_82 ?_
      replace h := zk_some h
      obtain ⟨c22, h⟩ := h
      refine zr_iast (k := 169) (by decide) rfl (by decide) F (zal_a F hx1 (j := 8) rfl) hr dX19_deliver_85 c22 (fun H locs z23 ez23 hr => ?_)
      replace h := zl_sub ez23 h
      clear ez23
      refine lv_aload_n F.1 F.2.1 dX19_deliver_86 rfl (lv_at hl 2 rfl) ?_
      refine lv_dup F.1 F.2.1 dX19_deliver_87 rfl ?_
      refine gf19_235 F hx1 hr dX19_deliver_88 ?_
      refine lv_iconst (v := (1 : Int32)) F.1 F.2.1 dX19_deliver_91 (by decide) ?_
      refine lv_iadd F.1 F.2.1 dX19_deliver_92 ?_
      refine pf19_235 F hx1 hr dX19_deliver_93 ((zgI z23 18 9 x1) + (1 : Int32)) (fun H locs z24 ez24 hr => ?_)
      replace h := zl_sub ez24 h
      clear ez24
      refine lv_aload_n F.1 F.2.1 dX19_deliver_96 rfl (lv_at hl 1 rfl) ?_
      refine lv_aload_n F.1 F.2.1 dX19_deliver_97 rfl (lv_at hl 2 rfl) ?_
      refine lv_iload_n F.1 F.2.1 dX19_deliver_98 rfl (lv_at hl 3 rfl) ?_
      replace h := zc_some h
      obtain ⟨r25, z26, hc27, h⟩ := h
      refine zr_callv (zrun_V (As := [.ref (B 18 x1), .int x2]) (rest := []) zq_2797 zq_2799 zs_X19_ask zq_2800 zq_4 hdX19_ask (by decide) (T := TX19) (N := 32) rfl (okX19_ask l D cy B ids hst N x0 hx0 x1 hx1 x2  hr.2.2 hc27) F hr hx0 hl.1 rfl (by decide) dX19_deliver_99 rfl rfl hroX19_deliver_X19_ask ⟨Nat.zero_le _, Nat.zero_le _⟩) F hA hr (fun H locs hw28 hr => ?_)
      clear hc27
      exact bX19_deliver_102 hst F hA E  x0 x1 hx0 hx1 hr (lv_sub hl [1, 2] rfl) h
  · replace h := zi_f c5 h
    refine lv_aload_n F.1 F.2.1 dX19_deliver_9 rfl (lv_at hl 0 rfl) ?_
    refine lv_aload_n F.1 F.2.1 dX19_deliver_10 rfl (lv_at hl 1 rfl) ?_
    refine lv_iload_n F.1 F.2.1 dX19_deliver_11 rfl (lv_at hl 2 rfl) ?_
    refine lv_iload_n F.1 F.2.1 dX19_deliver_12 rfl (lv_at hl 3 rfl) ?_
    replace h := zc_some h
    obtain ⟨r29, z30, hc31, h⟩ := h
    refine zr_callv (zrun_V (As := [.ref (B 18 x1), .int x2, .int x3]) (rest := []) zq_2607 zq_2609 zs_X19_carry zq_2610 zq_4 hdX19_carry (by decide) (T := TX19) (N := 32) rfl (okX19_carry l D cy B ids hst N x0 hx0 x1 hx1 x2  x3  hr.2.2 hc31) F hr hx0 hl.1 rfl (by decide) dX19_deliver_13 rfl rfl hroX19_deliver_X19_carry ⟨Nat.zero_le _, Nat.zero_le _⟩) F hA hr (fun H locs hw32 hr => ?_)
    clear hc31
    obtain ⟨rfl, rfl⟩ := zret h
    exact E _ _ _ _ dX19_deliver_16 trivial hr
end SX19_deliver
set_option maxRecDepth 100000 in
theorem okX19_deliver (l : Launch) (D : va_G) (cy : Nat → ClassId) (B : Nat → Nat → Nat) (ids : List (Nat × Nat)) (hst : zSt B ids) (N : Nat) (x0 : Nat) (hx0 : (19, x0) ∈ ids) (x1 : Nat) (hx1 : (18, x1) ∈ ids) (x2 : Int32) (x3 : Int32) {z : St} {r : Int32} {z' : St} (hW : zWf ids z) (h : fX19_deliver N x0 x1 x2 x3 z = some (r, z')) : zM l yX19_deliver (zws yX19_deliver cX19_deliver 6 none) rmX19_deliver D cy B ids [.ref (B 19 x0), .ref (B 18 x1), .int x2, .int x3] none True z z' :=
  zM_of hst hW (by decide +kernel) (Nat.le_of_ble_eq_true rfl) (fun p e s m args below meth c A ls F hA hret hlocks hr hl => bX19_deliver_0 hst F hA (zEnd_v F hret hlocks) x0 x1 x2 x3 hx0 hx1 hr hl h)
abbrev rmX19_firstWaiting : Room := { frames := 1, cells := 0, slots := 0, locals := 23 }
theorem hdX19_firstWaiting : yX19_firstWaiting.cls ≠ "java/lang/invoke/MethodHandle" ∧ yX19_firstWaiting.cls ≠ "java/lang/invoke/VarHandle" ∧ (parseMethodDescriptor yX19_firstWaiting.desc).map (fun d => d.parameters.length) = some 2 := by decide +kernel
theorem hroX19_firstWaiting_X18_takeWaiting : rmX18_takeWaiting.frames + 1 ≤ rmX19_firstWaiting.frames ∧ 8 + (4 + 11) + rmX18_takeWaiting.locals ≤ rmX19_firstWaiting.locals := by decide
section SX19_firstWaiting
variable {p : Program} {l : Launch} {e : Env} {s : State} {m : MethodId} {args : Array Value} {below : List Frame} {meth : Method} {c : Code} {Q : State → Prop} {D : va_G} {cy : Nat → ClassId} {B : Nat → Nat → Nat} {ids : List (Nat × Nat)} {A : Nat → Prop}
def fX19_firstWaiting_2b (N : Nat) (K2 : Nat → Int32 → Int32 → St → Option (Int32 × St)) (x1 : Nat) (x2 : Int32) (x3 : Int32) (z : St) : Option (Int32 × St) := if (zgI z 18 12 x1) ≤ x3 then (some ((-1 : Int32), z)) else (zk x3 17 <| if ¬ (zgA z 171 x1 (Int32.toNatClampNeg x3)) = x2 then (zl (x3 + 1) fun v4 => K2 x1 x2 v4 z) else (zc (fX18_takeWaiting N x1 x3 z) fun r5 z6 => some (r5, z6)))
def fX19_firstWaiting_2 (N : Nat)  : Nat → Nat → Int32 → Int32 → St → Option (Int32 × St)
  | 0 => fun _ _ _ _ => none
  | n + 1 => fX19_firstWaiting_2b N (fX19_firstWaiting_2 N  n)
set_option maxHeartbeats 4000000 in
set_option maxRecDepth 100000 in
theorem bX19_firstWaiting_2 (hst : zSt B ids) (F : zFx p m c cX19_firstWaiting 4 s args RX19 D cy B ids A) (hA : ∀ q : Nat, s.heap.size ≤ q → A q) {r : Int32} {z' : St} (E : zEnd p l e rmX19_firstWaiting s m args below meth c cX19_firstWaiting D cy B ids A Q (some (.int r)) z' .ireturn True) {N : Nat} {K2 : Nat → Int32 → Int32 → St → Option (Int32 × St)} (hK2 : ∀ (x1 : Nat) (x2 : Int32) (x3 : Int32) (hx1 : (18, x1) ∈ ids) {z : St} {H : Heap} {locs : List Loc} {ls : Array Slot} (hr : zRep D cy B ids A s.heap z H locs) (hl : lv_has ls 4 [(1, .ref (B 18 x1)), (2, .int x2), (3, .int x3)]), K2 x1 x2 x3 z = some (r, z') → W p l e rmX19_firstWaiting s m args below meth c H locs 0 0 Q (F0 m 2 ls [])) (x1 : Nat) (x2 : Int32) (x3 : Int32) (hx1 : (18, x1) ∈ ids) {z : St} {H : Heap} {locs : List Loc} {ls : Array Slot} (hr : zRep D cy B ids A s.heap z H locs) (hl : lv_has ls 4 [(1, .ref (B 18 x1)), (2, .int x2), (3, .int x3)]) (h : fX19_firstWaiting_2b N K2 x1 x2 x3 z = some (r, z')) : W p l e rmX19_firstWaiting s m args below meth c H locs 0 0 Q (F0 m 2 ls []) := by
  unfold fX19_firstWaiting_2b at h
  refine lv_iload_n F.1 F.2.1 dX19_firstWaiting_2 rfl (lv_at hl 2 rfl) ?_
  refine lv_aload_n F.1 F.2.1 dX19_firstWaiting_3 rfl (lv_at hl 0 rfl) ?_
  refine gf19_226 F hx1 hr dX19_firstWaiting_4 ?_
  refine lv_icmp_ge (tgt := 32) F.1 F.2.1 dX19_firstWaiting_7 (by decide) (fun c1 => ?_) (fun c1 => ?_)
  · replace h := zi_t c1 h
    refine lv_iconst (v := (-1 : Int32)) F.1 F.2.1 dX19_firstWaiting_32 (by decide) ?_
    obtain ⟨rfl, rfl⟩ := zret h
    exact E _ _ _ _ dX19_firstWaiting_33 trivial hr
  · replace h := zi_f c1 h
    refine lv_aload_n F.1 F.2.1 dX19_firstWaiting_10 rfl (lv_at hl 0 rfl) ?_
    refine gf19_229 F hx1 hr dX19_firstWaiting_11 ?_
    refine lv_iload_n F.1 F.2.1 dX19_firstWaiting_14 rfl (lv_at hl 2 rfl) ?_
    replace h := zk_some h
    obtain ⟨c2, h⟩ := h
    refine zr_iald (k := 171) (by decide) rfl (by decide) F (zal_a F hx1 (j := 11) rfl) hr dX19_firstWaiting_15 c2 ?_
    refine lv_iload_n F.1 F.2.1 dX19_firstWaiting_16 rfl (lv_at hl 1 rfl) ?_
    refine lv_icmp_ne (tgt := 26) F.1 F.2.1 dX19_firstWaiting_17 (by decide) (fun c3 => ?_) (fun c3 => ?_)
    · replace h := zi_t c3 h
      obtain ⟨v4, ev4⟩ : ∃ y : Int32, y = (x3 + 1) := ⟨_, rfl⟩
      replace h := zl_sub ev4 h
      refine lv_iinc (v := v4) (lv' := [(3, .int v4), (1, .ref (B 18 x1)), (2, .int x2)]) F.1 F.2.1 dX19_firstWaiting_26 hl (k := 2) rfl (by rw [ev4]; rfl) (by decide) rfl (fun ls hl => ?_)
      refine lv_goto (tgt := 2) F.1 F.2.1 dX19_firstWaiting_29 (by decide) ?_
      exact hK2 x1 x2 v4 hx1 hr (lv_sub hl [1, 2, 0] rfl) h
    · replace h := zi_f (fun q => q c3) h
      refine lv_aload_n F.1 F.2.1 dX19_firstWaiting_20 rfl (lv_at hl 0 rfl) ?_
      refine lv_iload_n F.1 F.2.1 dX19_firstWaiting_21 rfl (lv_at hl 2 rfl) ?_
      replace h := zc_some h
      obtain ⟨r5, z6, hc7, h⟩ := h
      refine zr_calli (zrun_VN (As := [.int x3]) (rest := []) zn_2603 zq_2605 zs_X18_takeWaiting zq_2606 zq_25 hdX18_takeWaiting (by decide) (T := TX18) (N := 13) rfl (okX18_takeWaiting l D cy B ids hst N x1 hx1 x3  hr.2.2 hc7) F hr hx1 hl.1 rfl (by decide) dX19_firstWaiting_22 rfl rfl hroX19_firstWaiting_X18_takeWaiting ⟨Nat.zero_le _, Nat.zero_le _⟩) F hA hr (fun H locs hw8 hr => ?_)
      clear hc7
      obtain ⟨rfl, rfl⟩ := zret h
      exact E _ _ _ _ dX19_firstWaiting_25 trivial hr
theorem lX19_firstWaiting_2 (hst : zSt B ids) (F : zFx p m c cX19_firstWaiting 4 s args RX19 D cy B ids A) (hA : ∀ q : Nat, s.heap.size ≤ q → A q) {r : Int32} {z' : St} (E : zEnd p l e rmX19_firstWaiting s m args below meth c cX19_firstWaiting D cy B ids A Q (some (.int r)) z' .ireturn True) {N : Nat}  : ∀ (n : Nat) (x1 : Nat) (x2 : Int32) (x3 : Int32) (hx1 : (18, x1) ∈ ids) {z : St} {H : Heap} {locs : List Loc} {ls : Array Slot} (hr : zRep D cy B ids A s.heap z H locs) (hl : lv_has ls 4 [(1, .ref (B 18 x1)), (2, .int x2), (3, .int x3)]), fX19_firstWaiting_2 N  n x1 x2 x3 z = some (r, z') → W p l e rmX19_firstWaiting s m args below meth c H locs 0 0 Q (F0 m 2 ls []) := by
  intro n
  induction n with
  | zero => intro x1 x2 x3 hx1 z H locs ls hr hl h; cases h
  | succ n ih => intro x1 x2 x3 hx1 z H locs ls hr hl h; exact bX19_firstWaiting_2 hst F hA E ih x1 x2 x3 hx1 hr hl h
def fX19_firstWaiting (N : Nat)  (x0 : Nat) (x1 : Nat) (x2 : Int32) (z : St) : Option (Int32 × St) := fX19_firstWaiting_2 N N x1 x2 (0 : Int32) z
set_option maxHeartbeats 4000000 in
set_option maxRecDepth 100000 in
theorem bX19_firstWaiting_0 (hst : zSt B ids) (F : zFx p m c cX19_firstWaiting 4 s args RX19 D cy B ids A) (hA : ∀ q : Nat, s.heap.size ≤ q → A q) {r : Int32} {z' : St} (E : zEnd p l e rmX19_firstWaiting s m args below meth c cX19_firstWaiting D cy B ids A Q (some (.int r)) z' .ireturn True) {N : Nat}  (x0 : Nat) (x1 : Nat) (x2 : Int32) (hx0 : (19, x0) ∈ ids) (hx1 : (18, x1) ∈ ids) {z : St} {H : Heap} {locs : List Loc} {ls : Array Slot} (hr : zRep D cy B ids A s.heap z H locs) (hl : lv_has ls 4 [(0, .ref (B 19 x0)), (1, .ref (B 18 x1)), (2, .int x2)]) (h : fX19_firstWaiting N x0 x1 x2 z = some (r, z')) : W p l e rmX19_firstWaiting s m args below meth c H locs 0 0 Q (F0 m 0 ls []) := by
  unfold fX19_firstWaiting at h
  refine lv_iconst (v := (0 : Int32)) F.1 F.2.1 dX19_firstWaiting_0 (by decide) ?_
  refine lv_istore_n (lv' := [(3, .int (0 : Int32)), (0, .ref (B 19 x0)), (1, .ref (B 18 x1)), (2, .int x2)]) F.1 F.2.1 dX19_firstWaiting_1 rfl hl (by decide) rfl (fun ls hl => ?_)
  exact lX19_firstWaiting_2 hst F hA E  _ x1 x2 (0 : Int32) hx1 hr (lv_sub hl [2, 3, 0] rfl) h
end SX19_firstWaiting
set_option maxRecDepth 100000 in
theorem okX19_firstWaiting (l : Launch) (D : va_G) (cy : Nat → ClassId) (B : Nat → Nat → Nat) (ids : List (Nat × Nat)) (hst : zSt B ids) (N : Nat) (x0 : Nat) (hx0 : (19, x0) ∈ ids) (x1 : Nat) (hx1 : (18, x1) ∈ ids) (x2 : Int32) {z : St} {r : Int32} {z' : St} (hW : zWf ids z) (h : fX19_firstWaiting N x0 x1 x2 z = some (r, z')) : zM l yX19_firstWaiting (zws yX19_firstWaiting cX19_firstWaiting 4 (some .int)) rmX19_firstWaiting D cy B ids [.ref (B 19 x0), .ref (B 18 x1), .int x2] (some (.int r)) True z z' :=
  zM_of hst hW (by decide +kernel) (Nat.le_of_ble_eq_true rfl) (fun p e s m args below meth c A ls F hA hret hlocks hr hl => bX19_firstWaiting_0 hst F hA (zEnd_i F hret hlocks) x0 x1 x2 hx0 hx1 hr hl h)
abbrev rmX19_isOwn : Room := { frames := 1, cells := 0, slots := 0, locals := 20 }
theorem hdX19_isOwn : yX19_isOwn.cls ≠ "java/lang/invoke/MethodHandle" ∧ yX19_isOwn.cls ≠ "java/lang/invoke/VarHandle" ∧ (parseMethodDescriptor yX19_isOwn.desc).map (fun d => d.parameters.length) = some 2 := by decide +kernel
theorem hroX19_isOwn_X18_address : rmX18_address.frames + 1 ≤ rmX19_isOwn.frames ∧ 8 + (1 + 11) + rmX18_address.locals ≤ rmX19_isOwn.locals := by decide
section SX19_isOwn
variable {p : Program} {l : Launch} {e : Env} {s : State} {m : MethodId} {args : Array Value} {below : List Frame} {meth : Method} {c : Code} {Q : State → Prop} {D : va_G} {cy : Nat → ClassId} {B : Nat → Nat → Nat} {ids : List (Nat × Nat)} {A : Nat → Prop}
def fX19_isOwn_2b (N : Nat) (K2 : Nat → Int32 → Int32 → St → Option (Int32 × St)) (x1 : Nat) (x2 : Int32) (x3 : Int32) (z : St) : Option (Int32 × St) := if (zgI z 12 3 x1) ≤ x3 then (some ((0 : Int32), z)) else (zk x3 6 <| zl (zgQ z 147 x1 (Int32.toNatClampNeg x3)) fun y3 => zd y3 fun a4 => zc (fX18_address N a4 z) fun r5 z6 => if ¬ r5 = x2 then (zl (x3 + 1) fun v10 => K2 x1 x2 v10 z6) else (some ((1 : Int32), z6)))
def fX19_isOwn_2 (N : Nat)  : Nat → Nat → Int32 → Int32 → St → Option (Int32 × St)
  | 0 => fun _ _ _ _ => none
  | n + 1 => fX19_isOwn_2b N (fX19_isOwn_2 N  n)
set_option maxHeartbeats 4000000 in
set_option maxRecDepth 100000 in
theorem bX19_isOwn_2 (hst : zSt B ids) (F : zFx p m c cX19_isOwn 4 s args RX19 D cy B ids A) (hA : ∀ q : Nat, s.heap.size ≤ q → A q) {r : Int32} {z' : St} (E : zEnd p l e rmX19_isOwn s m args below meth c cX19_isOwn D cy B ids A Q (some (.int r)) z' .ireturn (r = 0 ∨ r = 1)) {N : Nat} {K2 : Nat → Int32 → Int32 → St → Option (Int32 × St)} (hK2 : ∀ (x1 : Nat) (x2 : Int32) (x3 : Int32) (hx1 : (12, x1) ∈ ids) {z : St} {H : Heap} {locs : List Loc} {ls : Array Slot} (hr : zRep D cy B ids A s.heap z H locs) (hl : lv_has ls 4 [(1, .ref (B 12 x1)), (2, .int x2), (3, .int x3)]), K2 x1 x2 x3 z = some (r, z') → W p l e rmX19_isOwn s m args below meth c H locs 0 0 Q (F0 m 2 ls [])) (x1 : Nat) (x2 : Int32) (x3 : Int32) (hx1 : (12, x1) ∈ ids) {z : St} {H : Heap} {locs : List Loc} {ls : Array Slot} (hr : zRep D cy B ids A s.heap z H locs) (hl : lv_has ls 4 [(1, .ref (B 12 x1)), (2, .int x2), (3, .int x3)]) (h : fX19_isOwn_2b N K2 x1 x2 x3 z = some (r, z')) : W p l e rmX19_isOwn s m args below meth c H locs 0 0 Q (F0 m 2 ls []) := by
  unfold fX19_isOwn_2b at h
  refine lv_iload_n F.1 F.2.1 dX19_isOwn_2 rfl (lv_at hl 2 rfl) ?_
  refine lv_aload_n F.1 F.2.1 dX19_isOwn_3 rfl (lv_at hl 0 rfl) ?_
  refine gf19_273 F hx1 hr dX19_isOwn_4 ?_
  refine lv_icmp_ge (tgt := 31) F.1 F.2.1 dX19_isOwn_7 (by decide) (fun c1 => ?_) (fun c1 => ?_)
  · replace h := zi_t c1 h
    refine lv_iconst (v := (0 : Int32)) F.1 F.2.1 dX19_isOwn_31 (by decide) ?_
    obtain ⟨rfl, rfl⟩ := zret h
    exact E _ _ _ _ dX19_isOwn_32 (by decide) hr
  · replace h := zi_f c1 h
    refine lv_aload_n F.1 F.2.1 dX19_isOwn_10 rfl (lv_at hl 0 rfl) ?_
    refine gf19_276 F hx1 hr dX19_isOwn_11 ?_
    refine lv_iload_n F.1 F.2.1 dX19_isOwn_14 rfl (lv_at hl 2 rfl) ?_
    replace h := zk_some h
    obtain ⟨c2, h⟩ := h
    refine zr_aaldv (k := 147) (by decide) rfl rfl (zlen_d (by decide)) F (zal_a F hx1 (j := 2) rfl) hr dX19_isOwn_15 c2 (fun y3 ey3 => ?_)
    replace h := zl_sub ey3 h
    have hy3 := zal_q hr (zal_a F hx1 (j := 2) rfl) rfl ey3
    clear ey3
    replace h := zd_some h
    obtain ⟨a4, rfl, h⟩ := h
    replace h := zc_some h
    obtain ⟨r5, z6, hc7, h⟩ := h
    refine zr_calli (zrun_VN (As := []) (rest := []) zn_2520 zq_2522 zs_X18_address zq_2523 zq_25 hdX18_address (by decide) (T := TX18) (N := 13) rfl (okX18_address l D cy B ids hst N a4 (hy3 _ rfl) hr.2.2 hc7) F hr (hy3 _ rfl) hl.1 rfl (by decide) dX19_isOwn_16 rfl rfl hroX19_isOwn_X18_address ⟨Nat.zero_le _, Nat.zero_le _⟩) F hA hr (fun H locs hw8 hr => ?_)
    clear hc7
    refine lv_iload_n F.1 F.2.1 dX19_isOwn_19 rfl (lv_at hl 1 rfl) ?_
    refine lv_icmp_ne (tgt := 25) F.1 F.2.1 dX19_isOwn_20 (by decide) (fun c9 => ?_) (fun c9 => ?_)
    · replace h := zi_t c9 h
      obtain ⟨v10, ev10⟩ : ∃ y : Int32, y = (x3 + 1) := ⟨_, rfl⟩
      replace h := zl_sub ev10 h
      refine lv_iinc (v := v10) (lv' := [(3, .int v10), (1, .ref (B 12 x1)), (2, .int x2)]) F.1 F.2.1 dX19_isOwn_25 hl (k := 2) rfl (by rw [ev10]; rfl) (by decide) rfl (fun ls hl => ?_)
      refine lv_goto (tgt := 2) F.1 F.2.1 dX19_isOwn_28 (by decide) ?_
      exact hK2 x1 x2 v10 hx1 hr (lv_sub hl [1, 2, 0] rfl) h
    · replace h := zi_f (fun q => q c9) h
      refine lv_iconst (v := (1 : Int32)) F.1 F.2.1 dX19_isOwn_23 (by decide) ?_
      obtain ⟨rfl, rfl⟩ := zret h
      exact E _ _ _ _ dX19_isOwn_24 (by decide) hr
theorem lX19_isOwn_2 (hst : zSt B ids) (F : zFx p m c cX19_isOwn 4 s args RX19 D cy B ids A) (hA : ∀ q : Nat, s.heap.size ≤ q → A q) {r : Int32} {z' : St} (E : zEnd p l e rmX19_isOwn s m args below meth c cX19_isOwn D cy B ids A Q (some (.int r)) z' .ireturn (r = 0 ∨ r = 1)) {N : Nat}  : ∀ (n : Nat) (x1 : Nat) (x2 : Int32) (x3 : Int32) (hx1 : (12, x1) ∈ ids) {z : St} {H : Heap} {locs : List Loc} {ls : Array Slot} (hr : zRep D cy B ids A s.heap z H locs) (hl : lv_has ls 4 [(1, .ref (B 12 x1)), (2, .int x2), (3, .int x3)]), fX19_isOwn_2 N  n x1 x2 x3 z = some (r, z') → W p l e rmX19_isOwn s m args below meth c H locs 0 0 Q (F0 m 2 ls []) := by
  intro n
  induction n with
  | zero => intro x1 x2 x3 hx1 z H locs ls hr hl h; cases h
  | succ n ih => intro x1 x2 x3 hx1 z H locs ls hr hl h; exact bX19_isOwn_2 hst F hA E ih x1 x2 x3 hx1 hr hl h
def fX19_isOwn (N : Nat)  (x0 : Nat) (x1 : Nat) (x2 : Int32) (z : St) : Option (Int32 × St) := fX19_isOwn_2 N N x1 x2 (0 : Int32) z
set_option maxHeartbeats 4000000 in
set_option maxRecDepth 100000 in
theorem bX19_isOwn_0 (hst : zSt B ids) (F : zFx p m c cX19_isOwn 4 s args RX19 D cy B ids A) (hA : ∀ q : Nat, s.heap.size ≤ q → A q) {r : Int32} {z' : St} (E : zEnd p l e rmX19_isOwn s m args below meth c cX19_isOwn D cy B ids A Q (some (.int r)) z' .ireturn (r = 0 ∨ r = 1)) {N : Nat}  (x0 : Nat) (x1 : Nat) (x2 : Int32) (hx0 : (19, x0) ∈ ids) (hx1 : (12, x1) ∈ ids) {z : St} {H : Heap} {locs : List Loc} {ls : Array Slot} (hr : zRep D cy B ids A s.heap z H locs) (hl : lv_has ls 4 [(0, .ref (B 19 x0)), (1, .ref (B 12 x1)), (2, .int x2)]) (h : fX19_isOwn N x0 x1 x2 z = some (r, z')) : W p l e rmX19_isOwn s m args below meth c H locs 0 0 Q (F0 m 0 ls []) := by
  unfold fX19_isOwn at h
  refine lv_iconst (v := (0 : Int32)) F.1 F.2.1 dX19_isOwn_0 (by decide) ?_
  refine lv_istore_n (lv' := [(3, .int (0 : Int32)), (0, .ref (B 19 x0)), (1, .ref (B 12 x1)), (2, .int x2)]) F.1 F.2.1 dX19_isOwn_1 rfl hl (by decide) rfl (fun ls hl => ?_)
  exact lX19_isOwn_2 hst F hA E  _ x1 x2 (0 : Int32) hx1 hr (lv_sub hl [2, 3, 0] rfl) h
end SX19_isOwn
set_option maxRecDepth 100000 in
theorem okX19_isOwn (l : Launch) (D : va_G) (cy : Nat → ClassId) (B : Nat → Nat → Nat) (ids : List (Nat × Nat)) (hst : zSt B ids) (N : Nat) (x0 : Nat) (hx0 : (19, x0) ∈ ids) (x1 : Nat) (hx1 : (12, x1) ∈ ids) (x2 : Int32) {z : St} {r : Int32} {z' : St} (hW : zWf ids z) (h : fX19_isOwn N x0 x1 x2 z = some (r, z')) : zM l yX19_isOwn (zws yX19_isOwn cX19_isOwn 4 (some .boolean)) rmX19_isOwn D cy B ids [.ref (B 19 x0), .ref (B 12 x1), .int x2] (some (.int r)) (r = 0 ∨ r = 1) z z' :=
  zM_of hst hW (by decide +kernel) (Nat.le_of_ble_eq_true rfl) (fun p e s m args below meth c A ls F hA hret hlocks hr hl => bX19_isOwn_0 hst F hA (zEnd_z F hret hlocks) x0 x1 x2 hx0 hx1 hr hl h)
abbrev rmX19_act : Room := { frames := 2, cells := 0, slots := 0, locals := 43 }
theorem hdX19_act : yX19_act.cls ≠ "java/lang/invoke/MethodHandle" ∧ yX19_act.cls ≠ "java/lang/invoke/VarHandle" ∧ (parseMethodDescriptor yX19_act.desc).map (fun d => d.parameters.length) = some 5 := by decide +kernel
theorem hroX19_act_X14_become : rmX14_become.frames + 1 ≤ rmX19_act.frames ∧ 8 + (3 + 11) + rmX14_become.locals ≤ rmX19_act.locals := by decide
theorem hroX19_act_X19_isOwn : rmX19_isOwn.frames + 1 ≤ rmX19_act.frames ∧ 8 + (4 + 11) + rmX19_isOwn.locals ≤ rmX19_act.locals := by decide
section SX19_act
variable {p : Program} {l : Launch} {e : Env} {s : State} {m : MethodId} {args : Array Value} {below : List Frame} {meth : Method} {c : Code} {Q : State → Prop} {D : va_G} {cy : Nat → ClassId} {B : Nat → Nat → Nat} {ids : List (Nat × Nat)} {A : Nat → Prop}
def fX19_act_100 (N : Nat) (K3 : Nat → Nat → Int32 → Int32 → Int32 → Int32 → Int32 → St → Option (Int32 × St)) (x0 : Nat) (x1 : Nat) (x2 : Int32) (x3 : Int32) (x4 : Int32) (x5 : Int32) (x6 : Int32) (z : St) : Option (Int32 × St) := zl (x6 + 1) fun v1 => K3 x0 x1 x2 x3 x4 x5 v1 z
set_option maxHeartbeats 4000000 in
set_option maxRecDepth 100000 in
theorem bX19_act_100 (hst : zSt B ids) (F : zFx p m c cX19_act 8 s args RX19 D cy B ids A) (hA : ∀ q : Nat, s.heap.size ≤ q → A q) {r : Int32} {z' : St} (E : zEnd p l e rmX19_act s m args below meth c cX19_act D cy B ids A Q none z' .return_ True) {N : Nat} {K3 : Nat → Nat → Int32 → Int32 → Int32 → Int32 → Int32 → St → Option (Int32 × St)} (hK3 : ∀ (x0 : Nat) (x1 : Nat) (x2 : Int32) (x3 : Int32) (x4 : Int32) (x5 : Int32) (x6 : Int32) (hx0 : (19, x0) ∈ ids) (hx1 : (12, x1) ∈ ids) {z : St} {H : Heap} {locs : List Loc} {ls : Array Slot} (hr : zRep D cy B ids A s.heap z H locs) (hl : lv_has ls 8 [(0, .ref (B 19 x0)), (1, .ref (B 12 x1)), (2, .int x2), (3, .int x3), (4, .int x4), (5, .int x5), (6, .int x6)]), K3 x0 x1 x2 x3 x4 x5 x6 z = some (r, z') → W p l e rmX19_act s m args below meth c H locs 0 0 Q (F0 m 3 ls [])) (x0 : Nat) (x1 : Nat) (x2 : Int32) (x3 : Int32) (x4 : Int32) (x5 : Int32) (x6 : Int32) (hx0 : (19, x0) ∈ ids) (hx1 : (12, x1) ∈ ids) {z : St} {H : Heap} {locs : List Loc} {ls : Array Slot} (hr : zRep D cy B ids A s.heap z H locs) (hl : lv_has ls 8 [(0, .ref (B 19 x0)), (1, .ref (B 12 x1)), (2, .int x2), (3, .int x3), (4, .int x4), (5, .int x5), (6, .int x6)]) (h : fX19_act_100 N K3 x0 x1 x2 x3 x4 x5 x6 z = some (r, z')) : W p l e rmX19_act s m args below meth c H locs 0 0 Q (F0 m 100 ls []) := by
  unfold fX19_act_100 at h
  obtain ⟨v1, ev1⟩ : ∃ y : Int32, y = (x6 + 1) := ⟨_, rfl⟩
  replace h := zl_sub ev1 h
  refine lv_iinc (v := v1) (lv' := [(6, .int v1), (0, .ref (B 19 x0)), (1, .ref (B 12 x1)), (2, .int x2), (3, .int x3), (4, .int x4), (5, .int x5)]) F.1 F.2.1 dX19_act_100 hl (k := 6) rfl (by rw [ev1]; rfl) (by decide) rfl (fun ls hl => ?_)
  refine lv_goto (tgt := 3) F.1 F.2.1 dX19_act_103 (by decide) ?_
  exact hK3 x0 x1 x2 x3 x4 x5 v1 hx0 hx1 hr (lv_sub hl [1, 2, 3, 4, 5, 6, 0] rfl) h
def fX19_act_3b (N : Nat) (K3 : Nat → Nat → Int32 → Int32 → Int32 → Int32 → Int32 → St → Option (Int32 × St)) (x0 : Nat) (x1 : Nat) (x2 : Int32) (x3 : Int32) (x4 : Int32) (x5 : Int32) (x6 : Int32) (z : St) : Option (Int32 × St) := if ¬ (zgI z 12 1 x1) = 0 then (some (0, z)) else (if (6 : Int32) ≤ x6 then (some (0, z)) else (zk x6 6 <| zl (zgQ z 158 x1 (Int32.toNatClampNeg x6)) fun y4 => zd y4 fun a5 => zl (zgR z 13 4 a5) fun y6 => zk x6 6 <| zl (zgQ z 158 x1 (Int32.toNatClampNeg x6)) fun y8 => zd y8 fun a9 => if (zgI z 13 3 a9) = 0 then (fX19_act_100 N K3 x0 x1 x2 x3 x4 x5 x6 z) else (zd y6 fun a11 => if ¬ (zgI z 14 0 a11) = (2 : Int32) then (fX19_act_100 N K3 x0 x1 x2 x3 x4 x5 x6 z) else (zc (fX19_isOwn N x0 x1 x2 z) fun r13 z14 => if r13 = 0 then (fX19_act_100 N K3 x0 x1 x2 x3 x4 x5 x6 z14) else (if ¬ (zgI z14 14 2 a11) = x4 then (fX19_act_100 N K3 x0 x1 x2 x3 x4 x5 x6 z14) else (if ¬ (zgI z14 14 3 a11) = x3 then (fX19_act_100 N K3 x0 x1 x2 x3 x4 x5 x6 z14) else (if ¬ (zgI z14 14 4 a11) = x5 then (fX19_act_100 N K3 x0 x1 x2 x3 x4 x5 x6 z14) else (zc (fX14_become N a11 (11 : Int32) (zgI z14 19 24 x0) z14) fun _ z22 => fX19_act_100 N K3 x0 x1 x2 x3 x4 x5 x6 z22))))))))
def fX19_act_3 (N : Nat)  : Nat → Nat → Nat → Int32 → Int32 → Int32 → Int32 → Int32 → St → Option (Int32 × St)
  | 0 => fun _ _ _ _ _ _ _ _ => none
  | n + 1 => fX19_act_3b N (fX19_act_3 N  n)
set_option maxHeartbeats 4000000 in
set_option maxRecDepth 100000 in
theorem bX19_act_3 (hst : zSt B ids) (F : zFx p m c cX19_act 8 s args RX19 D cy B ids A) (hA : ∀ q : Nat, s.heap.size ≤ q → A q) {r : Int32} {z' : St} (E : zEnd p l e rmX19_act s m args below meth c cX19_act D cy B ids A Q none z' .return_ True) {N : Nat} {K3 : Nat → Nat → Int32 → Int32 → Int32 → Int32 → Int32 → St → Option (Int32 × St)} (hK3 : ∀ (x0 : Nat) (x1 : Nat) (x2 : Int32) (x3 : Int32) (x4 : Int32) (x5 : Int32) (x6 : Int32) (hx0 : (19, x0) ∈ ids) (hx1 : (12, x1) ∈ ids) {z : St} {H : Heap} {locs : List Loc} {ls : Array Slot} (hr : zRep D cy B ids A s.heap z H locs) (hl : lv_has ls 8 [(0, .ref (B 19 x0)), (1, .ref (B 12 x1)), (2, .int x2), (3, .int x3), (4, .int x4), (5, .int x5), (6, .int x6)]), K3 x0 x1 x2 x3 x4 x5 x6 z = some (r, z') → W p l e rmX19_act s m args below meth c H locs 0 0 Q (F0 m 3 ls [])) (x0 : Nat) (x1 : Nat) (x2 : Int32) (x3 : Int32) (x4 : Int32) (x5 : Int32) (x6 : Int32) (hx0 : (19, x0) ∈ ids) (hx1 : (12, x1) ∈ ids) {z : St} {H : Heap} {locs : List Loc} {ls : Array Slot} (hr : zRep D cy B ids A s.heap z H locs) (hl : lv_has ls 8 [(0, .ref (B 19 x0)), (1, .ref (B 12 x1)), (2, .int x2), (3, .int x3), (4, .int x4), (5, .int x5), (6, .int x6)]) (h : fX19_act_3b N K3 x0 x1 x2 x3 x4 x5 x6 z = some (r, z')) : W p l e rmX19_act s m args below meth c H locs 0 0 Q (F0 m 3 ls []) := by
  unfold fX19_act_3b at h
  refine lv_aload_n F.1 F.2.1 dX19_act_3 rfl (lv_at hl 1 rfl) ?_
  refine gf19_298 F hx1 hr dX19_act_4 ?_
  refine lv_if_ne (tgt := 106) F.1 F.2.1 dX19_act_7 (by decide) (fun c1 => ?_) (fun c1 => ?_)
  · replace h := zi_t c1 h
    obtain ⟨rfl, rfl⟩ := zret h
    exact E _ _ _ _ dX19_act_106 trivial hr
  · replace h := zi_f (fun q => q c1) h
    refine lv_iload F.1 F.2.1 dX19_act_10 (lv_at hl 6 rfl) ?_
    refine lv_bipush (v := (6 : Int32)) F.1 F.2.1 dX19_act_12 (by decide) ?_
    refine lv_icmp_ge (tgt := 106) F.1 F.2.1 dX19_act_14 (by decide) (fun c2 => ?_) (fun c2 => ?_)
    · replace h := zi_t c2 h
      obtain ⟨rfl, rfl⟩ := zret h
      exact E _ _ _ _ dX19_act_106 trivial hr
    · replace h := zi_f c2 h
      refine lv_aload_n F.1 F.2.1 dX19_act_17 rfl (lv_at hl 1 rfl) ?_
      refine gf19_340 F hx1 hr dX19_act_18 ?_
      refine lv_iload F.1 F.2.1 dX19_act_21 (lv_at hl 6 rfl) ?_
      replace h := zk_some h
      obtain ⟨c3, h⟩ := h
      refine zr_aaldv (k := 158) (by decide) rfl rfl (zlen_d (by decide)) F (zal_a F hx1 (j := 28) rfl) hr dX19_act_23 c3 (fun y4 ey4 => ?_)
      replace h := zl_sub ey4 h
      have hy4 := zal_q hr (zal_a F hx1 (j := 28) rfl) rfl ey4
      clear ey4
      replace h := zd_some h
      obtain ⟨a5, rfl, h⟩ := h
      refine gf19_344 F (hy4 _ rfl) hr dX19_act_24 (fun y6 ey6 => ?_)
      replace h := zl_sub ey6 h
      have hy6 := zal_g hr (hy4 _ rfl) (j := 4) rfl ey6
      clear ey6
      refine zr_astore (lv' := [(7, va_rf (Option.map (B 14) y6)), (0, .ref (B 19 x0)), (1, .ref (B 12 x1)), (2, .int x2), (3, .int x3), (4, .int x4), (5, .int x5), (6, .int x6)]) F.1 F.2.1 dX19_act_27 hl (by decide) rfl (fun ls hl => ?_)
      refine lv_aload_n F.1 F.2.1 dX19_act_29 rfl (lv_at hl 2 rfl) ?_
      refine gf19_340 F hx1 hr dX19_act_30 ?_
      refine lv_iload F.1 F.2.1 dX19_act_33 (lv_at hl 7 rfl) ?_
      replace h := zk_some h
      obtain ⟨c7, h⟩ := h
      refine zr_aaldv (k := 158) (by decide) rfl rfl (zlen_d (by decide)) F (zal_a F hx1 (j := 28) rfl) hr dX19_act_35 c7 (fun y8 ey8 => ?_)
      replace h := zl_sub ey8 h
      have hy8 := zal_q hr (zal_a F hx1 (j := 28) rfl) rfl ey8
      clear ey8
      replace h := zd_some h
      obtain ⟨a9, rfl, h⟩ := h
      refine gf19_350 F (hy8 _ rfl) hr dX19_act_36 ?_
      refine lv_if_eq (tgt := 100) F.1 F.2.1 dX19_act_39 (by decide) (fun c10 => ?_) (fun c10 => ?_)
      · replace h := zi_t c10 h
        exact bX19_act_100 hst F hA E hK3 x0 x1 x2 x3 x4 x5 x6 hx0 hx1 hr (lv_sub hl [1, 2, 3, 4, 5, 6, 7] rfl) h
      · replace h := zi_f c10 h
        refine zr_aload F.1 F.2.1 dX19_act_42 (lv_at hl 0 rfl) ?_
        replace h := zd_some h
        obtain ⟨a11, rfl, h⟩ := h
        refine gf19_353 F (hy6 _ rfl) hr dX19_act_44 ?_
        refine lv_iconst (v := (2 : Int32)) F.1 F.2.1 dX19_act_47 (by decide) ?_
        refine lv_icmp_ne (tgt := 100) F.1 F.2.1 dX19_act_48 (by decide) (fun c12 => ?_) (fun c12 => ?_)
        · replace h := zi_t c12 h
          exact bX19_act_100 hst F hA E hK3 x0 x1 x2 x3 x4 x5 x6 hx0 hx1 hr (lv_sub hl [1, 2, 3, 4, 5, 6, 7] rfl) h
        · replace h := zi_f (fun q => q c12) h
          refine lv_aload_n F.1 F.2.1 dX19_act_51 rfl (lv_at hl 1 rfl) ?_
          refine lv_aload_n F.1 F.2.1 dX19_act_52 rfl (lv_at hl 2 rfl) ?_
          refine lv_iload_n F.1 F.2.1 dX19_act_53 rfl (lv_at hl 3 rfl) ?_
          replace h := zc_some h
          obtain ⟨r13, z14, hc15, h⟩ := h
          refine zr_calli (zrun_V (As := [.ref (B 12 x1), .int x2]) (rest := []) zq_2627 zq_2629 zs_X19_isOwn zq_2630 zq_4 hdX19_isOwn (by decide) (T := TX19) (N := 32) rfl (okX19_isOwn l D cy B ids hst N x0 hx0 x1 hx1 x2  hr.2.2 hc15) F hr hx0 hl.1 rfl (by decide) dX19_act_54 rfl rfl hroX19_act_X19_isOwn ⟨Nat.zero_le _, Nat.zero_le _⟩) F hA hr (fun H locs hw16 hr => ?_)
          clear hc15
          refine lv_if_eq (tgt := 100) F.1 F.2.1 dX19_act_57 (by decide) (fun c17 => ?_) (fun c17 => ?_)
          · replace h := zi_t c17 h
            exact bX19_act_100 hst F hA E hK3 x0 x1 x2 x3 x4 x5 x6 hx0 hx1 hr (lv_sub hl [1, 2, 3, 4, 5, 6, 7] rfl) h
          · replace h := zi_f c17 h
            refine lv_aload F.1 F.2.1 dX19_act_60 (lv_at hl 0 rfl) ?_
            refine gf19_358 F (hy6 _ rfl) hr dX19_act_62 ?_
            refine lv_iload F.1 F.2.1 dX19_act_65 (lv_at hl 5 rfl) ?_
            refine lv_icmp_ne (tgt := 100) F.1 F.2.1 dX19_act_67 (by decide) (fun c18 => ?_) (fun c18 => ?_)
            · replace h := zi_t c18 h
              exact bX19_act_100 hst F hA E hK3 x0 x1 x2 x3 x4 x5 x6 hx0 hx1 hr (lv_sub hl [1, 2, 3, 4, 5, 6, 7] rfl) h
            · replace h := zi_f (fun q => q c18) h
              refine lv_aload F.1 F.2.1 dX19_act_70 (lv_at hl 0 rfl) ?_
              refine gf19_361 F (hy6 _ rfl) hr dX19_act_72 ?_
              refine lv_iload_n F.1 F.2.1 dX19_act_75 rfl (lv_at hl 4 rfl) ?_
              refine lv_icmp_ne (tgt := 100) F.1 F.2.1 dX19_act_76 (by decide) (fun c19 => ?_) (fun c19 => ?_)
              · replace h := zi_t c19 h
                exact bX19_act_100 hst F hA E hK3 x0 x1 x2 x3 x4 x5 x6 hx0 hx1 hr (lv_sub hl [1, 2, 3, 4, 5, 6, 7] rfl) h
              · replace h := zi_f (fun q => q c19) h
                refine lv_aload F.1 F.2.1 dX19_act_79 (lv_at hl 0 rfl) ?_
                refine gf19_364 F (hy6 _ rfl) hr dX19_act_81 ?_
                refine lv_iload F.1 F.2.1 dX19_act_84 (lv_at hl 6 rfl) ?_
                refine lv_icmp_ne (tgt := 100) F.1 F.2.1 dX19_act_86 (by decide) (fun c20 => ?_) (fun c20 => ?_)
                · replace h := zi_t c20 h
                  exact bX19_act_100 hst F hA E hK3 x0 x1 x2 x3 x4 x5 x6 hx0 hx1 hr (lv_sub hl [1, 2, 3, 4, 5, 6, 7] rfl) h
                · replace h := zi_f (fun q => q c20) h
                  refine lv_aload F.1 F.2.1 dX19_act_89 (lv_at hl 0 rfl) ?_
                  refine lv_bipush (v := (11 : Int32)) F.1 F.2.1 dX19_act_91 (by decide) ?_
                  refine lv_aload_n F.1 F.2.1 dX19_act_93 rfl (lv_at hl 1 rfl) ?_
                  refine gf19_143 F hx0 hr dX19_act_94 ?_
                  replace h := zc_some h
                  obtain ⟨r21, z22, hc23, h⟩ := h
                  refine zr_callv (zrun_VN (As := [.int (11 : Int32), .int (zgI z14 19 24 x0)]) (rest := []) zn_2643 zq_2645 zs_X14_become zq_2646 zq_21 hdX14_become (by decide) (T := TX14) (N := 47) rfl (okX14_become l D cy B ids hst N a11 (hy6 _ rfl) (11 : Int32)  (zgI z14 19 24 x0)  hr.2.2 hc23) F hr (hy6 _ rfl) hl.1 rfl (by decide) dX19_act_97 rfl rfl hroX19_act_X14_become ⟨Nat.zero_le _, Nat.zero_le _⟩) F hA hr (fun H locs hw24 hr => ?_)
                  clear hc23
                  exact bX19_act_100 hst F hA E hK3 x0 x1 x2 x3 x4 x5 x6 hx0 hx1 hr (lv_sub hl [1, 2, 3, 4, 5, 6, 7] rfl) h
theorem lX19_act_3 (hst : zSt B ids) (F : zFx p m c cX19_act 8 s args RX19 D cy B ids A) (hA : ∀ q : Nat, s.heap.size ≤ q → A q) {r : Int32} {z' : St} (E : zEnd p l e rmX19_act s m args below meth c cX19_act D cy B ids A Q none z' .return_ True) {N : Nat}  : ∀ (n : Nat) (x0 : Nat) (x1 : Nat) (x2 : Int32) (x3 : Int32) (x4 : Int32) (x5 : Int32) (x6 : Int32) (hx0 : (19, x0) ∈ ids) (hx1 : (12, x1) ∈ ids) {z : St} {H : Heap} {locs : List Loc} {ls : Array Slot} (hr : zRep D cy B ids A s.heap z H locs) (hl : lv_has ls 8 [(0, .ref (B 19 x0)), (1, .ref (B 12 x1)), (2, .int x2), (3, .int x3), (4, .int x4), (5, .int x5), (6, .int x6)]), fX19_act_3 N  n x0 x1 x2 x3 x4 x5 x6 z = some (r, z') → W p l e rmX19_act s m args below meth c H locs 0 0 Q (F0 m 3 ls []) := by
  intro n
  induction n with
  | zero => intro x0 x1 x2 x3 x4 x5 x6 hx0 hx1 z H locs ls hr hl h; cases h
  | succ n ih => intro x0 x1 x2 x3 x4 x5 x6 hx0 hx1 z H locs ls hr hl h; exact bX19_act_3 hst F hA E ih x0 x1 x2 x3 x4 x5 x6 hx0 hx1 hr hl h
def fX19_act (N : Nat)  (x0 : Nat) (x1 : Nat) (x2 : Int32) (x3 : Int32) (x4 : Int32) (x5 : Int32) (z : St) : Option (Int32 × St) := fX19_act_3 N N x0 x1 x2 x3 x4 x5 (0 : Int32) z
set_option maxHeartbeats 4000000 in
set_option maxRecDepth 100000 in
theorem bX19_act_0 (hst : zSt B ids) (F : zFx p m c cX19_act 8 s args RX19 D cy B ids A) (hA : ∀ q : Nat, s.heap.size ≤ q → A q) {r : Int32} {z' : St} (E : zEnd p l e rmX19_act s m args below meth c cX19_act D cy B ids A Q none z' .return_ True) {N : Nat}  (x0 : Nat) (x1 : Nat) (x2 : Int32) (x3 : Int32) (x4 : Int32) (x5 : Int32) (hx0 : (19, x0) ∈ ids) (hx1 : (12, x1) ∈ ids) {z : St} {H : Heap} {locs : List Loc} {ls : Array Slot} (hr : zRep D cy B ids A s.heap z H locs) (hl : lv_has ls 8 [(0, .ref (B 19 x0)), (1, .ref (B 12 x1)), (2, .int x2), (3, .int x3), (4, .int x4), (5, .int x5)]) (h : fX19_act N x0 x1 x2 x3 x4 x5 z = some (r, z')) : W p l e rmX19_act s m args below meth c H locs 0 0 Q (F0 m 0 ls []) := by
  unfold fX19_act at h
  refine lv_iconst (v := (0 : Int32)) F.1 F.2.1 dX19_act_0 (by decide) ?_
  refine lv_istore (lv' := [(6, .int (0 : Int32)), (0, .ref (B 19 x0)), (1, .ref (B 12 x1)), (2, .int x2), (3, .int x3), (4, .int x4), (5, .int x5)]) F.1 F.2.1 dX19_act_1 hl (by decide) rfl (fun ls hl => ?_)
  exact lX19_act_3 hst F hA E  _ x0 x1 x2 x3 x4 x5 (0 : Int32) hx0 hx1 hr (lv_sub hl [1, 2, 3, 4, 5, 6, 0] rfl) h
end SX19_act
set_option maxRecDepth 100000 in
theorem okX19_act (l : Launch) (D : va_G) (cy : Nat → ClassId) (B : Nat → Nat → Nat) (ids : List (Nat × Nat)) (hst : zSt B ids) (N : Nat) (x0 : Nat) (hx0 : (19, x0) ∈ ids) (x1 : Nat) (hx1 : (12, x1) ∈ ids) (x2 : Int32) (x3 : Int32) (x4 : Int32) (x5 : Int32) {z : St} {r : Int32} {z' : St} (hW : zWf ids z) (h : fX19_act N x0 x1 x2 x3 x4 x5 z = some (r, z')) : zM l yX19_act (zws yX19_act cX19_act 8 none) rmX19_act D cy B ids [.ref (B 19 x0), .ref (B 12 x1), .int x2, .int x3, .int x4, .int x5] none True z z' :=
  zM_of hst hW (by decide +kernel) (Nat.le_of_ble_eq_true rfl) (fun p e s m args below meth c A ls F hA hret hlocks hr hl => bX19_act_0 hst F hA (zEnd_v F hret hlocks) x0 x1 x2 x3 x4 x5 hx0 hx1 hr hl h)
abbrev rmX19_isAddress : Room := { frames := 0, cells := 0, slots := 0, locals := 0 }
theorem hdX19_isAddress : yX19_isAddress.cls ≠ "java/lang/invoke/MethodHandle" ∧ yX19_isAddress.cls ≠ "java/lang/invoke/VarHandle" ∧ (parseMethodDescriptor yX19_isAddress.desc).map (fun d => d.parameters.length) = some 1 := by decide +kernel
section SX19_isAddress
variable {p : Program} {l : Launch} {e : Env} {s : State} {m : MethodId} {args : Array Value} {below : List Frame} {meth : Method} {c : Code} {Q : State → Prop} {D : va_G} {cy : Nat → ClassId} {B : Nat → Nat → Nat} {ids : List (Nat × Nat)} {A : Nat → Prop}
def fX19_isAddress (N : Nat)  (x0 : Nat) (x1 : Int32) (z : St) : Option (Int32 × St) := zl (x1 &&& (65535 : Int32)) fun v1 => if ¬ (((x1).toUInt32 >>> (((24 : Int32)).toUInt32 &&& Int32.toUInt32 31)).toInt32) = (10 : Int32) then (some ((0 : Int32), z)) else (if (zgI z 19 21 x0) ≤ ((x1 >>> ((16 : Int32) &&& 31)) &&& (255 : Int32)) then (some ((0 : Int32), z)) else (if v1 < (1 : Int32) then (some ((0 : Int32), z)) else (if (8 : Int32) < v1 then (some ((0 : Int32), z)) else (some ((1 : Int32), z)))))
set_option maxHeartbeats 4000000 in
set_option maxRecDepth 100000 in
theorem bX19_isAddress_0 (hst : zSt B ids) (F : zFx p m c cX19_isAddress 3 s args RX19 D cy B ids A) (hA : ∀ q : Nat, s.heap.size ≤ q → A q) {r : Int32} {z' : St} (E : zEnd p l e rmX19_isAddress s m args below meth c cX19_isAddress D cy B ids A Q (some (.int r)) z' .ireturn (r = 0 ∨ r = 1)) {N : Nat}  (x0 : Nat) (x1 : Int32) (hx0 : (19, x0) ∈ ids) {z : St} {H : Heap} {locs : List Loc} {ls : Array Slot} (hr : zRep D cy B ids A s.heap z H locs) (hl : lv_has ls 3 [(0, .ref (B 19 x0)), (1, .int x1)]) (h : fX19_isAddress N x0 x1 z = some (r, z')) : W p l e rmX19_isAddress s m args below meth c H locs 0 0 Q (F0 m 0 ls []) := by
  unfold fX19_isAddress at h
  refine lv_iload_n F.1 F.2.1 dX19_isAddress_0 rfl (lv_at hl 1 rfl) ?_
  refine lv_ldcw (v := (65535)) F.1 F.2.1 F.2.2.2.1 (F.2.2.2.2.1 _ zq_2784) dX19_isAddress_1 ?_
  refine lv_iand F.1 F.2.1 dX19_isAddress_4 ?_
  refine lv_topi (fun v1 ev1 => ?_)
  replace h := zl_sub ev1 h
  refine lv_istore_n (lv' := [(2, .int v1), (0, .ref (B 19 x0)), (1, .int x1)]) F.1 F.2.1 dX19_isAddress_5 rfl hl (by decide) rfl (fun ls hl => ?_)
  refine lv_iload_n F.1 F.2.1 dX19_isAddress_6 rfl (lv_at hl 2 rfl) ?_
  refine lv_bipush (v := (24 : Int32)) F.1 F.2.1 dX19_isAddress_7 (by decide) ?_
  refine lv_iushr F.1 F.2.1 dX19_isAddress_9 rfl ?_
  refine lv_bipush (v := (10 : Int32)) F.1 F.2.1 dX19_isAddress_10 (by decide) ?_
  refine lv_icmp_ne (tgt := 45) F.1 F.2.1 dX19_isAddress_12 (by decide) (fun c2 => ?_) (fun c2 => ?_)
  · replace h := zi_t c2 h
    refine lv_iconst (v := (0 : Int32)) F.1 F.2.1 dX19_isAddress_45 (by decide) ?_
    obtain ⟨rfl, rfl⟩ := zret h
    exact E _ _ _ _ dX19_isAddress_46 (by decide) hr
  · replace h := zi_f (fun q => q c2) h
    refine lv_iload_n F.1 F.2.1 dX19_isAddress_15 rfl (lv_at hl 2 rfl) ?_
    refine lv_bipush (v := (16 : Int32)) F.1 F.2.1 dX19_isAddress_16 (by decide) ?_
    refine lv_ishr F.1 F.2.1 dX19_isAddress_18 ?_
    refine lv_sipush (v := (255 : Int32)) F.1 F.2.1 dX19_isAddress_19 (by decide) ?_
    refine lv_iand F.1 F.2.1 dX19_isAddress_22 ?_
    refine lv_aload_n F.1 F.2.1 dX19_isAddress_23 rfl (lv_at hl 1 rfl) ?_
    refine gf19_270 F hx0 hr dX19_isAddress_24 ?_
    refine lv_icmp_ge (tgt := 45) F.1 F.2.1 dX19_isAddress_27 (by decide) (fun c3 => ?_) (fun c3 => ?_)
    · replace h := zi_t c3 h
      refine lv_iconst (v := (0 : Int32)) F.1 F.2.1 dX19_isAddress_45 (by decide) ?_
      obtain ⟨rfl, rfl⟩ := zret h
      exact E _ _ _ _ dX19_isAddress_46 (by decide) hr
    · replace h := zi_f c3 h
      refine lv_iload_n F.1 F.2.1 dX19_isAddress_30 rfl (lv_at hl 0 rfl) ?_
      refine lv_iconst (v := (1 : Int32)) F.1 F.2.1 dX19_isAddress_31 (by decide) ?_
      refine lv_icmp_lt (tgt := 45) F.1 F.2.1 dX19_isAddress_32 (by decide) (fun c4 => ?_) (fun c4 => ?_)
      · replace h := zi_t c4 h
        refine lv_iconst (v := (0 : Int32)) F.1 F.2.1 dX19_isAddress_45 (by decide) ?_
        obtain ⟨rfl, rfl⟩ := zret h
        exact E _ _ _ _ dX19_isAddress_46 (by decide) hr
      · replace h := zi_f c4 h
        refine lv_iload_n F.1 F.2.1 dX19_isAddress_35 rfl (lv_at hl 0 rfl) ?_
        refine lv_bipush (v := (8 : Int32)) F.1 F.2.1 dX19_isAddress_36 (by decide) ?_
        refine lv_icmp_gt (tgt := 45) F.1 F.2.1 dX19_isAddress_38 (by decide) (fun c5 => ?_) (fun c5 => ?_)
        · replace h := zi_t c5 h
          refine lv_iconst (v := (0 : Int32)) F.1 F.2.1 dX19_isAddress_45 (by decide) ?_
          obtain ⟨rfl, rfl⟩ := zret h
          exact E _ _ _ _ dX19_isAddress_46 (by decide) hr
        · replace h := zi_f c5 h
          refine lv_iconst (v := (1 : Int32)) F.1 F.2.1 dX19_isAddress_41 (by decide) ?_
          refine lv_goto (tgt := 46) F.1 F.2.1 dX19_isAddress_42 (by decide) ?_
          obtain ⟨rfl, rfl⟩ := zret h
          exact E _ _ _ _ dX19_isAddress_46 (by decide) hr
end SX19_isAddress
set_option maxRecDepth 100000 in
theorem okX19_isAddress (l : Launch) (D : va_G) (cy : Nat → ClassId) (B : Nat → Nat → Nat) (ids : List (Nat × Nat)) (hst : zSt B ids) (N : Nat) (x0 : Nat) (hx0 : (19, x0) ∈ ids) (x1 : Int32) {z : St} {r : Int32} {z' : St} (hW : zWf ids z) (h : fX19_isAddress N x0 x1 z = some (r, z')) : zM l yX19_isAddress (zws yX19_isAddress cX19_isAddress 3 (some .boolean)) rmX19_isAddress D cy B ids [.ref (B 19 x0), .int x1] (some (.int r)) (r = 0 ∨ r = 1) z z' :=
  zM_of hst hW (by decide +kernel) (Nat.le_of_ble_eq_true rfl) (fun p e s m args below meth c A ls F hA hret hlocks hr hl => bX19_isAddress_0 hst F hA (zEnd_z F hret hlocks) x0 x1 hx0 hr hl h)
abbrev rmX19_isOf : Room := { frames := 0, cells := 0, slots := 0, locals := 0 }
theorem hdX19_isOf : yX19_isOf.cls ≠ "java/lang/invoke/MethodHandle" ∧ yX19_isOf.cls ≠ "java/lang/invoke/VarHandle" ∧ (parseMethodDescriptor yX19_isOf.desc).map (fun d => d.parameters.length) = some 2 := by decide +kernel
section SX19_isOf
variable {p : Program} {l : Launch} {e : Env} {s : State} {m : MethodId} {args : Array Value} {below : List Frame} {meth : Method} {c : Code} {Q : State → Prop} {D : va_G} {cy : Nat → ClassId} {B : Nat → Nat → Nat} {ids : List (Nat × Nat)} {A : Nat → Prop}
def fX19_isOf (N : Nat)  (x0 : Int32) (x1 : Int32) (z : St) : Option (Int32 × St) := if ¬ (((x0).toUInt32 >>> (((24 : Int32)).toUInt32 &&& Int32.toUInt32 31)).toInt32) = (10 : Int32) then (some ((0 : Int32), z)) else (if ¬ ((x0 >>> ((16 : Int32) &&& 31)) &&& (255 : Int32)) = x1 then (some ((0 : Int32), z)) else (some ((1 : Int32), z)))
set_option maxHeartbeats 4000000 in
set_option maxRecDepth 100000 in
theorem bX19_isOf_0 (hst : zSt B ids) (F : zFx p m c cX19_isOf 2 s args RX19 D cy B ids A) (hA : ∀ q : Nat, s.heap.size ≤ q → A q) {r : Int32} {z' : St} (E : zEnd p l e rmX19_isOf s m args below meth c cX19_isOf D cy B ids A Q (some (.int r)) z' .ireturn (r = 0 ∨ r = 1)) {N : Nat}  (x0 : Int32) (x1 : Int32)  {z : St} {H : Heap} {locs : List Loc} {ls : Array Slot} (hr : zRep D cy B ids A s.heap z H locs) (hl : lv_has ls 2 [(0, .int x0), (1, .int x1)]) (h : fX19_isOf N x0 x1 z = some (r, z')) : W p l e rmX19_isOf s m args below meth c H locs 0 0 Q (F0 m 0 ls []) := by
  unfold fX19_isOf at h
  refine lv_iload_n F.1 F.2.1 dX19_isOf_0 rfl (lv_at hl 0 rfl) ?_
  refine lv_bipush (v := (24 : Int32)) F.1 F.2.1 dX19_isOf_1 (by decide) ?_
  refine lv_iushr F.1 F.2.1 dX19_isOf_3 rfl ?_
  refine lv_bipush (v := (10 : Int32)) F.1 F.2.1 dX19_isOf_4 (by decide) ?_
  refine lv_icmp_ne (tgt := 25) F.1 F.2.1 dX19_isOf_6 (by decide) (fun c1 => ?_) (fun c1 => ?_)
  · replace h := zi_t c1 h
    refine lv_iconst (v := (0 : Int32)) F.1 F.2.1 dX19_isOf_25 (by decide) ?_
    obtain ⟨rfl, rfl⟩ := zret h
    exact E _ _ _ _ dX19_isOf_26 (by decide) hr
  · replace h := zi_f (fun q => q c1) h
    refine lv_iload_n F.1 F.2.1 dX19_isOf_9 rfl (lv_at hl 0 rfl) ?_
    refine lv_bipush (v := (16 : Int32)) F.1 F.2.1 dX19_isOf_10 (by decide) ?_
    refine lv_ishr F.1 F.2.1 dX19_isOf_12 ?_
    refine lv_sipush (v := (255 : Int32)) F.1 F.2.1 dX19_isOf_13 (by decide) ?_
    refine lv_iand F.1 F.2.1 dX19_isOf_16 ?_
    refine lv_iload_n F.1 F.2.1 dX19_isOf_17 rfl (lv_at hl 1 rfl) ?_
    refine lv_icmp_ne (tgt := 25) F.1 F.2.1 dX19_isOf_18 (by decide) (fun c2 => ?_) (fun c2 => ?_)
    · replace h := zi_t c2 h
      refine lv_iconst (v := (0 : Int32)) F.1 F.2.1 dX19_isOf_25 (by decide) ?_
      obtain ⟨rfl, rfl⟩ := zret h
      exact E _ _ _ _ dX19_isOf_26 (by decide) hr
    · replace h := zi_f (fun q => q c2) h
      refine lv_iconst (v := (1 : Int32)) F.1 F.2.1 dX19_isOf_21 (by decide) ?_
      refine lv_goto (tgt := 26) F.1 F.2.1 dX19_isOf_22 (by decide) ?_
      obtain ⟨rfl, rfl⟩ := zret h
      exact E _ _ _ _ dX19_isOf_26 (by decide) hr
end SX19_isOf
set_option maxRecDepth 100000 in
theorem okX19_isOf (l : Launch) (D : va_G) (cy : Nat → ClassId) (B : Nat → Nat → Nat) (ids : List (Nat × Nat)) (hst : zSt B ids) (N : Nat) (x0 : Int32) (x1 : Int32) {z : St} {r : Int32} {z' : St} (hW : zWf ids z) (h : fX19_isOf N x0 x1 z = some (r, z')) : zM l yX19_isOf (zws yX19_isOf cX19_isOf 2 (some .boolean)) rmX19_isOf D cy B ids [.int x0, .int x1] (some (.int r)) (r = 0 ∨ r = 1) z z' :=
  zM_of hst hW (by decide +kernel) (Nat.le_of_ble_eq_true rfl) (fun p e s m args below meth c A ls F hA hret hlocks hr hl => bX19_isOf_0 hst F hA (zEnd_z F hret hlocks) x0 x1 hr hl h)
abbrev rmX19_hostSends_L1 : Room := { frames := 6, cells := 0, slots := 0, locals := 153 }
theorem hdX19_hostSends_L1 : yX19_hostSends.cls ≠ "java/lang/invoke/MethodHandle" ∧ yX19_hostSends.cls ≠ "java/lang/invoke/VarHandle" ∧ (parseMethodDescriptor yX19_hostSends.desc).map (fun d => d.parameters.length) = some 2 := by decide +kernel
theorem hroX19_hostSends_L1_X19_deliver : rmX19_deliver.frames + 1 ≤ rmX19_hostSends_L1.frames ∧ 8 + (6 + 11) + rmX19_deliver.locals ≤ rmX19_hostSends_L1.locals := by decide
theorem hroX19_hostSends_L1_X19_isAddress : rmX19_isAddress.frames + 1 ≤ rmX19_hostSends_L1.frames ∧ 8 + (3 + 11) + rmX19_isAddress.locals ≤ rmX19_hostSends_L1.locals := by decide
theorem hroX19_hostSends_L1_X19_isOf : rmX19_isOf.frames + 1 ≤ rmX19_hostSends_L1.frames ∧ 8 + (2 + 11) + rmX19_isOf.locals ≤ rmX19_hostSends_L1.locals := by decide
theorem hroX19_hostSends_L1_X19_of : rmX19_of.frames + 1 ≤ rmX19_hostSends_L1.frames ∧ 8 + (3 + 11) + rmX19_of.locals ≤ rmX19_hostSends_L1.locals := by decide
theorem hroX19_hostSends_L1_X19_set : rmX19_set.frames + 1 ≤ rmX19_hostSends_L1.frames ∧ 8 + (4 + 11) + rmX19_set.locals ≤ rmX19_hostSends_L1.locals := by decide
section SX19_hostSends_L1
variable {p : Program} {l : Launch} {e : Env} {s : State} {m : MethodId} {args : Array Value} {below : List Frame} {meth : Method} {c : Code} {Q : State → Prop} {D : va_G} {cy : Nat → ClassId} {B : Nat → Nat → Nat} {ids : List (Nat × Nat)} {A : Nat → Prop}
def fX19_hostSends_L1_82b (N : Nat) (K82 : Nat → Nat → Int32 → Nat → Int32 → St → Option (Int32 × St)) (x0 : Nat) (x1 : Nat) (x2 : Int32) (x3 : Nat) (x5 : Int32) (z : St) : Option (Int32 × St) := zl (zgR z 18 2 x3) fun y1 => zd y1 fun a2 => if (zgI z 16 5 a2) ≤ x5 then (none) else (zl (zgR z 18 2 x3) fun y4 => zd y4 fun a5 => zk x5 8 <| zl (zgQ z 164 a5 (Int32.toNatClampNeg x5)) fun y7 => zd y7 fun a8 => zl (zgR z 18 0 a8) fun y9 => zd y9 fun a10 => if (zgI z 12 1 a10) = 0 then (zl (x5 + 1) fun v12 => K82 x0 x1 x2 x3 v12 z) else (zc (fX19_deliver N x0 x3 x5 x2 z) fun _ z14 => some (0, z14)))
def fX19_hostSends_L1_82 (N : Nat)  : Nat → Nat → Nat → Int32 → Nat → Int32 → St → Option (Int32 × St)
  | 0 => fun _ _ _ _ _ _ => none
  | n + 1 => fX19_hostSends_L1_82b N (fX19_hostSends_L1_82 N  n)
set_option maxHeartbeats 4000000 in
set_option maxRecDepth 100000 in
theorem bX19_hostSends_L1_82 (hst : zSt B ids) (F : zFx p m c cX19_hostSends 6 s args RX19 D cy B ids A) (hA : ∀ q : Nat, s.heap.size ≤ q → A q) {r : Int32} {z' : St} (E : zEnd p l e rmX19_hostSends_L1 s m args below meth c cX19_hostSends D cy B ids A Q none z' .return_ True) {N : Nat} {K82 : Nat → Nat → Int32 → Nat → Int32 → St → Option (Int32 × St)} (hK82 : ∀ (x0 : Nat) (x1 : Nat) (x2 : Int32) (x3 : Nat) (x5 : Int32) (hx0 : (19, x0) ∈ ids) (hx1 : (12, x1) ∈ ids) (hx3 : (18, x3) ∈ ids) {z : St} {H : Heap} {locs : List Loc} {ls : Array Slot} (hr : zRep D cy B ids A s.heap z H locs) (hl : lv_has ls 6 [(0, .ref (B 19 x0)), (1, .ref (B 12 x1)), (2, .int x2), (3, .ref (B 18 x3)), (5, .int x5)]), K82 x0 x1 x2 x3 x5 z = some (r, z') → W p l e rmX19_hostSends_L1 s m args below meth c H locs 0 0 Q (F0 m 82 ls [])) (x0 : Nat) (x1 : Nat) (x2 : Int32) (x3 : Nat) (x5 : Int32) (hx0 : (19, x0) ∈ ids) (hx1 : (12, x1) ∈ ids) (hx3 : (18, x3) ∈ ids) {z : St} {H : Heap} {locs : List Loc} {ls : Array Slot} (hr : zRep D cy B ids A s.heap z H locs) (hl : lv_has ls 6 [(0, .ref (B 19 x0)), (1, .ref (B 12 x1)), (2, .int x2), (3, .ref (B 18 x3)), (5, .int x5)]) (h : fX19_hostSends_L1_82b N K82 x0 x1 x2 x3 x5 z = some (r, z')) : W p l e rmX19_hostSends_L1 s m args below meth c H locs 0 0 Q (F0 m 82 ls []) := by
  unfold fX19_hostSends_L1_82b at h
  refine lv_iload F.1 F.2.1 dX19_hostSends_82 (lv_at hl 4 rfl) ?_
  refine lv_aload_n F.1 F.2.1 dX19_hostSends_84 rfl (lv_at hl 3 rfl) ?_
  refine gf19_149 F hx3 hr dX19_hostSends_85 (fun y1 ey1 => ?_)
  replace h := zl_sub ey1 h
  have hy1 := zal_g hr hx3 (j := 2) rfl ey1
  clear ey1
  replace h := zd_some h
  obtain ⟨a2, rfl, h⟩ := h
  refine gf19_292 F (hy1 _ rfl) hr dX19_hostSends_88 ?_
  refine lv_icmp_ge (tgt := 128) F.1 F.2.1 dX19_hostSends_91 (by decide) (fun c3 => ?_) (fun c3 => ?_)
  · replace h := zi_t c3 h
    refine lv_aload_n F.1 F.2.1 dX19_hostSends_128 rfl (lv_at hl 0 rfl) ?_
    refine lv_aload_n F.1 F.2.1 dX19_hostSends_129 rfl (lv_at hl 1 rfl) ?_
    refine lv_iload_n F.1 F.2.1 dX19_hostSends_130 rfl (lv_at hl 2 rfl) ?_
    cases h
  · replace h := zi_f c3 h
    refine lv_aload_n F.1 F.2.1 dX19_hostSends_94 rfl (lv_at hl 3 rfl) ?_
    refine gf19_149 F hx3 hr dX19_hostSends_95 (fun y4 ey4 => ?_)
    replace h := zl_sub ey4 h
    have hy4 := zal_g hr hx3 (j := 2) rfl ey4
    clear ey4
    replace h := zd_some h
    obtain ⟨a5, rfl, h⟩ := h
    refine gf19_295 F (hy4 _ rfl) hr dX19_hostSends_98 ?_
    refine lv_iload F.1 F.2.1 dX19_hostSends_101 (lv_at hl 4 rfl) ?_
    replace h := zk_some h
    obtain ⟨c6, h⟩ := h
    refine zr_aaldv (k := 164) (by decide) rfl rfl (zlen_d (by decide)) F (zal_a F (hy4 _ rfl) (j := 4) rfl) hr dX19_hostSends_103 c6 (fun y7 ey7 => ?_)
    replace h := zl_sub ey7 h
    have hy7 := zal_q hr (zal_a F (hy4 _ rfl) (j := 4) rfl) rfl ey7
    clear ey7
    replace h := zd_some h
    obtain ⟨a8, rfl, h⟩ := h
    refine gf19_197 F (hy7 _ rfl) hr dX19_hostSends_104 (fun y9 ey9 => ?_)
    replace h := zl_sub ey9 h
    have hy9 := zal_g hr (hy7 _ rfl) (j := 0) rfl ey9
    clear ey9
    replace h := zd_some h
    obtain ⟨a10, rfl, h⟩ := h
    refine gf19_298 F (hy9 _ rfl) hr dX19_hostSends_107 ?_
    refine lv_if_eq (tgt := 122) F.1 F.2.1 dX19_hostSends_110 (by decide) (fun c11 => ?_) (fun c11 => ?_)
    · replace h := zi_t c11 h
      obtain ⟨v12, ev12⟩ : ∃ y : Int32, y = (x5 + 1) := ⟨_, rfl⟩
      replace h := zl_sub ev12 h
      refine lv_iinc (v := v12) (lv' := [(5, .int v12), (0, .ref (B 19 x0)), (1, .ref (B 12 x1)), (2, .int x2), (3, .ref (B 18 x3))]) F.1 F.2.1 dX19_hostSends_122 hl (k := 4) rfl (by rw [ev12]; rfl) (by decide) rfl (fun ls hl => ?_)
      refine lv_goto (tgt := 82) F.1 F.2.1 dX19_hostSends_125 (by decide) ?_
      exact hK82 x0 x1 x2 x3 v12 hx0 hx1 hx3 hr (lv_sub hl [1, 2, 3, 4, 0] rfl) h
    · replace h := zi_f c11 h
      refine lv_aload_n F.1 F.2.1 dX19_hostSends_113 rfl (lv_at hl 0 rfl) ?_
      refine lv_aload_n F.1 F.2.1 dX19_hostSends_114 rfl (lv_at hl 3 rfl) ?_
      refine lv_iload F.1 F.2.1 dX19_hostSends_115 (lv_at hl 4 rfl) ?_
      refine lv_iload_n F.1 F.2.1 dX19_hostSends_117 rfl (lv_at hl 2 rfl) ?_
      replace h := zc_some h
      obtain ⟨r13, z14, hc15, h⟩ := h
      refine zr_callv (zrun_V (As := [.ref (B 18 x3), .int x5, .int x2]) (rest := []) zq_2785 zq_2787 zs_X19_deliver zq_2788 zq_4 hdX19_deliver (by decide) (T := TX19) (N := 32) rfl (okX19_deliver l D cy B ids hst N x0 hx0 x3 hx3 x5  x2  hr.2.2 hc15) F hr hx0 hl.1 rfl (by decide) dX19_hostSends_118 rfl rfl hroX19_hostSends_L1_X19_deliver ⟨Nat.zero_le _, Nat.zero_le _⟩) F hA hr (fun H locs hw16 hr => ?_)
      clear hc15
      obtain ⟨rfl, rfl⟩ := zret h
      exact E _ _ _ _ dX19_hostSends_121 trivial hr
theorem lX19_hostSends_L1_82 (hst : zSt B ids) (F : zFx p m c cX19_hostSends 6 s args RX19 D cy B ids A) (hA : ∀ q : Nat, s.heap.size ≤ q → A q) {r : Int32} {z' : St} (E : zEnd p l e rmX19_hostSends_L1 s m args below meth c cX19_hostSends D cy B ids A Q none z' .return_ True) {N : Nat}  : ∀ (n : Nat) (x0 : Nat) (x1 : Nat) (x2 : Int32) (x3 : Nat) (x5 : Int32) (hx0 : (19, x0) ∈ ids) (hx1 : (12, x1) ∈ ids) (hx3 : (18, x3) ∈ ids) {z : St} {H : Heap} {locs : List Loc} {ls : Array Slot} (hr : zRep D cy B ids A s.heap z H locs) (hl : lv_has ls 6 [(0, .ref (B 19 x0)), (1, .ref (B 12 x1)), (2, .int x2), (3, .ref (B 18 x3)), (5, .int x5)]), fX19_hostSends_L1_82 N  n x0 x1 x2 x3 x5 z = some (r, z') → W p l e rmX19_hostSends_L1 s m args below meth c H locs 0 0 Q (F0 m 82 ls []) := by
  intro n
  induction n with
  | zero => intro x0 x1 x2 x3 x5 hx0 hx1 hx3 z H locs ls hr hl h; cases h
  | succ n ih => intro x0 x1 x2 x3 x5 hx0 hx1 hx3 z H locs ls hr hl h; exact bX19_hostSends_L1_82 hst F hA E ih x0 x1 x2 x3 x5 hx0 hx1 hx3 hr hl h
def fX19_hostSends_L1 (N : Nat)  (x0 : Nat) (x1 : Nat) (x2 : Int32) (z : St) : Option (Int32 × St) := if ¬ (zgI z 12 3 x1) = 0 then (zk (0 : Int32) 6 <| zl (zgQ z 147 x1 (Int32.toNatClampNeg (0 : Int32))) fun y3 => zc (fX19_set N x0 x2 (9 : Int32) (0 : Int32) z) fun _ z5 => zc (fX19_of N x0 x2 (1 : Int32) z5) fun r8 z9 => zd y3 fun a12 => zl (zgR z9 18 2 a12) fun y13 => zd y13 fun a14 => zc (fX19_isOf N r8 (zgI z9 16 0 a14) z9) fun r15 z16 => if r15 = 0 then (fX19_hostSends_L1_82 N N x0 x1 x2 a12 (0 : Int32) z16) else (zc (fX19_isAddress N x0 r8 z16) fun r20 z21 => if r20 = 0 then (none) else (zc (fX19_deliver N x0 a12 ((r8 &&& (65535 : Int32)) - (1 : Int32)) x2 z21) fun _ z26 => some (0, z26)))) else (some (0, z))
set_option maxHeartbeats 4000000 in
set_option maxRecDepth 100000 in
theorem bX19_hostSends_L1_0 (hst : zSt B ids) (F : zFx p m c cX19_hostSends 6 s args RX19 D cy B ids A) (hA : ∀ q : Nat, s.heap.size ≤ q → A q) {r : Int32} {z' : St} (E : zEnd p l e rmX19_hostSends_L1 s m args below meth c cX19_hostSends D cy B ids A Q none z' .return_ True) {N : Nat}  (x0 : Nat) (x1 : Nat) (x2 : Int32) (hx0 : (19, x0) ∈ ids) (hx1 : (12, x1) ∈ ids) {z : St} {H : Heap} {locs : List Loc} {ls : Array Slot} (hr : zRep D cy B ids A s.heap z H locs) (hl : lv_has ls 6 [(0, .ref (B 19 x0)), (1, .ref (B 12 x1)), (2, .int x2)]) (h : fX19_hostSends_L1 N x0 x1 x2 z = some (r, z')) : W p l e rmX19_hostSends_L1 s m args below meth c H locs 0 0 Q (F0 m 0 ls []) := by
  unfold fX19_hostSends_L1 at h
  refine lv_aload_n F.1 F.2.1 dX19_hostSends_0 rfl (lv_at hl 1 rfl) ?_
  refine gf19_273 F hx1 hr dX19_hostSends_1 ?_
  refine lv_if_ne (tgt := 8) F.1 F.2.1 dX19_hostSends_4 (by decide) (fun c1 => ?_) (fun c1 => ?_)
  · replace h := zi_t c1 h
    refine lv_aload_n F.1 F.2.1 dX19_hostSends_8 rfl (lv_at hl 1 rfl) ?_
    refine gf19_276 F hx1 hr dX19_hostSends_9 ?_
    refine lv_iconst (v := (0 : Int32)) F.1 F.2.1 dX19_hostSends_12 (by decide) ?_
    replace h := zk_some h
    obtain ⟨c2, h⟩ := h
    refine zr_aaldv (k := 147) (by decide) rfl rfl (zlen_d (by decide)) F (zal_a F hx1 (j := 2) rfl) hr dX19_hostSends_13 c2 (fun y3 ey3 => ?_)
    replace h := zl_sub ey3 h
    have hy3 := zal_q hr (zal_a F hx1 (j := 2) rfl) rfl ey3
    clear ey3
    refine zr_astore_n (lv' := [(3, va_rf (Option.map (B 18) y3)), (0, .ref (B 19 x0)), (1, .ref (B 12 x1)), (2, .int x2)]) F.1 F.2.1 dX19_hostSends_14 rfl hl (by decide) rfl (fun ls hl => ?_)
    refine lv_aload_n F.1 F.2.1 dX19_hostSends_15 rfl (lv_at hl 1 rfl) ?_
    refine lv_iload_n F.1 F.2.1 dX19_hostSends_16 rfl (lv_at hl 3 rfl) ?_
    refine lv_bipush (v := (9 : Int32)) F.1 F.2.1 dX19_hostSends_17 (by decide) ?_
    refine lv_iconst (v := (0 : Int32)) F.1 F.2.1 dX19_hostSends_19 (by decide) ?_
    replace h := zc_some h
    obtain ⟨r4, z5, hc6, h⟩ := h
    refine zr_callv (zrun_V (As := [.int x2, .int (9 : Int32), .int (0 : Int32)]) (rest := []) zq_2623 zq_2625 zs_X19_set zq_2626 zq_4 hdX19_set (by decide) (T := TX19) (N := 32) rfl (okX19_set l D cy B ids hst N x0 hx0 x2  (9 : Int32)  (0 : Int32)  hr.2.2 hc6) F hr hx0 hl.1 rfl (by decide) dX19_hostSends_20 rfl rfl hroX19_hostSends_L1_X19_set ⟨Nat.zero_le _, Nat.zero_le _⟩) F hA hr (fun H locs hw7 hr => ?_)
    clear hc6
    refine lv_aload_n F.1 F.2.1 dX19_hostSends_23 rfl (lv_at hl 1 rfl) ?_
    refine lv_iload_n F.1 F.2.1 dX19_hostSends_24 rfl (lv_at hl 3 rfl) ?_
    refine lv_iconst (v := (1 : Int32)) F.1 F.2.1 dX19_hostSends_25 (by decide) ?_
    replace h := zc_some h
    obtain ⟨r8, z9, hc10, h⟩ := h
    refine zr_calli (zrun_V (As := [.int x2, .int (1 : Int32)]) (rest := []) zq_2549 zq_2551 zs_X19_of zq_2552 zq_4 hdX19_of (by decide) (T := TX19) (N := 32) rfl (okX19_of l D cy B ids hst N x0 hx0 x2  (1 : Int32)  hr.2.2 hc10) F hr hx0 hl.1 rfl (by decide) dX19_hostSends_26 rfl rfl hroX19_hostSends_L1_X19_of ⟨Nat.zero_le _, Nat.zero_le _⟩) F hA hr (fun H locs hw11 hr => ?_)
    clear hc10
    refine lv_istore (lv' := [(4, .int r8), (3, va_rf (Option.map (B 18) y3)), (0, .ref (B 19 x0)), (1, .ref (B 12 x1)), (2, .int x2)]) F.1 F.2.1 dX19_hostSends_29 hl (by decide) (by simp only [List.filter, zrf_cat]; rfl) (fun ls hl => ?_)
    refine lv_iload F.1 F.2.1 dX19_hostSends_31 (lv_at hl 0 rfl) ?_
    refine zr_aload_n F.1 F.2.1 dX19_hostSends_33 rfl (lv_at hl 1 rfl) ?_
    replace h := zd_some h
    obtain ⟨a12, rfl, h⟩ := h
    refine gf19_149 F (hy3 _ rfl) hr dX19_hostSends_34 (fun y13 ey13 => ?_)
    replace h := zl_sub ey13 h
    have hy13 := zal_g hr (hy3 _ rfl) (j := 2) rfl ey13
    clear ey13
    replace h := zd_some h
    obtain ⟨a14, rfl, h⟩ := h
    refine gf19_181 F (hy13 _ rfl) hr dX19_hostSends_37 ?_
    replace h := zc_some h
    obtain ⟨r15, z16, hc17, h⟩ := h
    refine zr_calli (zrun_S (As := [.int r8, .int (zgI z9 16 0 a14)]) (rest := []) zq_2777 zq_2778 zq_2779 zq_4 hdX19_isOf (okX19_isOf l D cy B ids hst N r8  (zgI z9 16 0 a14)  hr.2.2 hc17) F hr hl.1 rfl (by decide) dX19_hostSends_40 rfl rfl hroX19_hostSends_L1_X19_isOf ⟨Nat.zero_le _, Nat.zero_le _⟩) F hA hr (fun H locs hw18 hr => ?_)
    clear hc17
    refine lv_if_eq (tgt := 79) F.1 F.2.1 dX19_hostSends_43 (by decide) (fun c19 => ?_) (fun c19 => ?_)
    · replace h := zi_t c19 h
      refine lv_iconst (v := (0 : Int32)) F.1 F.2.1 dX19_hostSends_79 (by decide) ?_
      refine lv_istore (lv' := [(5, .int (0 : Int32)), (4, .int r8), (3, .ref (B 18 a12)), (0, .ref (B 19 x0)), (1, .ref (B 12 x1)), (2, .int x2)]) F.1 F.2.1 dX19_hostSends_80 hl (by decide) rfl (fun ls hl => ?_)
      exact lX19_hostSends_L1_82 hst F hA E  _ x0 x1 x2 a12 (0 : Int32) hx0 hx1 (hy3 _ rfl) hr (lv_sub hl [3, 4, 5, 2, 0] rfl) h
    · replace h := zi_f c19 h
      refine lv_aload_n F.1 F.2.1 dX19_hostSends_46 rfl (lv_at hl 2 rfl) ?_
      refine lv_iload F.1 F.2.1 dX19_hostSends_47 (lv_at hl 0 rfl) ?_
      replace h := zc_some h
      obtain ⟨r20, z21, hc22, h⟩ := h
      refine zr_calli (zrun_V (As := [.int r8]) (rest := []) zq_2780 zq_2782 zs_X19_isAddress zq_2783 zq_4 hdX19_isAddress (by decide) (T := TX19) (N := 32) rfl (okX19_isAddress l D cy B ids hst N x0 hx0 r8  hr.2.2 hc22) F hr hx0 hl.1 rfl (by decide) dX19_hostSends_49 rfl rfl hroX19_hostSends_L1_X19_isAddress ⟨Nat.zero_le _, Nat.zero_le _⟩) F hA hr (fun H locs hw23 hr => ?_)
      clear hc22
      refine lv_if_eq (tgt := 72) F.1 F.2.1 dX19_hostSends_52 (by decide) (fun c24 => ?_) (fun c24 => ?_)
      · replace h := zi_t c24 h
        refine lv_aload_n F.1 F.2.1 dX19_hostSends_72 rfl (lv_at hl 2 rfl) ?_
        refine lv_aload_n F.1 F.2.1 dX19_hostSends_73 rfl (lv_at hl 3 rfl) ?_
        refine lv_iload_n F.1 F.2.1 dX19_hostSends_74 rfl (lv_at hl 4 rfl) ?_
        cases h
      · replace h := zi_f c24 h
        refine lv_aload_n F.1 F.2.1 dX19_hostSends_55 rfl (lv_at hl 2 rfl) ?_
        refine lv_aload_n F.1 F.2.1 dX19_hostSends_56 rfl (lv_at hl 1 rfl) ?_
        refine lv_iload F.1 F.2.1 dX19_hostSends_57 (lv_at hl 0 rfl) ?_
        refine lv_ldcw (v := (65535)) F.1 F.2.1 F.2.2.2.1 (F.2.2.2.2.1 _ zq_2784) dX19_hostSends_59 ?_
        refine lv_iand F.1 F.2.1 dX19_hostSends_62 ?_
        refine lv_iconst (v := (1 : Int32)) F.1 F.2.1 dX19_hostSends_63 (by decide) ?_
        refine lv_isub F.1 F.2.1 dX19_hostSends_64 ?_
        refine lv_iload_n F.1 F.2.1 dX19_hostSends_65 rfl (lv_at hl 4 rfl) ?_
        replace h := zc_some h
        obtain ⟨r25, z26, hc27, h⟩ := h
        refine zr_callv (zrun_V (As := [.ref (B 18 a12), .int ((r8 &&& (65535 : Int32)) - (1 : Int32)), .int x2]) (rest := []) zq_2785 zq_2787 zs_X19_deliver zq_2788 zq_4 hdX19_deliver (by decide) (T := TX19) (N := 32) rfl (okX19_deliver l D cy B ids hst N x0 hx0 a12 (hy3 _ rfl) ((r8 &&& (65535 : Int32)) - (1 : Int32))  x2  hr.2.2 hc27) F hr hx0 hl.1 rfl (by decide) dX19_hostSends_66 rfl rfl hroX19_hostSends_L1_X19_deliver ⟨Nat.zero_le _, Nat.zero_le _⟩) F hA hr (fun H locs hw28 hr => ?_)
        clear hc27
        refine lv_goto (tgt := 78) F.1 F.2.1 dX19_hostSends_69 (by decide) ?_
        obtain ⟨rfl, rfl⟩ := zret h
        exact E _ _ _ _ dX19_hostSends_78 trivial hr
  · replace h := zi_f (fun q => q c1) h
    obtain ⟨rfl, rfl⟩ := zret h
    exact E _ _ _ _ dX19_hostSends_7 trivial hr
end SX19_hostSends_L1
set_option maxRecDepth 100000 in
theorem okX19_hostSends_L1 (l : Launch) (D : va_G) (cy : Nat → ClassId) (B : Nat → Nat → Nat) (ids : List (Nat × Nat)) (hst : zSt B ids) (N : Nat) (x0 : Nat) (hx0 : (19, x0) ∈ ids) (x1 : Nat) (hx1 : (12, x1) ∈ ids) (x2 : Int32) {z : St} {r : Int32} {z' : St} (hW : zWf ids z) (h : fX19_hostSends_L1 N x0 x1 x2 z = some (r, z')) : zM l yX19_hostSends (zws yX19_hostSends cX19_hostSends 6 none) rmX19_hostSends_L1 D cy B ids [.ref (B 19 x0), .ref (B 12 x1), .int x2] none True z z' :=
  zM_of hst hW (by decide +kernel) (Nat.le_of_ble_eq_true rfl) (fun p e s m args below meth c A ls F hA hret hlocks hr hl => bX19_hostSends_L1_0 hst F hA (zEnd_v F hret hlocks) x0 x1 x2 hx0 hx1 hr hl h)
abbrev rmX19_make : Room := { frames := 2, cells := 0, slots := 0, locals := 45 }
theorem hdX19_make : yX19_make.cls ≠ "java/lang/invoke/MethodHandle" ∧ yX19_make.cls ≠ "java/lang/invoke/VarHandle" ∧ (parseMethodDescriptor yX19_make.desc).map (fun d => d.parameters.length) = some 5 := by decide +kernel
theorem hroX19_make_X19_newDatagram : rmX19_newDatagram.frames + 1 ≤ rmX19_make.frames ∧ 8 + (3 + 11) + rmX19_newDatagram.locals ≤ rmX19_make.locals := by decide
theorem hroX19_make_X19_set : rmX19_set.frames + 1 ≤ rmX19_make.frames ∧ 8 + (4 + 11) + rmX19_set.locals ≤ rmX19_make.locals := by decide
section SX19_make
variable {p : Program} {l : Launch} {e : Env} {s : State} {m : MethodId} {args : Array Value} {below : List Frame} {meth : Method} {c : Code} {Q : State → Prop} {D : va_G} {cy : Nat → ClassId} {B : Nat → Nat → Nat} {ids : List (Nat × Nat)} {A : Nat → Prop}
def fX19_make_72 (N : Nat)  (x0 : Nat) (x3 : Int32) (x6 : Int32) (s0 : Nat) (s1 : Int32) (s2 : Int32) (s3 : Int32) (z : St) : Option (Int32 × St) := zc (fX19_set N s0 s1 s2 s3 z) fun _ z2 => zc (fX19_set N x0 x6 (5 : Int32) x3 z2) fun _ z6 => some (x6, z6)
set_option maxHeartbeats 4000000 in
set_option maxRecDepth 100000 in
theorem bX19_make_72 (hst : zSt B ids) (F : zFx p m c cX19_make 7 s args RX19 D cy B ids A) (hA : ∀ q : Nat, s.heap.size ≤ q → A q) {r : Int32} {z' : St} (E : zEnd p l e rmX19_make s m args below meth c cX19_make D cy B ids A Q (some (.int r)) z' .ireturn True) {N : Nat}  (x0 : Nat) (x3 : Int32) (x6 : Int32) (s0 : Nat) (s1 : Int32) (s2 : Int32) (s3 : Int32) (hx0 : (19, x0) ∈ ids) (hs0 : (19, s0) ∈ ids) {z : St} {H : Heap} {locs : List Loc} {ls : Array Slot} (hr : zRep D cy B ids A s.heap z H locs) (hl : lv_has ls 7 [(0, .ref (B 19 x0)), (3, .int x3), (6, .int x6)]) (h : fX19_make_72 N x0 x3 x6 s0 s1 s2 s3 z = some (r, z')) : W p l e rmX19_make s m args below meth c H locs 0 0 Q (F0 m 72 ls [.int s3, .int s2, .int s1, .ref (B 19 s0)]) := by
  unfold fX19_make_72 at h
  replace h := zc_some h
  obtain ⟨r1, z2, hc3, h⟩ := h
  refine zr_callv (zrun_V (As := [.int s1, .int s2, .int s3]) (rest := []) zq_2623 zq_2625 zs_X19_set zq_2626 zq_4 hdX19_set (by decide) (T := TX19) (N := 32) rfl (okX19_set l D cy B ids hst N s0 hs0 s1  s2  s3  hr.2.2 hc3) F hr hs0 hl.1 rfl (by decide) dX19_make_72 rfl rfl hroX19_make_X19_set ⟨Nat.zero_le _, Nat.zero_le _⟩) F hA hr (fun H locs hw4 hr => ?_)
  clear hc3
  refine lv_aload_n F.1 F.2.1 dX19_make_75 rfl (lv_at hl 0 rfl) ?_
  refine lv_iload F.1 F.2.1 dX19_make_76 (lv_at hl 2 rfl) ?_
  refine lv_iconst (v := (5 : Int32)) F.1 F.2.1 dX19_make_78 (by decide) ?_
  refine lv_iload_n F.1 F.2.1 dX19_make_79 rfl (lv_at hl 1 rfl) ?_
  replace h := zc_some h
  obtain ⟨r5, z6, hc7, h⟩ := h
  refine zr_callv (zrun_V (As := [.int x6, .int (5 : Int32), .int x3]) (rest := []) zq_2623 zq_2625 zs_X19_set zq_2626 zq_4 hdX19_set (by decide) (T := TX19) (N := 32) rfl (okX19_set l D cy B ids hst N x0 hx0 x6  (5 : Int32)  x3  hr.2.2 hc7) F hr hx0 hl.1 rfl (by decide) dX19_make_80 rfl rfl hroX19_make_X19_set ⟨Nat.zero_le _, Nat.zero_le _⟩) F hA hr (fun H locs hw8 hr => ?_)
  clear hc7
  refine lv_iload F.1 F.2.1 dX19_make_83 (lv_at hl 2 rfl) ?_
  obtain ⟨rfl, rfl⟩ := zret h
  exact E _ _ _ _ dX19_make_85 trivial hr
def fX19_make_66 (N : Nat)  (x0 : Nat) (x3 : Int32) (x6 : Int32) (s0 : Nat) (s1 : Int32) (s2 : Int32) (z : St) : Option (Int32 × St) := fX19_make_72 N x0 x3 x6 s0 s1 s2 (64 : Int32) z
set_option maxHeartbeats 4000000 in
set_option maxRecDepth 100000 in
theorem bX19_make_66 (hst : zSt B ids) (F : zFx p m c cX19_make 7 s args RX19 D cy B ids A) (hA : ∀ q : Nat, s.heap.size ≤ q → A q) {r : Int32} {z' : St} (E : zEnd p l e rmX19_make s m args below meth c cX19_make D cy B ids A Q (some (.int r)) z' .ireturn True) {N : Nat}  (x0 : Nat) (x3 : Int32) (x6 : Int32) (s0 : Nat) (s1 : Int32) (s2 : Int32) (hx0 : (19, x0) ∈ ids) (hs0 : (19, s0) ∈ ids) {z : St} {H : Heap} {locs : List Loc} {ls : Array Slot} (hr : zRep D cy B ids A s.heap z H locs) (hl : lv_has ls 7 [(0, .ref (B 19 x0)), (3, .int x3), (6, .int x6)]) (h : fX19_make_66 N x0 x3 x6 s0 s1 s2 z = some (r, z')) : W p l e rmX19_make s m args below meth c H locs 0 0 Q (F0 m 66 ls [.int s2, .int s1, .ref (B 19 s0)]) := by
  unfold fX19_make_66 at h
  refine lv_bipush (v := (64 : Int32)) F.1 F.2.1 dX19_make_66 (by decide) ?_
  refine lv_goto (tgt := 72) F.1 F.2.1 dX19_make_68 (by decide) ?_
  exact bX19_make_72 hst F hA E  x0 x3 x6 s0 s1 s2 (64 : Int32) hx0 hs0 hr (lv_sub hl [0, 1, 2] rfl) h
def fX19_make (N : Nat)  (x0 : Nat) (x1 : Nat) (x2 : Int32) (x3 : Int32) (x4 : Int32) (x5 : Int32) (z : St) : Option (Int32 × St) := zc (fX19_newDatagram N x0 z) fun r1 z2 => zc (fX19_set N x0 r1 (0 : Int32) x4 z2) fun _ z6 => zc (fX19_set N x0 r1 (1 : Int32) x5 z6) fun _ z10 => zc (fX19_set N x0 r1 (2 : Int32) x2 z10) fun _ z14 => zc (fX19_set N x0 r1 (3 : Int32) (zgI z14 12 4 x1) z14) fun _ z18 => zl (zsI z18 12 4 x1 ((zgI z18 12 4 x1) + (1 : Int32))) fun z21 => if x2 = 0 then (fX19_make_66 N x0 x3 r1 x0 r1 (4 : Int32) z21) else (if ¬ x2 = (1 : Int32) then (fX19_make_72 N x0 x3 r1 x0 r1 (4 : Int32) (1 : Int32) z21) else (fX19_make_66 N x0 x3 r1 x0 r1 (4 : Int32) z21))
set_option maxHeartbeats 4000000 in
set_option maxRecDepth 100000 in
theorem bX19_make_0 (hst : zSt B ids) (F : zFx p m c cX19_make 7 s args RX19 D cy B ids A) (hA : ∀ q : Nat, s.heap.size ≤ q → A q) {r : Int32} {z' : St} (E : zEnd p l e rmX19_make s m args below meth c cX19_make D cy B ids A Q (some (.int r)) z' .ireturn True) {N : Nat}  (x0 : Nat) (x1 : Nat) (x2 : Int32) (x3 : Int32) (x4 : Int32) (x5 : Int32) (hx0 : (19, x0) ∈ ids) (hx1 : (12, x1) ∈ ids) {z : St} {H : Heap} {locs : List Loc} {ls : Array Slot} (hr : zRep D cy B ids A s.heap z H locs) (hl : lv_has ls 7 [(0, .ref (B 19 x0)), (1, .ref (B 12 x1)), (2, .int x2), (3, .int x3), (4, .int x4), (5, .int x5)]) (h : fX19_make N x0 x1 x2 x3 x4 x5 z = some (r, z')) : W p l e rmX19_make s m args below meth c H locs 0 0 Q (F0 m 0 ls []) := by
  unfold fX19_make at h
  refine lv_aload_n F.1 F.2.1 dX19_make_0 rfl (lv_at hl 0 rfl) ?_
  replace h := zc_some h
  obtain ⟨r1, z2, hc3, h⟩ := h
  refine zr_calli (zrun_V (As := []) (rest := []) zq_2769 zq_2771 zs_X19_newDatagram zq_2772 zq_4 hdX19_newDatagram (by decide) (T := TX19) (N := 32) rfl (okX19_newDatagram l D cy B ids hst N x0 hx0 hr.2.2 hc3) F hr hx0 hl.1 rfl (by decide) dX19_make_1 rfl rfl hroX19_make_X19_newDatagram ⟨Nat.zero_le _, Nat.zero_le _⟩) F hA hr (fun H locs hw4 hr => ?_)
  clear hc3
  refine lv_istore (lv' := [(6, .int r1), (0, .ref (B 19 x0)), (1, .ref (B 12 x1)), (2, .int x2), (3, .int x3), (4, .int x4), (5, .int x5)]) F.1 F.2.1 dX19_make_4 hl (by decide) rfl (fun ls hl => ?_)
  refine lv_aload_n F.1 F.2.1 dX19_make_6 rfl (lv_at hl 1 rfl) ?_
  refine lv_iload F.1 F.2.1 dX19_make_7 (lv_at hl 0 rfl) ?_
  refine lv_iconst (v := (0 : Int32)) F.1 F.2.1 dX19_make_9 (by decide) ?_
  refine lv_iload F.1 F.2.1 dX19_make_10 (lv_at hl 5 rfl) ?_
  replace h := zc_some h
  obtain ⟨r5, z6, hc7, h⟩ := h
  refine zr_callv (zrun_V (As := [.int r1, .int (0 : Int32), .int x4]) (rest := []) zq_2623 zq_2625 zs_X19_set zq_2626 zq_4 hdX19_set (by decide) (T := TX19) (N := 32) rfl (okX19_set l D cy B ids hst N x0 hx0 r1  (0 : Int32)  x4  hr.2.2 hc7) F hr hx0 hl.1 rfl (by decide) dX19_make_12 rfl rfl hroX19_make_X19_set ⟨Nat.zero_le _, Nat.zero_le _⟩) F hA hr (fun H locs hw8 hr => ?_)
  clear hc7
  refine lv_aload_n F.1 F.2.1 dX19_make_15 rfl (lv_at hl 1 rfl) ?_
  refine lv_iload F.1 F.2.1 dX19_make_16 (lv_at hl 0 rfl) ?_
  refine lv_iconst (v := (1 : Int32)) F.1 F.2.1 dX19_make_18 (by decide) ?_
  refine lv_iload F.1 F.2.1 dX19_make_19 (lv_at hl 6 rfl) ?_
  replace h := zc_some h
  obtain ⟨r9, z10, hc11, h⟩ := h
  refine zr_callv (zrun_V (As := [.int r1, .int (1 : Int32), .int x5]) (rest := []) zq_2623 zq_2625 zs_X19_set zq_2626 zq_4 hdX19_set (by decide) (T := TX19) (N := 32) rfl (okX19_set l D cy B ids hst N x0 hx0 r1  (1 : Int32)  x5  hr.2.2 hc11) F hr hx0 hl.1 rfl (by decide) dX19_make_21 rfl rfl hroX19_make_X19_set ⟨Nat.zero_le _, Nat.zero_le _⟩) F hA hr (fun H locs hw12 hr => ?_)
  clear hc11
  refine lv_aload_n F.1 F.2.1 dX19_make_24 rfl (lv_at hl 1 rfl) ?_
  refine lv_iload F.1 F.2.1 dX19_make_25 (lv_at hl 0 rfl) ?_
  refine lv_iconst (v := (2 : Int32)) F.1 F.2.1 dX19_make_27 (by decide) ?_
  refine lv_iload_n F.1 F.2.1 dX19_make_28 rfl (lv_at hl 3 rfl) ?_
  replace h := zc_some h
  obtain ⟨r13, z14, hc15, h⟩ := h
  refine zr_callv (zrun_V (As := [.int r1, .int (2 : Int32), .int x2]) (rest := []) zq_2623 zq_2625 zs_X19_set zq_2626 zq_4 hdX19_set (by decide) (T := TX19) (N := 32) rfl (okX19_set l D cy B ids hst N x0 hx0 r1  (2 : Int32)  x2  hr.2.2 hc15) F hr hx0 hl.1 rfl (by decide) dX19_make_29 rfl rfl hroX19_make_X19_set ⟨Nat.zero_le _, Nat.zero_le _⟩) F hA hr (fun H locs hw16 hr => ?_)
  clear hc15
  refine lv_aload_n F.1 F.2.1 dX19_make_32 rfl (lv_at hl 1 rfl) ?_
  refine lv_iload F.1 F.2.1 dX19_make_33 (lv_at hl 0 rfl) ?_
  refine lv_iconst (v := (3 : Int32)) F.1 F.2.1 dX19_make_35 (by decide) ?_
  refine lv_aload_n F.1 F.2.1 dX19_make_36 rfl (lv_at hl 2 rfl) ?_
  refine gf19_266 F hx1 hr dX19_make_37 ?_
  replace h := zc_some h
  obtain ⟨r17, z18, hc19, h⟩ := h
  refine zr_callv (zrun_V (As := [.int r1, .int (3 : Int32), .int (zgI z14 12 4 x1)]) (rest := []) zq_2623 zq_2625 zs_X19_set zq_2626 zq_4 hdX19_set (by decide) (T := TX19) (N := 32) rfl (okX19_set l D cy B ids hst N x0 hx0 r1  (3 : Int32)  (zgI z14 12 4 x1)  hr.2.2 hc19) F hr hx0 hl.1 rfl (by decide) dX19_make_40 rfl rfl hroX19_make_X19_set ⟨Nat.zero_le _, Nat.zero_le _⟩) F hA hr (fun H locs hw20 hr => ?_)
  clear hc19
  refine lv_aload_n F.1 F.2.1 dX19_make_43 rfl (lv_at hl 2 rfl) ?_
  refine lv_dup F.1 F.2.1 dX19_make_44 rfl ?_
  refine gf19_266 F hx1 hr dX19_make_45 ?_
  refine lv_iconst (v := (1 : Int32)) F.1 F.2.1 dX19_make_48 (by decide) ?_
  refine lv_iadd F.1 F.2.1 dX19_make_49 ?_
  refine pf19_266 F hx1 hr dX19_make_50 ((zgI z18 12 4 x1) + (1 : Int32)) (fun H locs z21 ez21 hr => ?_)
  replace h := zl_sub ez21 h
  clear ez21
  refine lv_aload_n F.1 F.2.1 dX19_make_53 rfl (lv_at hl 1 rfl) ?_
  refine lv_iload F.1 F.2.1 dX19_make_54 (lv_at hl 0 rfl) ?_
  refine lv_iconst (v := (4 : Int32)) F.1 F.2.1 dX19_make_56 (by decide) ?_
  refine lv_iload_n F.1 F.2.1 dX19_make_57 rfl (lv_at hl 3 rfl) ?_
  refine lv_if_eq (tgt := 66) F.1 F.2.1 dX19_make_58 (by decide) (fun c22 => ?_) (fun c22 => ?_)
  · replace h := zi_t c22 h
    exact bX19_make_66 hst F hA E  x0 x3 r1 x0 r1 (4 : Int32) hx0 hx0 hr (lv_sub hl [1, 4, 0] rfl) h
  · replace h := zi_f c22 h
    refine lv_iload_n F.1 F.2.1 dX19_make_61 rfl (lv_at hl 3 rfl) ?_
    refine lv_iconst (v := (1 : Int32)) F.1 F.2.1 dX19_make_62 (by decide) ?_
    refine lv_icmp_ne (tgt := 71) F.1 F.2.1 dX19_make_63 (by decide) (fun c23 => ?_) (fun c23 => ?_)
    · replace h := zi_t c23 h
      refine lv_iconst (v := (1 : Int32)) F.1 F.2.1 dX19_make_71 (by decide) ?_
      exact bX19_make_72 hst F hA E  x0 x3 r1 x0 r1 (4 : Int32) (1 : Int32) hx0 hx0 hr (lv_sub hl [1, 4, 0] rfl) h
    · replace h := zi_f (fun q => q c23) h
      exact bX19_make_66 hst F hA E  x0 x3 r1 x0 r1 (4 : Int32) hx0 hx0 hr (lv_sub hl [1, 4, 0] rfl) h
end SX19_make
set_option maxRecDepth 100000 in
theorem okX19_make (l : Launch) (D : va_G) (cy : Nat → ClassId) (B : Nat → Nat → Nat) (ids : List (Nat × Nat)) (hst : zSt B ids) (N : Nat) (x0 : Nat) (hx0 : (19, x0) ∈ ids) (x1 : Nat) (hx1 : (12, x1) ∈ ids) (x2 : Int32) (x3 : Int32) (x4 : Int32) (x5 : Int32) {z : St} {r : Int32} {z' : St} (hW : zWf ids z) (h : fX19_make N x0 x1 x2 x3 x4 x5 z = some (r, z')) : zM l yX19_make (zws yX19_make cX19_make 7 (some .int)) rmX19_make D cy B ids [.ref (B 19 x0), .ref (B 12 x1), .int x2, .int x3, .int x4, .int x5] (some (.int r)) True z z' :=
  zM_of hst hW (by decide +kernel) (Nat.le_of_ble_eq_true rfl) (fun p e s m args below meth c A ls F hA hret hlocks hr hl => bX19_make_0 hst F hA (zEnd_i F hret hlocks) x0 x1 x2 x3 x4 x5 hx0 hx1 hr hl h)
