abbrev rmX19_way : Room := { frames := 2, cells := 0, slots := 0, locals := 42 }
theorem hdX19_way : yX19_way.cls ≠ "java/lang/invoke/MethodHandle" ∧ yX19_way.cls ≠ "java/lang/invoke/VarHandle" ∧ (parseMethodDescriptor yX19_way.desc).map (fun d => d.parameters.length) = some 3 := by decide +kernel
theorem hroX19_way_X19_fails : rmX19_fails.frames + 1 ≤ rmX19_way.frames ∧ 8 + (3 + 11) + rmX19_fails.locals ≤ rmX19_way.locals := by decide
theorem hroX19_way_X19_isNet : rmX19_isNet.frames + 1 ≤ rmX19_way.frames ∧ 8 + (2 + 11) + rmX19_isNet.locals ≤ rmX19_way.locals := by decide
theorem hroX19_way_X19_isRouter : rmX19_isRouter.frames + 1 ≤ rmX19_way.frames ∧ 8 + (2 + 11) + rmX19_isRouter.locals ≤ rmX19_way.locals := by decide
section SX19_way
variable {p : Program} {l : Launch} {e : Env} {s : State} {m : MethodId} {args : Array Value} {below : List Frame} {meth : Method} {c : Code} {Q : State → Prop} {D : va_G} {cy : Nat → ClassId} {B : Nat → Nat → Nat} {ids : List (Nat × Nat)} {A : Nat → Prop}
def fX19_way_31 (N : Nat)  (x0 : Nat) (x1 : Int32) (x2 : Int32) (x3 : Int32) (s0 : Nat) (s1 : Int32) (z : St) : Option (Int32 × St) := zc (fX19_fails N s0 s1 (0 : Int32) z) fun r1 z2 => if r1 = 0 then (zk x1 16 <| zl (zgQ z2 186 x0 (Int32.toNatClampNeg x1)) fun y7 => if ¬ x3 = 0 then (if ¬ x3 = (1 : Int32) then (zd y7 fun a10 => zk x2 24 <| some ((zgA z2 157 a10 (Int32.toNatClampNeg x2)), z2)) else (zd y7 fun a12 => zk x2 24 <| some ((zgA z2 156 a12 (Int32.toNatClampNeg x2)), z2))) else (zd y7 fun a14 => zk x2 24 <| some ((zgA z2 155 a14 (Int32.toNatClampNeg x2)), z2))) else (some ((0 : Int32), z2))
set_option maxHeartbeats 4000000 in
set_option maxRecDepth 100000 in
theorem bX19_way_31 (hst : zSt B ids) (F : zFx p m c cX19_way 5 s args RX19 D cy B ids A) (hA : ∀ q : Nat, s.heap.size ≤ q → A q) {r : Int32} {z' : St} (E : zEnd p l e rmX19_way s m args below meth c cX19_way D cy B ids A Q (some (.int r)) z' .ireturn True) {N : Nat}  (x0 : Nat) (x1 : Int32) (x2 : Int32) (x3 : Int32) (s0 : Nat) (s1 : Int32) (hx0 : (19, x0) ∈ ids) (hs0 : (19, s0) ∈ ids) {z : St} {H : Heap} {locs : List Loc} {ls : Array Slot} (hr : zRep D cy B ids A s.heap z H locs) (hl : lv_has ls 5 [(0, .ref (B 19 x0)), (1, .int x1), (2, .int x2), (3, .int x3)]) (h : fX19_way_31 N x0 x1 x2 x3 s0 s1 z = some (r, z')) : W p l e rmX19_way s m args below meth c H locs 0 0 Q (F0 m 31 ls [.int s1, .ref (B 19 s0)]) := by
  unfold fX19_way_31 at h
  refine lv_iconst (v := (0 : Int32)) F.1 F.2.1 dX19_way_31 (by decide) ?_
  replace h := zc_some h
  obtain ⟨r1, z2, hc3, h⟩ := h
  refine zr_calli (zrun_V (As := [.int s1, .int (0 : Int32)]) (rest := []) zq_2402 zq_2404 zs_X19_fails zq_2405 zq_4 hdX19_fails (by decide) (T := TX19) (N := 32) rfl (okX19_fails l D cy B ids hst N s0 hs0 s1  (0 : Int32)  hr.2.2 hc3) F hr hs0 hl.1 rfl (by decide) dX19_way_32 rfl rfl hroX19_way_X19_fails ⟨Nat.zero_le _, Nat.zero_le _⟩) F hA hr (fun H locs hw4 hr => ?_)
  clear hc3
  refine lv_if_eq (tgt := 40) F.1 F.2.1 dX19_way_35 (by decide) (fun c5 => ?_) (fun c5 => ?_)
  · replace h := zi_t c5 h
    refine lv_aload_n F.1 F.2.1 dX19_way_40 rfl (lv_at hl 0 rfl) ?_
    refine gf19_114 F hx0 hr dX19_way_41 ?_
    refine lv_iload_n F.1 F.2.1 dX19_way_44 rfl (lv_at hl 1 rfl) ?_
    replace h := zk_some h
    obtain ⟨c6, h⟩ := h
    refine zr_aaldv (k := 186) (by decide) rfl rfl (zlen_d (by decide)) F (zal_a F hx0 (j := 18) rfl) hr dX19_way_45 c6 (fun y7 ey7 => ?_)
    replace h := zl_sub ey7 h
    have hy7 := zal_q hr (zal_a F hx0 (j := 18) rfl) rfl ey7
    clear ey7
    refine zr_astore (lv' := [(4, va_rf (Option.map (B 12) y7)), (0, .ref (B 19 x0)), (1, .int x1), (2, .int x2), (3, .int x3)]) F.1 F.2.1 dX19_way_46 hl (by decide) rfl (fun ls hl => ?_)
    refine lv_iload_n F.1 F.2.1 dX19_way_48 rfl (lv_at hl 4 rfl) ?_
    refine lv_if_ne (tgt := 62) F.1 F.2.1 dX19_way_49 (by decide) (fun c8 => ?_) (fun c8 => ?_)
    · replace h := zi_t c8 h
      refine lv_iload_n F.1 F.2.1 dX19_way_62 rfl (lv_at hl 4 rfl) ?_
      refine lv_iconst (v := (1 : Int32)) F.1 F.2.1 dX19_way_63 (by decide) ?_
      refine lv_icmp_ne (tgt := 77) F.1 F.2.1 dX19_way_64 (by decide) (fun c9 => ?_) (fun c9 => ?_)
      · replace h := zi_t c9 h
        refine zr_aload F.1 F.2.1 dX19_way_77 (lv_at hl 0 rfl) ?_
        replace h := zd_some h
        obtain ⟨a10, rfl, h⟩ := h
        refine gf19_304 F (hy7 _ rfl) hr dX19_way_79 ?_
        refine lv_iload_n F.1 F.2.1 dX19_way_82 rfl (lv_at hl 3 rfl) ?_
        replace h := zk_some h
        obtain ⟨c11, h⟩ := h
        refine zr_iald (k := 157) (by decide) rfl (by decide) F (zal_a F (hy7 _ rfl) (j := 27) rfl) hr dX19_way_83 c11 ?_
        obtain ⟨rfl, rfl⟩ := zret h
        exact E _ _ _ _ dX19_way_84 trivial hr
      · replace h := zi_f (fun q => q c9) h
        refine zr_aload F.1 F.2.1 dX19_way_67 (lv_at hl 0 rfl) ?_
        replace h := zd_some h
        obtain ⟨a12, rfl, h⟩ := h
        refine gf19_307 F (hy7 _ rfl) hr dX19_way_69 ?_
        refine lv_iload_n F.1 F.2.1 dX19_way_72 rfl (lv_at hl 3 rfl) ?_
        replace h := zk_some h
        obtain ⟨c13, h⟩ := h
        refine zr_iald (k := 156) (by decide) rfl (by decide) F (zal_a F (hy7 _ rfl) (j := 26) rfl) hr dX19_way_73 c13 ?_
        refine lv_goto (tgt := 84) F.1 F.2.1 dX19_way_74 (by decide) ?_
        obtain ⟨rfl, rfl⟩ := zret h
        exact E _ _ _ _ dX19_way_84 trivial hr
    · replace h := zi_f (fun q => q c8) h
      refine zr_aload F.1 F.2.1 dX19_way_52 (lv_at hl 0 rfl) ?_
      replace h := zd_some h
      obtain ⟨a14, rfl, h⟩ := h
      refine gf19_301 F (hy7 _ rfl) hr dX19_way_54 ?_
      refine lv_iload_n F.1 F.2.1 dX19_way_57 rfl (lv_at hl 3 rfl) ?_
      replace h := zk_some h
      obtain ⟨c15, h⟩ := h
      refine zr_iald (k := 155) (by decide) rfl (by decide) F (zal_a F (hy7 _ rfl) (j := 25) rfl) hr dX19_way_58 c15 ?_
      refine lv_goto (tgt := 84) F.1 F.2.1 dX19_way_59 (by decide) ?_
      obtain ⟨rfl, rfl⟩ := zret h
      exact E _ _ _ _ dX19_way_84 trivial hr
  · replace h := zi_f c5 h
    refine lv_iconst (v := (0 : Int32)) F.1 F.2.1 dX19_way_38 (by decide) ?_
    obtain ⟨rfl, rfl⟩ := zret h
    exact E _ _ _ _ dX19_way_39 trivial hr
def fX19_way_26 (N : Nat)  (x0 : Nat) (x1 : Int32) (x2 : Int32) (x3 : Int32) (s0 : Nat) (z : St) : Option (Int32 × St) := fX19_way_31 N x0 x1 x2 x3 s0 (1 : Int32) z
set_option maxHeartbeats 4000000 in
set_option maxRecDepth 100000 in
theorem bX19_way_26 (hst : zSt B ids) (F : zFx p m c cX19_way 5 s args RX19 D cy B ids A) (hA : ∀ q : Nat, s.heap.size ≤ q → A q) {r : Int32} {z' : St} (E : zEnd p l e rmX19_way s m args below meth c cX19_way D cy B ids A Q (some (.int r)) z' .ireturn True) {N : Nat}  (x0 : Nat) (x1 : Int32) (x2 : Int32) (x3 : Int32) (s0 : Nat) (hx0 : (19, x0) ∈ ids) (hs0 : (19, s0) ∈ ids) {z : St} {H : Heap} {locs : List Loc} {ls : Array Slot} (hr : zRep D cy B ids A s.heap z H locs) (hl : lv_has ls 5 [(0, .ref (B 19 x0)), (1, .int x1), (2, .int x2), (3, .int x3)]) (h : fX19_way_26 N x0 x1 x2 x3 s0 z = some (r, z')) : W p l e rmX19_way s m args below meth c H locs 0 0 Q (F0 m 26 ls [.ref (B 19 s0)]) := by
  unfold fX19_way_26 at h
  refine lv_iconst (v := (1 : Int32)) F.1 F.2.1 dX19_way_26 (by decide) ?_
  refine lv_goto (tgt := 31) F.1 F.2.1 dX19_way_27 (by decide) ?_
  exact bX19_way_31 hst F hA E  x0 x1 x2 x3 s0 (1 : Int32) hx0 hs0 hr (lv_sub hl [0, 1, 2, 3] rfl) h
def fX19_way (N : Nat)  (x0 : Nat) (x1 : Int32) (x2 : Int32) (x3 : Int32) (z : St) : Option (Int32 × St) := zc (fX19_isRouter N x0 x1 z) fun r1 z2 => if r1 = 0 then (fX19_way_26 N x0 x1 x2 x3 x0 z2) else (zc (fX19_isNet N x0 x2 z2) fun r6 z7 => if r6 = 0 then (fX19_way_26 N x0 x1 x2 x3 x0 z7) else (if x3 < 0 then (fX19_way_26 N x0 x1 x2 x3 x0 z7) else (if x3 ≤ (2 : Int32) then (fX19_way_31 N x0 x1 x2 x3 x0 (0 : Int32) z7) else (fX19_way_26 N x0 x1 x2 x3 x0 z7))))
set_option maxHeartbeats 4000000 in
set_option maxRecDepth 100000 in
theorem bX19_way_0 (hst : zSt B ids) (F : zFx p m c cX19_way 5 s args RX19 D cy B ids A) (hA : ∀ q : Nat, s.heap.size ≤ q → A q) {r : Int32} {z' : St} (E : zEnd p l e rmX19_way s m args below meth c cX19_way D cy B ids A Q (some (.int r)) z' .ireturn True) {N : Nat}  (x0 : Nat) (x1 : Int32) (x2 : Int32) (x3 : Int32) (hx0 : (19, x0) ∈ ids) {z : St} {H : Heap} {locs : List Loc} {ls : Array Slot} (hr : zRep D cy B ids A s.heap z H locs) (hl : lv_has ls 5 [(0, .ref (B 19 x0)), (1, .int x1), (2, .int x2), (3, .int x3)]) (h : fX19_way N x0 x1 x2 x3 z = some (r, z')) : W p l e rmX19_way s m args below meth c H locs 0 0 Q (F0 m 0 ls []) := by
  unfold fX19_way at h
  refine lv_aload_n F.1 F.2.1 dX19_way_0 rfl (lv_at hl 0 rfl) ?_
  refine lv_aload_n F.1 F.2.1 dX19_way_1 rfl (lv_at hl 0 rfl) ?_
  refine lv_iload_n F.1 F.2.1 dX19_way_2 rfl (lv_at hl 1 rfl) ?_
  replace h := zc_some h
  obtain ⟨r1, z2, hc3, h⟩ := h
  refine zr_calli (zrun_V (As := [.int x1]) (rest := [.ref (B 19 x0)]) zq_2529 zq_2531 zs_X19_isRouter zq_2532 zq_4 hdX19_isRouter (by decide) (T := TX19) (N := 32) rfl (okX19_isRouter l D cy B ids hst N x0 hx0 x1  hr.2.2 hc3) F hr hx0 hl.1 rfl (Nat.le_of_ble_eq_true rfl) dX19_way_3 rfl rfl hroX19_way_X19_isRouter ⟨Nat.zero_le _, Nat.zero_le _⟩) F hA hr (fun H locs hw4 hr => ?_)
  clear hc3
  refine lv_if_eq (tgt := 26) F.1 F.2.1 dX19_way_6 (by decide) (fun c5 => ?_) (fun c5 => ?_)
  · replace h := zi_t c5 h
    exact bX19_way_26 hst F hA E  x0 x1 x2 x3 x0 hx0 hx0 hr (lv_sub hl [0, 1, 2, 3] rfl) h
  · replace h := zi_f c5 h
    refine lv_aload_n F.1 F.2.1 dX19_way_9 rfl (lv_at hl 0 rfl) ?_
    refine lv_iload_n F.1 F.2.1 dX19_way_10 rfl (lv_at hl 2 rfl) ?_
    replace h := zc_some h
    obtain ⟨r6, z7, hc8, h⟩ := h
    refine zr_calli (zrun_V (As := [.int x2]) (rest := [.ref (B 19 x0)]) zq_2455 zq_2457 zs_X19_isNet zq_2458 zq_4 hdX19_isNet (by decide) (T := TX19) (N := 32) rfl (okX19_isNet l D cy B ids hst N x0 hx0 x2  hr.2.2 hc8) F hr hx0 hl.1 rfl (Nat.le_of_ble_eq_true rfl) dX19_way_11 rfl rfl hroX19_way_X19_isNet ⟨Nat.zero_le _, Nat.zero_le _⟩) F hA hr (fun H locs hw9 hr => ?_)
    clear hc8
    refine lv_if_eq (tgt := 26) F.1 F.2.1 dX19_way_14 (by decide) (fun c10 => ?_) (fun c10 => ?_)
    · replace h := zi_t c10 h
      exact bX19_way_26 hst F hA E  x0 x1 x2 x3 x0 hx0 hx0 hr (lv_sub hl [0, 1, 2, 3] rfl) h
    · replace h := zi_f c10 h
      refine lv_iload_n F.1 F.2.1 dX19_way_17 rfl (lv_at hl 3 rfl) ?_
      refine lv_if_lt (tgt := 26) F.1 F.2.1 dX19_way_18 (by decide) (fun c11 => ?_) (fun c11 => ?_)
      · replace h := zi_t c11 h
        exact bX19_way_26 hst F hA E  x0 x1 x2 x3 x0 hx0 hx0 hr (lv_sub hl [0, 1, 2, 3] rfl) h
      · replace h := zi_f c11 h
        refine lv_iload_n F.1 F.2.1 dX19_way_21 rfl (lv_at hl 3 rfl) ?_
        refine lv_iconst (v := (2 : Int32)) F.1 F.2.1 dX19_way_22 (by decide) ?_
        refine lv_icmp_le (tgt := 30) F.1 F.2.1 dX19_way_23 (by decide) (fun c12 => ?_) (fun c12 => ?_)
        · replace h := zi_t c12 h
          refine lv_iconst (v := (0 : Int32)) F.1 F.2.1 dX19_way_30 (by decide) ?_
          exact bX19_way_31 hst F hA E  x0 x1 x2 x3 x0 (0 : Int32) hx0 hx0 hr (lv_sub hl [0, 1, 2, 3] rfl) h
        · replace h := zi_f c12 h
          exact bX19_way_26 hst F hA E  x0 x1 x2 x3 x0 hx0 hx0 hr (lv_sub hl [0, 1, 2, 3] rfl) h
end SX19_way
set_option maxRecDepth 100000 in
theorem okX19_way (l : Launch) (D : va_G) (cy : Nat → ClassId) (B : Nat → Nat → Nat) (ids : List (Nat × Nat)) (hst : zSt B ids) (N : Nat) (x0 : Nat) (hx0 : (19, x0) ∈ ids) (x1 : Int32) (x2 : Int32) (x3 : Int32) {z : St} {r : Int32} {z' : St} (hW : zWf ids z) (h : fX19_way N x0 x1 x2 x3 z = some (r, z')) : zM l yX19_way (zws yX19_way cX19_way 5 (some .int)) rmX19_way D cy B ids [.ref (B 19 x0), .int x1, .int x2, .int x3] (some (.int r)) True z z' :=
  zM_of hst hW (by decide +kernel) (Nat.le_of_ble_eq_true rfl) (fun p e s m args below meth c A ls F hA hret hlocks hr hl => bX19_way_0 hst F hA (zEnd_i F hret hlocks) x0 x1 x2 x3 hx0 hr hl h)
abbrev rmX19_friends : Room := { frames := 2, cells := 0, slots := 0, locals := 46 }
theorem hdX19_friends : yX19_friends.cls ≠ "java/lang/invoke/MethodHandle" ∧ yX19_friends.cls ≠ "java/lang/invoke/VarHandle" ∧ (parseMethodDescriptor yX19_friends.desc).map (fun d => d.parameters.length) = some 3 := by decide +kernel
theorem hroX19_friends_X19_fails : rmX19_fails.frames + 1 ≤ rmX19_friends.frames ∧ 8 + (3 + 11) + rmX19_fails.locals ≤ rmX19_friends.locals := by decide
theorem hroX19_friends_X19_friend : rmX19_friend.frames + 1 ≤ rmX19_friends.frames ∧ 8 + (4 + 11) + rmX19_friend.locals ≤ rmX19_friends.locals := by decide
theorem hroX19_friends_X19_isNet : rmX19_isNet.frames + 1 ≤ rmX19_friends.frames ∧ 8 + (2 + 11) + rmX19_isNet.locals ≤ rmX19_friends.locals := by decide
theorem hroX19_friends_X19_isRouter : rmX19_isRouter.frames + 1 ≤ rmX19_friends.frames ∧ 8 + (2 + 11) + rmX19_isRouter.locals ≤ rmX19_friends.locals := by decide
theorem hroX19_friends_X19_portOn : rmX19_portOn.frames + 1 ≤ rmX19_friends.frames ∧ 8 + (5 + 11) + rmX19_portOn.locals ≤ rmX19_friends.locals := by decide
section SX19_friends
variable {p : Program} {l : Launch} {e : Env} {s : State} {m : MethodId} {args : Array Value} {below : List Frame} {meth : Method} {c : Code} {Q : State → Prop} {D : va_G} {cy : Nat → ClassId} {B : Nat → Nat → Nat} {ids : List (Nat × Nat)} {A : Nat → Prop}
def fX19_friends_30 (N : Nat)  (x0 : Nat) (x1 : Int32) (x2 : Int32) (x3 : Int32) (s0 : Nat) (s1 : Int32) (z : St) : Option (Int32 × St) := zc (fX19_fails N s0 s1 (0 : Int32) z) fun r1 z2 => if r1 = 0 then (zc (fX19_portOn N x0 x1 x3 z2) fun r6 z7 => zo r6 (some ((0 : Int32), z7)) fun a11 => if x1 = x2 then (some ((0 : Int32), z7)) else (zl (zgR z7 18 0 a11) fun y13 => zd y13 fun a14 => zc (fX19_friend N a14 (zgI z7 18 1 a11) x2 z7) fun r15 z16 => zo r15 (some ((0 : Int32), z16)) fun a20 => some ((1 : Int32), z16))) else (some ((0 : Int32), z2))
set_option maxHeartbeats 4000000 in
set_option maxRecDepth 100000 in
theorem bX19_friends_30 (hst : zSt B ids) (F : zFx p m c cX19_friends 5 s args RX19 D cy B ids A) (hA : ∀ q : Nat, s.heap.size ≤ q → A q) {r : Int32} {z' : St} (E : zEnd p l e rmX19_friends s m args below meth c cX19_friends D cy B ids A Q (some (.int r)) z' .ireturn (r = 0 ∨ r = 1)) {N : Nat}  (x0 : Nat) (x1 : Int32) (x2 : Int32) (x3 : Int32) (s0 : Nat) (s1 : Int32) (hx0 : (19, x0) ∈ ids) (hs0 : (19, s0) ∈ ids) {z : St} {H : Heap} {locs : List Loc} {ls : Array Slot} (hr : zRep D cy B ids A s.heap z H locs) (hl : lv_has ls 5 [(0, .ref (B 19 x0)), (1, .int x1), (2, .int x2), (3, .int x3)]) (h : fX19_friends_30 N x0 x1 x2 x3 s0 s1 z = some (r, z')) : W p l e rmX19_friends s m args below meth c H locs 0 0 Q (F0 m 30 ls [.int s1, .ref (B 19 s0)]) := by
  unfold fX19_friends_30 at h
  refine lv_iconst (v := (0 : Int32)) F.1 F.2.1 dX19_friends_30 (by decide) ?_
  replace h := zc_some h
  obtain ⟨r1, z2, hc3, h⟩ := h
  refine zr_calli (zrun_V (As := [.int s1, .int (0 : Int32)]) (rest := []) zq_2402 zq_2404 zs_X19_fails zq_2405 zq_4 hdX19_fails (by decide) (T := TX19) (N := 32) rfl (okX19_fails l D cy B ids hst N s0 hs0 s1  (0 : Int32)  hr.2.2 hc3) F hr hs0 hl.1 rfl (by decide) dX19_friends_31 rfl rfl hroX19_friends_X19_fails ⟨Nat.zero_le _, Nat.zero_le _⟩) F hA hr (fun H locs hw4 hr => ?_)
  clear hc3
  refine lv_if_eq (tgt := 39) F.1 F.2.1 dX19_friends_34 (by decide) (fun c5 => ?_) (fun c5 => ?_)
  · replace h := zi_t c5 h
    refine lv_aload_n F.1 F.2.1 dX19_friends_39 rfl (lv_at hl 0 rfl) ?_
    refine lv_iload_n F.1 F.2.1 dX19_friends_40 rfl (lv_at hl 1 rfl) ?_
    refine lv_iload_n F.1 F.2.1 dX19_friends_41 rfl (lv_at hl 3 rfl) ?_
    replace h := zc_some h
    obtain ⟨r6, z7, hc8, h⟩ := h
    refine zr_callr (zrun_V (As := [.int x1, .int x3]) (rest := []) zq_2533 zq_2535 zs_X19_portOn zq_2536 zq_4 hdX19_portOn (by decide) (T := TX19) (N := 32) rfl (okX19_portOn l D cy B ids hst N x0 hx0 x1  x3  hr.2.2 hc8) F hr hx0 hl.1 rfl (by decide) dX19_friends_42 rfl rfl hroX19_friends_X19_portOn ⟨Nat.zero_le _, Nat.zero_le _⟩) F hA hr (fun H locs hw9 hr => ?_)
    clear hc8
    refine zr_astore (lv' := [(4, va_rf (Option.map (B 18) r6)), (0, .ref (B 19 x0)), (1, .int x1), (2, .int x2), (3, .int x3)]) F.1 F.2.1 dX19_friends_45 hl (by decide) rfl (fun ls hl => ?_)
    refine zr_aload F.1 F.2.1 dX19_friends_47 (lv_at hl 0 rfl) ?_
    refine zr_ifnull (tgt := 78) F.1 F.2.1 dX19_friends_49 (by decide) (fun e10 => ?_) (fun a11 e10 => ?_)
    · replace h := zo_n e10 h
      subst e10
      refine lv_iconst (v := (0 : Int32)) F.1 F.2.1 dX19_friends_78 (by decide) ?_
      obtain ⟨rfl, rfl⟩ := zret h
      exact E _ _ _ _ dX19_friends_79 (by decide) hr
    · replace h := zo_s e10 h
      subst e10
      refine lv_iload_n F.1 F.2.1 dX19_friends_52 rfl (lv_at hl 2 rfl) ?_
      refine lv_iload_n F.1 F.2.1 dX19_friends_53 rfl (lv_at hl 3 rfl) ?_
      refine lv_icmp_eq (tgt := 78) F.1 F.2.1 dX19_friends_54 (by decide) (fun c12 => ?_) (fun c12 => ?_)
      · replace h := zi_t c12 h
        refine lv_iconst (v := (0 : Int32)) F.1 F.2.1 dX19_friends_78 (by decide) ?_
        obtain ⟨rfl, rfl⟩ := zret h
        exact E _ _ _ _ dX19_friends_79 (by decide) hr
      · replace h := zi_f c12 h
        refine lv_aload F.1 F.2.1 dX19_friends_57 (lv_at hl 0 rfl) ?_
        refine gf19_197 F (hw9 _ rfl) hr dX19_friends_59 (fun y13 ey13 => ?_)
        replace h := zl_sub ey13 h
        have hy13 := zal_g hr (hw9 _ rfl) (j := 0) rfl ey13
        clear ey13
        refine lv_aload F.1 F.2.1 dX19_friends_62 (lv_at hl 0 rfl) ?_
        refine gf19_380 F (hw9 _ rfl) hr dX19_friends_64 ?_
        refine lv_iload_n F.1 F.2.1 dX19_friends_67 rfl (lv_at hl 3 rfl) ?_
        replace h := zd_some h
        obtain ⟨a14, rfl, h⟩ := h
        replace h := zc_some h
        obtain ⟨r15, z16, hc17, h⟩ := h
        refine zr_callr (zrun_S (As := [.ref (B 12 a14), .int (zgI z7 18 1 a11), .int x2]) (rest := []) zq_2825 zq_2826 zq_2827 zq_4 hdX19_friend (okX19_friend l D cy B ids hst N a14 (hy13 _ rfl) (zgI z7 18 1 a11)  x2  hr.2.2 hc17) F hr hl.1 rfl (by decide) dX19_friends_68 rfl rfl hroX19_friends_X19_friend ⟨Nat.zero_le _, Nat.zero_le _⟩) F hA hr (fun H locs hw18 hr => ?_)
        clear hc17
        refine zr_ifnull (tgt := 78) F.1 F.2.1 dX19_friends_71 (by decide) (fun e19 => ?_) (fun a20 e19 => ?_)
        · replace h := zo_n e19 h
          subst e19
          refine lv_iconst (v := (0 : Int32)) F.1 F.2.1 dX19_friends_78 (by decide) ?_
          obtain ⟨rfl, rfl⟩ := zret h
          exact E _ _ _ _ dX19_friends_79 (by decide) hr
        · replace h := zo_s e19 h
          subst e19
          refine lv_iconst (v := (1 : Int32)) F.1 F.2.1 dX19_friends_74 (by decide) ?_
          refine lv_goto (tgt := 79) F.1 F.2.1 dX19_friends_75 (by decide) ?_
          obtain ⟨rfl, rfl⟩ := zret h
          exact E _ _ _ _ dX19_friends_79 (by decide) hr
  · replace h := zi_f c5 h
    refine lv_iconst (v := (0 : Int32)) F.1 F.2.1 dX19_friends_37 (by decide) ?_
    obtain ⟨rfl, rfl⟩ := zret h
    exact E _ _ _ _ dX19_friends_38 (by decide) hr
def fX19_friends_25 (N : Nat)  (x0 : Nat) (x1 : Int32) (x2 : Int32) (x3 : Int32) (s0 : Nat) (z : St) : Option (Int32 × St) := fX19_friends_30 N x0 x1 x2 x3 s0 (1 : Int32) z
set_option maxHeartbeats 4000000 in
set_option maxRecDepth 100000 in
theorem bX19_friends_25 (hst : zSt B ids) (F : zFx p m c cX19_friends 5 s args RX19 D cy B ids A) (hA : ∀ q : Nat, s.heap.size ≤ q → A q) {r : Int32} {z' : St} (E : zEnd p l e rmX19_friends s m args below meth c cX19_friends D cy B ids A Q (some (.int r)) z' .ireturn (r = 0 ∨ r = 1)) {N : Nat}  (x0 : Nat) (x1 : Int32) (x2 : Int32) (x3 : Int32) (s0 : Nat) (hx0 : (19, x0) ∈ ids) (hs0 : (19, s0) ∈ ids) {z : St} {H : Heap} {locs : List Loc} {ls : Array Slot} (hr : zRep D cy B ids A s.heap z H locs) (hl : lv_has ls 5 [(0, .ref (B 19 x0)), (1, .int x1), (2, .int x2), (3, .int x3)]) (h : fX19_friends_25 N x0 x1 x2 x3 s0 z = some (r, z')) : W p l e rmX19_friends s m args below meth c H locs 0 0 Q (F0 m 25 ls [.ref (B 19 s0)]) := by
  unfold fX19_friends_25 at h
  refine lv_iconst (v := (1 : Int32)) F.1 F.2.1 dX19_friends_25 (by decide) ?_
  refine lv_goto (tgt := 30) F.1 F.2.1 dX19_friends_26 (by decide) ?_
  exact bX19_friends_30 hst F hA E  x0 x1 x2 x3 s0 (1 : Int32) hx0 hs0 hr (lv_sub hl [0, 1, 2, 3] rfl) h
def fX19_friends (N : Nat)  (x0 : Nat) (x1 : Int32) (x2 : Int32) (x3 : Int32) (z : St) : Option (Int32 × St) := zc (fX19_isRouter N x0 x1 z) fun r1 z2 => if r1 = 0 then (fX19_friends_25 N x0 x1 x2 x3 x0 z2) else (zc (fX19_isRouter N x0 x2 z2) fun r6 z7 => if r6 = 0 then (fX19_friends_25 N x0 x1 x2 x3 x0 z7) else (zc (fX19_isNet N x0 x3 z7) fun r11 z12 => if ¬ r11 = 0 then (fX19_friends_30 N x0 x1 x2 x3 x0 (0 : Int32) z12) else (fX19_friends_25 N x0 x1 x2 x3 x0 z12)))
set_option maxHeartbeats 4000000 in
set_option maxRecDepth 100000 in
theorem bX19_friends_0 (hst : zSt B ids) (F : zFx p m c cX19_friends 5 s args RX19 D cy B ids A) (hA : ∀ q : Nat, s.heap.size ≤ q → A q) {r : Int32} {z' : St} (E : zEnd p l e rmX19_friends s m args below meth c cX19_friends D cy B ids A Q (some (.int r)) z' .ireturn (r = 0 ∨ r = 1)) {N : Nat}  (x0 : Nat) (x1 : Int32) (x2 : Int32) (x3 : Int32) (hx0 : (19, x0) ∈ ids) {z : St} {H : Heap} {locs : List Loc} {ls : Array Slot} (hr : zRep D cy B ids A s.heap z H locs) (hl : lv_has ls 5 [(0, .ref (B 19 x0)), (1, .int x1), (2, .int x2), (3, .int x3)]) (h : fX19_friends N x0 x1 x2 x3 z = some (r, z')) : W p l e rmX19_friends s m args below meth c H locs 0 0 Q (F0 m 0 ls []) := by
  unfold fX19_friends at h
  refine lv_aload_n F.1 F.2.1 dX19_friends_0 rfl (lv_at hl 0 rfl) ?_
  refine lv_aload_n F.1 F.2.1 dX19_friends_1 rfl (lv_at hl 0 rfl) ?_
  refine lv_iload_n F.1 F.2.1 dX19_friends_2 rfl (lv_at hl 1 rfl) ?_
  replace h := zc_some h
  obtain ⟨r1, z2, hc3, h⟩ := h
  refine zr_calli (zrun_V (As := [.int x1]) (rest := [.ref (B 19 x0)]) zq_2529 zq_2531 zs_X19_isRouter zq_2532 zq_4 hdX19_isRouter (by decide) (T := TX19) (N := 32) rfl (okX19_isRouter l D cy B ids hst N x0 hx0 x1  hr.2.2 hc3) F hr hx0 hl.1 rfl (Nat.le_of_ble_eq_true rfl) dX19_friends_3 rfl rfl hroX19_friends_X19_isRouter ⟨Nat.zero_le _, Nat.zero_le _⟩) F hA hr (fun H locs hw4 hr => ?_)
  clear hc3
  refine lv_if_eq (tgt := 25) F.1 F.2.1 dX19_friends_6 (by decide) (fun c5 => ?_) (fun c5 => ?_)
  · replace h := zi_t c5 h
    exact bX19_friends_25 hst F hA E  x0 x1 x2 x3 x0 hx0 hx0 hr (lv_sub hl [0, 1, 2, 3] rfl) h
  · replace h := zi_f c5 h
    refine lv_aload_n F.1 F.2.1 dX19_friends_9 rfl (lv_at hl 0 rfl) ?_
    refine lv_iload_n F.1 F.2.1 dX19_friends_10 rfl (lv_at hl 2 rfl) ?_
    replace h := zc_some h
    obtain ⟨r6, z7, hc8, h⟩ := h
    refine zr_calli (zrun_V (As := [.int x2]) (rest := [.ref (B 19 x0)]) zq_2529 zq_2531 zs_X19_isRouter zq_2532 zq_4 hdX19_isRouter (by decide) (T := TX19) (N := 32) rfl (okX19_isRouter l D cy B ids hst N x0 hx0 x2  hr.2.2 hc8) F hr hx0 hl.1 rfl (Nat.le_of_ble_eq_true rfl) dX19_friends_11 rfl rfl hroX19_friends_X19_isRouter ⟨Nat.zero_le _, Nat.zero_le _⟩) F hA hr (fun H locs hw9 hr => ?_)
    clear hc8
    refine lv_if_eq (tgt := 25) F.1 F.2.1 dX19_friends_14 (by decide) (fun c10 => ?_) (fun c10 => ?_)
    · replace h := zi_t c10 h
      exact bX19_friends_25 hst F hA E  x0 x1 x2 x3 x0 hx0 hx0 hr (lv_sub hl [0, 1, 2, 3] rfl) h
    · replace h := zi_f c10 h
      refine lv_aload_n F.1 F.2.1 dX19_friends_17 rfl (lv_at hl 0 rfl) ?_
      refine lv_iload_n F.1 F.2.1 dX19_friends_18 rfl (lv_at hl 3 rfl) ?_
      replace h := zc_some h
      obtain ⟨r11, z12, hc13, h⟩ := h
      refine zr_calli (zrun_V (As := [.int x3]) (rest := [.ref (B 19 x0)]) zq_2455 zq_2457 zs_X19_isNet zq_2458 zq_4 hdX19_isNet (by decide) (T := TX19) (N := 32) rfl (okX19_isNet l D cy B ids hst N x0 hx0 x3  hr.2.2 hc13) F hr hx0 hl.1 rfl (Nat.le_of_ble_eq_true rfl) dX19_friends_19 rfl rfl hroX19_friends_X19_isNet ⟨Nat.zero_le _, Nat.zero_le _⟩) F hA hr (fun H locs hw14 hr => ?_)
      clear hc13
      refine lv_if_ne (tgt := 29) F.1 F.2.1 dX19_friends_22 (by decide) (fun c15 => ?_) (fun c15 => ?_)
      · replace h := zi_t c15 h
        refine lv_iconst (v := (0 : Int32)) F.1 F.2.1 dX19_friends_29 (by decide) ?_
        exact bX19_friends_30 hst F hA E  x0 x1 x2 x3 x0 (0 : Int32) hx0 hx0 hr (lv_sub hl [0, 1, 2, 3] rfl) h
      · replace h := zi_f (fun q => q c15) h
        exact bX19_friends_25 hst F hA E  x0 x1 x2 x3 x0 hx0 hx0 hr (lv_sub hl [0, 1, 2, 3] rfl) h
end SX19_friends
set_option maxRecDepth 100000 in
theorem okX19_friends (l : Launch) (D : va_G) (cy : Nat → ClassId) (B : Nat → Nat → Nat) (ids : List (Nat × Nat)) (hst : zSt B ids) (N : Nat) (x0 : Nat) (hx0 : (19, x0) ∈ ids) (x1 : Int32) (x2 : Int32) (x3 : Int32) {z : St} {r : Int32} {z' : St} (hW : zWf ids z) (h : fX19_friends N x0 x1 x2 x3 z = some (r, z')) : zM l yX19_friends (zws yX19_friends cX19_friends 5 (some .boolean)) rmX19_friends D cy B ids [.ref (B 19 x0), .int x1, .int x2, .int x3] (some (.int r)) (r = 0 ∨ r = 1) z z' :=
  zM_of hst hW (by decide +kernel) (Nat.le_of_ble_eq_true rfl) (fun p e s m args below meth c A ls F hA hret hlocks hr hl => bX19_friends_0 hst F hA (zEnd_z F hret hlocks) x0 x1 x2 x3 hx0 hr hl h)
abbrev rmX19_advert : Room := { frames := 2, cells := 0, slots := 0, locals := 42 }
theorem hdX19_advert : yX19_advert.cls ≠ "java/lang/invoke/MethodHandle" ∧ yX19_advert.cls ≠ "java/lang/invoke/VarHandle" ∧ (parseMethodDescriptor yX19_advert.desc).map (fun d => d.parameters.length) = some 2 := by decide +kernel
theorem hroX19_advert_X19_ad : rmX19_ad.frames + 1 ≤ rmX19_advert.frames ∧ 8 + (3 + 11) + rmX19_ad.locals ≤ rmX19_advert.locals := by decide
theorem hroX19_advert_X19_fails : rmX19_fails.frames + 1 ≤ rmX19_advert.frames ∧ 8 + (3 + 11) + rmX19_fails.locals ≤ rmX19_advert.locals := by decide
theorem hroX19_advert_X19_isRouter : rmX19_isRouter.frames + 1 ≤ rmX19_advert.frames ∧ 8 + (2 + 11) + rmX19_isRouter.locals ≤ rmX19_advert.locals := by decide
section SX19_advert
variable {p : Program} {l : Launch} {e : Env} {s : State} {m : MethodId} {args : Array Value} {below : List Frame} {meth : Method} {c : Code} {Q : State → Prop} {D : va_G} {cy : Nat → ClassId} {B : Nat → Nat → Nat} {ids : List (Nat × Nat)} {A : Nat → Prop}
def fX19_advert_22 (N : Nat)  (x0 : Nat) (x1 : Int32) (x2 : Int32) (s0 : Nat) (s1 : Int32) (z : St) : Option (Int32 × St) := zc (fX19_fails N s0 s1 (0 : Int32) z) fun r1 z2 => if r1 = 0 then (zk x1 16 <| zl (zgQ z2 186 x0 (Int32.toNatClampNeg x1)) fun y7 => zd y7 fun a8 => zk x2 16 <| zl (zgA z2 150 a8 (Int32.toNatClampNeg x2)) fun v10 => if ¬ v10 = (-1 : Int32) then (zc (fX19_ad N x0 v10 (1 : Int32) z2) fun r12 z13 => some (r12, z13)) else (some ((-1 : Int32), z2))) else (some ((0 : Int32), z2))
set_option maxHeartbeats 4000000 in
set_option maxRecDepth 100000 in
theorem bX19_advert_22 (hst : zSt B ids) (F : zFx p m c cX19_advert 4 s args RX19 D cy B ids A) (hA : ∀ q : Nat, s.heap.size ≤ q → A q) {r : Int32} {z' : St} (E : zEnd p l e rmX19_advert s m args below meth c cX19_advert D cy B ids A Q (some (.int r)) z' .ireturn True) {N : Nat}  (x0 : Nat) (x1 : Int32) (x2 : Int32) (s0 : Nat) (s1 : Int32) (hx0 : (19, x0) ∈ ids) (hs0 : (19, s0) ∈ ids) {z : St} {H : Heap} {locs : List Loc} {ls : Array Slot} (hr : zRep D cy B ids A s.heap z H locs) (hl : lv_has ls 4 [(0, .ref (B 19 x0)), (1, .int x1), (2, .int x2)]) (h : fX19_advert_22 N x0 x1 x2 s0 s1 z = some (r, z')) : W p l e rmX19_advert s m args below meth c H locs 0 0 Q (F0 m 22 ls [.int s1, .ref (B 19 s0)]) := by
  unfold fX19_advert_22 at h
  refine lv_iconst (v := (0 : Int32)) F.1 F.2.1 dX19_advert_22 (by decide) ?_
  replace h := zc_some h
  obtain ⟨r1, z2, hc3, h⟩ := h
  refine zr_calli (zrun_V (As := [.int s1, .int (0 : Int32)]) (rest := []) zq_2402 zq_2404 zs_X19_fails zq_2405 zq_4 hdX19_fails (by decide) (T := TX19) (N := 32) rfl (okX19_fails l D cy B ids hst N s0 hs0 s1  (0 : Int32)  hr.2.2 hc3) F hr hs0 hl.1 rfl (by decide) dX19_advert_23 rfl rfl hroX19_advert_X19_fails ⟨Nat.zero_le _, Nat.zero_le _⟩) F hA hr (fun H locs hw4 hr => ?_)
  clear hc3
  refine lv_if_eq (tgt := 31) F.1 F.2.1 dX19_advert_26 (by decide) (fun c5 => ?_) (fun c5 => ?_)
  · replace h := zi_t c5 h
    refine lv_aload_n F.1 F.2.1 dX19_advert_31 rfl (lv_at hl 0 rfl) ?_
    refine gf19_114 F hx0 hr dX19_advert_32 ?_
    refine lv_iload_n F.1 F.2.1 dX19_advert_35 rfl (lv_at hl 1 rfl) ?_
    replace h := zk_some h
    obtain ⟨c6, h⟩ := h
    refine zr_aaldv (k := 186) (by decide) rfl rfl (zlen_d (by decide)) F (zal_a F hx0 (j := 18) rfl) hr dX19_advert_36 c6 (fun y7 ey7 => ?_)
    replace h := zl_sub ey7 h
    have hy7 := zal_q hr (zal_a F hx0 (j := 18) rfl) rfl ey7
    clear ey7
    replace h := zd_some h
    obtain ⟨a8, rfl, h⟩ := h
    refine gf19_448 F (hy7 _ rfl) hr dX19_advert_37 ?_
    refine lv_iload_n F.1 F.2.1 dX19_advert_40 rfl (lv_at hl 2 rfl) ?_
    replace h := zk_some h
    obtain ⟨c9, h⟩ := h
    refine zr_iald (k := 150) (by decide) rfl (by decide) F (zal_a F (hy7 _ rfl) (j := 14) rfl) hr dX19_advert_41 c9 ?_
    refine lv_topi (fun v10 ev10 => ?_)
    replace h := zl_sub ev10 h
    refine lv_istore_n (lv' := [(3, .int v10), (0, .ref (B 19 x0)), (1, .int x1), (2, .int x2)]) F.1 F.2.1 dX19_advert_42 rfl hl (by decide) rfl (fun ls hl => ?_)
    refine lv_iload_n F.1 F.2.1 dX19_advert_43 rfl (lv_at hl 0 rfl) ?_
    refine lv_iconst (v := (-1 : Int32)) F.1 F.2.1 dX19_advert_44 (by decide) ?_
    refine lv_icmp_ne (tgt := 52) F.1 F.2.1 dX19_advert_45 (by decide) (fun c11 => ?_) (fun c11 => ?_)
    · replace h := zi_t c11 h
      refine lv_aload_n F.1 F.2.1 dX19_advert_52 rfl (lv_at hl 1 rfl) ?_
      refine lv_iload_n F.1 F.2.1 dX19_advert_53 rfl (lv_at hl 0 rfl) ?_
      refine lv_iconst (v := (1 : Int32)) F.1 F.2.1 dX19_advert_54 (by decide) ?_
      replace h := zc_some h
      obtain ⟨r12, z13, hc14, h⟩ := h
      refine zr_calli (zrun_V (As := [.int v10, .int (1 : Int32)]) (rest := []) zq_2828 zq_2830 zs_X19_ad zq_2831 zq_4 hdX19_ad (by decide) (T := TX19) (N := 32) rfl (okX19_ad l D cy B ids hst N x0 hx0 v10  (1 : Int32)  hr.2.2 hc14) F hr hx0 hl.1 rfl (by decide) dX19_advert_55 rfl rfl hroX19_advert_X19_ad ⟨Nat.zero_le _, Nat.zero_le _⟩) F hA hr (fun H locs hw15 hr => ?_)
      clear hc14
      obtain ⟨rfl, rfl⟩ := zret h
      exact E _ _ _ _ dX19_advert_58 trivial hr
    · replace h := zi_f (fun q => q c11) h
      refine lv_iconst (v := (-1 : Int32)) F.1 F.2.1 dX19_advert_48 (by decide) ?_
      refine lv_goto (tgt := 58) F.1 F.2.1 dX19_advert_49 (by decide) ?_
      obtain ⟨rfl, rfl⟩ := zret h
      exact E _ _ _ _ dX19_advert_58 trivial hr
  · replace h := zi_f c5 h
    refine lv_iconst (v := (0 : Int32)) F.1 F.2.1 dX19_advert_29 (by decide) ?_
    obtain ⟨rfl, rfl⟩ := zret h
    exact E _ _ _ _ dX19_advert_30 trivial hr
def fX19_advert_17 (N : Nat)  (x0 : Nat) (x1 : Int32) (x2 : Int32) (s0 : Nat) (z : St) : Option (Int32 × St) := fX19_advert_22 N x0 x1 x2 s0 (1 : Int32) z
set_option maxHeartbeats 4000000 in
set_option maxRecDepth 100000 in
theorem bX19_advert_17 (hst : zSt B ids) (F : zFx p m c cX19_advert 4 s args RX19 D cy B ids A) (hA : ∀ q : Nat, s.heap.size ≤ q → A q) {r : Int32} {z' : St} (E : zEnd p l e rmX19_advert s m args below meth c cX19_advert D cy B ids A Q (some (.int r)) z' .ireturn True) {N : Nat}  (x0 : Nat) (x1 : Int32) (x2 : Int32) (s0 : Nat) (hx0 : (19, x0) ∈ ids) (hs0 : (19, s0) ∈ ids) {z : St} {H : Heap} {locs : List Loc} {ls : Array Slot} (hr : zRep D cy B ids A s.heap z H locs) (hl : lv_has ls 4 [(0, .ref (B 19 x0)), (1, .int x1), (2, .int x2)]) (h : fX19_advert_17 N x0 x1 x2 s0 z = some (r, z')) : W p l e rmX19_advert s m args below meth c H locs 0 0 Q (F0 m 17 ls [.ref (B 19 s0)]) := by
  unfold fX19_advert_17 at h
  refine lv_iconst (v := (1 : Int32)) F.1 F.2.1 dX19_advert_17 (by decide) ?_
  refine lv_goto (tgt := 22) F.1 F.2.1 dX19_advert_18 (by decide) ?_
  exact bX19_advert_22 hst F hA E  x0 x1 x2 s0 (1 : Int32) hx0 hs0 hr (lv_sub hl [0, 1, 2] rfl) h
def fX19_advert (N : Nat)  (x0 : Nat) (x1 : Int32) (x2 : Int32) (z : St) : Option (Int32 × St) := zc (fX19_isRouter N x0 x1 z) fun r1 z2 => if r1 = 0 then (fX19_advert_17 N x0 x1 x2 x0 z2) else (zc (fX19_isRouter N x0 x2 z2) fun r6 z7 => if ¬ r6 = 0 then (fX19_advert_22 N x0 x1 x2 x0 (0 : Int32) z7) else (fX19_advert_17 N x0 x1 x2 x0 z7))
set_option maxHeartbeats 4000000 in
set_option maxRecDepth 100000 in
theorem bX19_advert_0 (hst : zSt B ids) (F : zFx p m c cX19_advert 4 s args RX19 D cy B ids A) (hA : ∀ q : Nat, s.heap.size ≤ q → A q) {r : Int32} {z' : St} (E : zEnd p l e rmX19_advert s m args below meth c cX19_advert D cy B ids A Q (some (.int r)) z' .ireturn True) {N : Nat}  (x0 : Nat) (x1 : Int32) (x2 : Int32) (hx0 : (19, x0) ∈ ids) {z : St} {H : Heap} {locs : List Loc} {ls : Array Slot} (hr : zRep D cy B ids A s.heap z H locs) (hl : lv_has ls 4 [(0, .ref (B 19 x0)), (1, .int x1), (2, .int x2)]) (h : fX19_advert N x0 x1 x2 z = some (r, z')) : W p l e rmX19_advert s m args below meth c H locs 0 0 Q (F0 m 0 ls []) := by
  unfold fX19_advert at h
  refine lv_aload_n F.1 F.2.1 dX19_advert_0 rfl (lv_at hl 0 rfl) ?_
  refine lv_aload_n F.1 F.2.1 dX19_advert_1 rfl (lv_at hl 0 rfl) ?_
  refine lv_iload_n F.1 F.2.1 dX19_advert_2 rfl (lv_at hl 1 rfl) ?_
  replace h := zc_some h
  obtain ⟨r1, z2, hc3, h⟩ := h
  refine zr_calli (zrun_V (As := [.int x1]) (rest := [.ref (B 19 x0)]) zq_2529 zq_2531 zs_X19_isRouter zq_2532 zq_4 hdX19_isRouter (by decide) (T := TX19) (N := 32) rfl (okX19_isRouter l D cy B ids hst N x0 hx0 x1  hr.2.2 hc3) F hr hx0 hl.1 rfl (Nat.le_of_ble_eq_true rfl) dX19_advert_3 rfl rfl hroX19_advert_X19_isRouter ⟨Nat.zero_le _, Nat.zero_le _⟩) F hA hr (fun H locs hw4 hr => ?_)
  clear hc3
  refine lv_if_eq (tgt := 17) F.1 F.2.1 dX19_advert_6 (by decide) (fun c5 => ?_) (fun c5 => ?_)
  · replace h := zi_t c5 h
    exact bX19_advert_17 hst F hA E  x0 x1 x2 x0 hx0 hx0 hr (lv_sub hl [0, 1, 2] rfl) h
  · replace h := zi_f c5 h
    refine lv_aload_n F.1 F.2.1 dX19_advert_9 rfl (lv_at hl 0 rfl) ?_
    refine lv_iload_n F.1 F.2.1 dX19_advert_10 rfl (lv_at hl 2 rfl) ?_
    replace h := zc_some h
    obtain ⟨r6, z7, hc8, h⟩ := h
    refine zr_calli (zrun_V (As := [.int x2]) (rest := [.ref (B 19 x0)]) zq_2529 zq_2531 zs_X19_isRouter zq_2532 zq_4 hdX19_isRouter (by decide) (T := TX19) (N := 32) rfl (okX19_isRouter l D cy B ids hst N x0 hx0 x2  hr.2.2 hc8) F hr hx0 hl.1 rfl (Nat.le_of_ble_eq_true rfl) dX19_advert_11 rfl rfl hroX19_advert_X19_isRouter ⟨Nat.zero_le _, Nat.zero_le _⟩) F hA hr (fun H locs hw9 hr => ?_)
    clear hc8
    refine lv_if_ne (tgt := 21) F.1 F.2.1 dX19_advert_14 (by decide) (fun c10 => ?_) (fun c10 => ?_)
    · replace h := zi_t c10 h
      refine lv_iconst (v := (0 : Int32)) F.1 F.2.1 dX19_advert_21 (by decide) ?_
      exact bX19_advert_22 hst F hA E  x0 x1 x2 x0 (0 : Int32) hx0 hx0 hr (lv_sub hl [0, 1, 2] rfl) h
    · replace h := zi_f (fun q => q c10) h
      exact bX19_advert_17 hst F hA E  x0 x1 x2 x0 hx0 hx0 hr (lv_sub hl [0, 1, 2] rfl) h
end SX19_advert
set_option maxRecDepth 100000 in
theorem okX19_advert (l : Launch) (D : va_G) (cy : Nat → ClassId) (B : Nat → Nat → Nat) (ids : List (Nat × Nat)) (hst : zSt B ids) (N : Nat) (x0 : Nat) (hx0 : (19, x0) ∈ ids) (x1 : Int32) (x2 : Int32) {z : St} {r : Int32} {z' : St} (hW : zWf ids z) (h : fX19_advert N x0 x1 x2 z = some (r, z')) : zM l yX19_advert (zws yX19_advert cX19_advert 4 (some .int)) rmX19_advert D cy B ids [.ref (B 19 x0), .int x1, .int x2] (some (.int r)) True z z' :=
  zM_of hst hW (by decide +kernel) (Nat.le_of_ble_eq_true rfl) (fun p e s m args below meth c A ls F hA hret hlocks hr hl => bX19_advert_0 hst F hA (zEnd_i F hret hlocks) x0 x1 x2 hx0 hr hl h)
abbrev rmX19_count : Room := { frames := 1, cells := 0, slots := 0, locals := 22 }
theorem hdX19_count : yX19_count.cls ≠ "java/lang/invoke/MethodHandle" ∧ yX19_count.cls ≠ "java/lang/invoke/VarHandle" ∧ (parseMethodDescriptor yX19_count.desc).map (fun d => d.parameters.length) = some 2 := by decide +kernel
theorem hroX19_count_X19_fails : rmX19_fails.frames + 1 ≤ rmX19_count.frames ∧ 8 + (3 + 11) + rmX19_fails.locals ≤ rmX19_count.locals := by decide
theorem hroX19_count_X19_isBox : rmX19_isBox.frames + 1 ≤ rmX19_count.frames ∧ 8 + (2 + 11) + rmX19_isBox.locals ≤ rmX19_count.locals := by decide
theorem hroX19_count_X19_isNet : rmX19_isNet.frames + 1 ≤ rmX19_count.frames ∧ 8 + (2 + 11) + rmX19_isNet.locals ≤ rmX19_count.locals := by decide
section SX19_count
variable {p : Program} {l : Launch} {e : Env} {s : State} {m : MethodId} {args : Array Value} {below : List Frame} {meth : Method} {c : Code} {Q : State → Prop} {D : va_G} {cy : Nat → ClassId} {B : Nat → Nat → Nat} {ids : List (Nat × Nat)} {A : Nat → Prop}
def fX19_count_52 (N : Nat)  (x0 : Nat) (x1 : Int32) (x2 : Int32) (s0 : Nat) (s1 : Int32) (z : St) : Option (Int32 × St) := zc (fX19_fails N s0 s1 (0 : Int32) z) fun r1 z2 => if r1 = 0 then (if (2 : Int32) ≤ x2 then (zk x1 16 <| zl (zgQ z2 186 x0 (Int32.toNatClampNeg x1)) fun y8 => if ¬ x2 = (2 : Int32) then (if ¬ x2 = (3 : Int32) then (if ¬ x2 = (4 : Int32) then (if ¬ x2 = (5 : Int32) then (if ¬ x2 = (6 : Int32) then (zd y8 fun a14 => some ((zgI z2 12 9 a14), z2)) else (zd y8 fun a15 => some ((zgI z2 12 8 a15), z2))) else (zd y8 fun a16 => some ((zgI z2 12 7 a16), z2))) else (zd y8 fun a17 => some ((zgI z2 12 6 a17), z2))) else (zd y8 fun a18 => some ((zgI z2 12 5 a18), z2))) else (zd y8 fun a19 => some ((zgI z2 12 4 a19), z2))) else (if ¬ x2 = 0 then (zk x1 24 <| zl (zgQ z2 187 x0 (Int32.toNatClampNeg x1)) fun y22 => zd y22 fun a23 => some ((zgI z2 16 9 a23), z2)) else (zk x1 24 <| zl (zgQ z2 187 x0 (Int32.toNatClampNeg x1)) fun y25 => zd y25 fun a26 => some ((zgI z2 16 8 a26), z2)))) else (some ((0 : Int32), z2))
set_option maxHeartbeats 4000000 in
set_option maxRecDepth 100000 in
theorem bX19_count_52 (hst : zSt B ids) (F : zFx p m c cX19_count 5 s args RX19 D cy B ids A) (hA : ∀ q : Nat, s.heap.size ≤ q → A q) {r : Int32} {z' : St} (E : zEnd p l e rmX19_count s m args below meth c cX19_count D cy B ids A Q (some (.int r)) z' .ireturn True) {N : Nat}  (x0 : Nat) (x1 : Int32) (x2 : Int32) (s0 : Nat) (s1 : Int32) (hx0 : (19, x0) ∈ ids) (hs0 : (19, s0) ∈ ids) {z : St} {H : Heap} {locs : List Loc} {ls : Array Slot} (hr : zRep D cy B ids A s.heap z H locs) (hl : lv_has ls 5 [(0, .ref (B 19 x0)), (1, .int x1), (2, .int x2)]) (h : fX19_count_52 N x0 x1 x2 s0 s1 z = some (r, z')) : W p l e rmX19_count s m args below meth c H locs 0 0 Q (F0 m 52 ls [.int s1, .ref (B 19 s0)]) := by
  unfold fX19_count_52 at h
  refine lv_iconst (v := (0 : Int32)) F.1 F.2.1 dX19_count_52 (by decide) ?_
  replace h := zc_some h
  obtain ⟨r1, z2, hc3, h⟩ := h
  refine zr_calli (zrun_V (As := [.int s1, .int (0 : Int32)]) (rest := []) zq_2402 zq_2404 zs_X19_fails zq_2405 zq_4 hdX19_fails (by decide) (T := TX19) (N := 32) rfl (okX19_fails l D cy B ids hst N s0 hs0 s1  (0 : Int32)  hr.2.2 hc3) F hr hs0 hl.1 rfl (by decide) dX19_count_53 rfl rfl hroX19_count_X19_fails ⟨Nat.zero_le _, Nat.zero_le _⟩) F hA hr (fun H locs hw4 hr => ?_)
  clear hc3
  refine lv_if_eq (tgt := 61) F.1 F.2.1 dX19_count_56 (by decide) (fun c5 => ?_) (fun c5 => ?_)
  · replace h := zi_t c5 h
    refine lv_iload_n F.1 F.2.1 dX19_count_61 rfl (lv_at hl 2 rfl) ?_
    refine lv_iconst (v := (2 : Int32)) F.1 F.2.1 dX19_count_62 (by decide) ?_
    refine lv_icmp_ge (tgt := 92) F.1 F.2.1 dX19_count_63 (by decide) (fun c6 => ?_) (fun c6 => ?_)
    · replace h := zi_t c6 h
      refine lv_aload_n F.1 F.2.1 dX19_count_92 rfl (lv_at hl 0 rfl) ?_
      refine gf19_114 F hx0 hr dX19_count_93 ?_
      refine lv_iload_n F.1 F.2.1 dX19_count_96 rfl (lv_at hl 1 rfl) ?_
      replace h := zk_some h
      obtain ⟨c7, h⟩ := h
      refine zr_aaldv (k := 186) (by decide) rfl rfl (zlen_d (by decide)) F (zal_a F hx0 (j := 18) rfl) hr dX19_count_97 c7 (fun y8 ey8 => ?_)
      replace h := zl_sub ey8 h
      have hy8 := zal_q hr (zal_a F hx0 (j := 18) rfl) rfl ey8
      clear ey8
      refine zr_astore (lv' := [(4, va_rf (Option.map (B 12) y8)), (0, .ref (B 19 x0)), (1, .int x1), (2, .int x2)]) F.1 F.2.1 dX19_count_98 hl (by decide) rfl (fun ls hl => ?_)
      refine lv_iload_n F.1 F.2.1 dX19_count_100 rfl (lv_at hl 3 rfl) ?_
      refine lv_iconst (v := (2 : Int32)) F.1 F.2.1 dX19_count_101 (by decide) ?_
      refine lv_icmp_ne (tgt := 113) F.1 F.2.1 dX19_count_102 (by decide) (fun c9 => ?_) (fun c9 => ?_)
      · replace h := zi_t c9 h
        refine lv_iload_n F.1 F.2.1 dX19_count_113 rfl (lv_at hl 3 rfl) ?_
        refine lv_iconst (v := (3 : Int32)) F.1 F.2.1 dX19_count_114 (by decide) ?_
        refine lv_icmp_ne (tgt := 126) F.1 F.2.1 dX19_count_115 (by decide) (fun c10 => ?_) (fun c10 => ?_)
        · replace h := zi_t c10 h
          refine lv_iload_n F.1 F.2.1 dX19_count_126 rfl (lv_at hl 3 rfl) ?_
          refine lv_iconst (v := (4 : Int32)) F.1 F.2.1 dX19_count_127 (by decide) ?_
          refine lv_icmp_ne (tgt := 139) F.1 F.2.1 dX19_count_128 (by decide) (fun c11 => ?_) (fun c11 => ?_)
          · replace h := zi_t c11 h
            refine lv_iload_n F.1 F.2.1 dX19_count_139 rfl (lv_at hl 3 rfl) ?_
            refine lv_iconst (v := (5 : Int32)) F.1 F.2.1 dX19_count_140 (by decide) ?_
            refine lv_icmp_ne (tgt := 152) F.1 F.2.1 dX19_count_141 (by decide) (fun c12 => ?_) (fun c12 => ?_)
            · replace h := zi_t c12 h
              refine lv_iload_n F.1 F.2.1 dX19_count_152 rfl (lv_at hl 3 rfl) ?_
              refine lv_bipush (v := (6 : Int32)) F.1 F.2.1 dX19_count_153 (by decide) ?_
              refine lv_icmp_ne (tgt := 166) F.1 F.2.1 dX19_count_155 (by decide) (fun c13 => ?_) (fun c13 => ?_)
              · replace h := zi_t c13 h
                refine zr_aload F.1 F.2.1 dX19_count_166 (lv_at hl 0 rfl) ?_
                replace h := zd_some h
                obtain ⟨a14, rfl, h⟩ := h
                refine gf19_322 F (hy8 _ rfl) hr dX19_count_168 ?_
                obtain ⟨rfl, rfl⟩ := zret h
                exact E _ _ _ _ dX19_count_171 trivial hr
              · replace h := zi_f (fun q => q c13) h
                refine zr_aload F.1 F.2.1 dX19_count_158 (lv_at hl 0 rfl) ?_
                replace h := zd_some h
                obtain ⟨a15, rfl, h⟩ := h
                refine gf19_427 F (hy8 _ rfl) hr dX19_count_160 ?_
                refine lv_goto (tgt := 171) F.1 F.2.1 dX19_count_163 (by decide) ?_
                obtain ⟨rfl, rfl⟩ := zret h
                exact E _ _ _ _ dX19_count_171 trivial hr
            · replace h := zi_f (fun q => q c12) h
              refine zr_aload F.1 F.2.1 dX19_count_144 (lv_at hl 0 rfl) ?_
              replace h := zd_some h
              obtain ⟨a16, rfl, h⟩ := h
              refine gf19_201 F (hy8 _ rfl) hr dX19_count_146 ?_
              refine lv_goto (tgt := 171) F.1 F.2.1 dX19_count_149 (by decide) ?_
              obtain ⟨rfl, rfl⟩ := zret h
              exact E _ _ _ _ dX19_count_171 trivial hr
          · replace h := zi_f (fun q => q c11) h
            refine zr_aload F.1 F.2.1 dX19_count_131 (lv_at hl 0 rfl) ?_
            replace h := zd_some h
            obtain ⟨a17, rfl, h⟩ := h
            refine gf19_315 F (hy8 _ rfl) hr dX19_count_133 ?_
            refine lv_goto (tgt := 171) F.1 F.2.1 dX19_count_136 (by decide) ?_
            obtain ⟨rfl, rfl⟩ := zret h
            exact E _ _ _ _ dX19_count_171 trivial hr
        · replace h := zi_f (fun q => q c10) h
          refine zr_aload F.1 F.2.1 dX19_count_118 (lv_at hl 0 rfl) ?_
          replace h := zd_some h
          obtain ⟨a18, rfl, h⟩ := h
          refine gf19_430 F (hy8 _ rfl) hr dX19_count_120 ?_
          refine lv_goto (tgt := 171) F.1 F.2.1 dX19_count_123 (by decide) ?_
          obtain ⟨rfl, rfl⟩ := zret h
          exact E _ _ _ _ dX19_count_171 trivial hr
      · replace h := zi_f (fun q => q c9) h
        refine zr_aload F.1 F.2.1 dX19_count_105 (lv_at hl 0 rfl) ?_
        replace h := zd_some h
        obtain ⟨a19, rfl, h⟩ := h
        refine gf19_266 F (hy8 _ rfl) hr dX19_count_107 ?_
        refine lv_goto (tgt := 171) F.1 F.2.1 dX19_count_110 (by decide) ?_
        obtain ⟨rfl, rfl⟩ := zret h
        exact E _ _ _ _ dX19_count_171 trivial hr
    · replace h := zi_f c6 h
      refine lv_iload_n F.1 F.2.1 dX19_count_66 rfl (lv_at hl 2 rfl) ?_
      refine lv_if_ne (tgt := 82) F.1 F.2.1 dX19_count_67 (by decide) (fun c20 => ?_) (fun c20 => ?_)
      · replace h := zi_t c20 h
        refine lv_aload_n F.1 F.2.1 dX19_count_82 rfl (lv_at hl 0 rfl) ?_
        refine gf19_120 F hx0 hr dX19_count_83 ?_
        refine lv_iload_n F.1 F.2.1 dX19_count_86 rfl (lv_at hl 1 rfl) ?_
        replace h := zk_some h
        obtain ⟨c21, h⟩ := h
        refine zr_aaldv (k := 187) (by decide) rfl rfl (zlen_d (by decide)) F (zal_a F hx0 (j := 20) rfl) hr dX19_count_87 c21 (fun y22 ey22 => ?_)
        replace h := zl_sub ey22 h
        have hy22 := zal_q hr (zal_a F hx0 (j := 20) rfl) rfl ey22
        clear ey22
        replace h := zd_some h
        obtain ⟨a23, rfl, h⟩ := h
        refine gf19_374 F (hy22 _ rfl) hr dX19_count_88 ?_
        obtain ⟨rfl, rfl⟩ := zret h
        exact E _ _ _ _ dX19_count_91 trivial hr
      · replace h := zi_f (fun q => q c20) h
        refine lv_aload_n F.1 F.2.1 dX19_count_70 rfl (lv_at hl 0 rfl) ?_
        refine gf19_120 F hx0 hr dX19_count_71 ?_
        refine lv_iload_n F.1 F.2.1 dX19_count_74 rfl (lv_at hl 1 rfl) ?_
        replace h := zk_some h
        obtain ⟨c24, h⟩ := h
        refine zr_aaldv (k := 187) (by decide) rfl rfl (zlen_d (by decide)) F (zal_a F hx0 (j := 20) rfl) hr dX19_count_75 c24 (fun y25 ey25 => ?_)
        replace h := zl_sub ey25 h
        have hy25 := zal_q hr (zal_a F hx0 (j := 20) rfl) rfl ey25
        clear ey25
        replace h := zd_some h
        obtain ⟨a26, rfl, h⟩ := h
        refine gf19_155 F (hy25 _ rfl) hr dX19_count_76 ?_
        refine lv_goto (tgt := 91) F.1 F.2.1 dX19_count_79 (by decide) ?_
        obtain ⟨rfl, rfl⟩ := zret h
        exact E _ _ _ _ dX19_count_91 trivial hr
  · replace h := zi_f c5 h
    refine lv_iconst (v := (0 : Int32)) F.1 F.2.1 dX19_count_59 (by decide) ?_
    obtain ⟨rfl, rfl⟩ := zret h
    exact E _ _ _ _ dX19_count_60 trivial hr
def fX19_count_41 (N : Nat)  (x0 : Nat) (x1 : Int32) (x2 : Int32) (s0 : Int32) (z : St) : Option (Int32 × St) := if ¬ s0 = 0 then (fX19_count_52 N x0 x1 x2 x0 (0 : Int32) z) else (fX19_count_52 N x0 x1 x2 x0 (1 : Int32) z)
set_option maxHeartbeats 4000000 in
set_option maxRecDepth 100000 in
theorem bX19_count_41 (hst : zSt B ids) (F : zFx p m c cX19_count 5 s args RX19 D cy B ids A) (hA : ∀ q : Nat, s.heap.size ≤ q → A q) {r : Int32} {z' : St} (E : zEnd p l e rmX19_count s m args below meth c cX19_count D cy B ids A Q (some (.int r)) z' .ireturn True) {N : Nat}  (x0 : Nat) (x1 : Int32) (x2 : Int32) (s0 : Int32) (hx0 : (19, x0) ∈ ids) {z : St} {H : Heap} {locs : List Loc} {ls : Array Slot} (hr : zRep D cy B ids A s.heap z H locs) (hl : lv_has ls 5 [(0, .ref (B 19 x0)), (1, .int x1), (2, .int x2)]) (h : fX19_count_41 N x0 x1 x2 s0 z = some (r, z')) : W p l e rmX19_count s m args below meth c H locs 0 0 Q (F0 m 41 ls [.int s0]) := by
  unfold fX19_count_41 at h
  refine lv_istore_n (lv' := [(3, .int s0), (0, .ref (B 19 x0)), (1, .int x1), (2, .int x2)]) F.1 F.2.1 dX19_count_41 rfl hl (by decide) rfl (fun ls hl => ?_)
  refine lv_aload_n F.1 F.2.1 dX19_count_42 rfl (lv_at hl 1 rfl) ?_
  refine lv_iload_n F.1 F.2.1 dX19_count_43 rfl (lv_at hl 0 rfl) ?_
  refine lv_if_ne (tgt := 51) F.1 F.2.1 dX19_count_44 (by decide) (fun c1 => ?_) (fun c1 => ?_)
  · replace h := zi_t c1 h
    refine lv_iconst (v := (0 : Int32)) F.1 F.2.1 dX19_count_51 (by decide) ?_
    exact bX19_count_52 hst F hA E  x0 x1 x2 x0 (0 : Int32) hx0 hx0 hr (lv_sub hl [1, 2, 3] rfl) h
  · replace h := zi_f (fun q => q c1) h
    refine lv_iconst (v := (1 : Int32)) F.1 F.2.1 dX19_count_47 (by decide) ?_
    refine lv_goto (tgt := 52) F.1 F.2.1 dX19_count_48 (by decide) ?_
    exact bX19_count_52 hst F hA E  x0 x1 x2 x0 (1 : Int32) hx0 hx0 hr (lv_sub hl [1, 2, 3] rfl) h
def fX19_count_36 (N : Nat)  (x0 : Nat) (x1 : Int32) (x2 : Int32) (z : St) : Option (Int32 × St) := fX19_count_41 N x0 x1 x2 (1 : Int32) z
set_option maxHeartbeats 4000000 in
set_option maxRecDepth 100000 in
theorem bX19_count_36 (hst : zSt B ids) (F : zFx p m c cX19_count 5 s args RX19 D cy B ids A) (hA : ∀ q : Nat, s.heap.size ≤ q → A q) {r : Int32} {z' : St} (E : zEnd p l e rmX19_count s m args below meth c cX19_count D cy B ids A Q (some (.int r)) z' .ireturn True) {N : Nat}  (x0 : Nat) (x1 : Int32) (x2 : Int32) (hx0 : (19, x0) ∈ ids) {z : St} {H : Heap} {locs : List Loc} {ls : Array Slot} (hr : zRep D cy B ids A s.heap z H locs) (hl : lv_has ls 5 [(0, .ref (B 19 x0)), (1, .int x1), (2, .int x2)]) (h : fX19_count_36 N x0 x1 x2 z = some (r, z')) : W p l e rmX19_count s m args below meth c H locs 0 0 Q (F0 m 36 ls []) := by
  unfold fX19_count_36 at h
  refine lv_iconst (v := (1 : Int32)) F.1 F.2.1 dX19_count_36 (by decide) ?_
  refine lv_goto (tgt := 41) F.1 F.2.1 dX19_count_37 (by decide) ?_
  exact bX19_count_41 hst F hA E  x0 x1 x2 (1 : Int32) hx0 hr (lv_sub hl [0, 1, 2] rfl) h
def fX19_count_40 (N : Nat)  (x0 : Nat) (x1 : Int32) (x2 : Int32) (z : St) : Option (Int32 × St) := fX19_count_41 N x0 x1 x2 (0 : Int32) z
set_option maxHeartbeats 4000000 in
set_option maxRecDepth 100000 in
theorem bX19_count_40 (hst : zSt B ids) (F : zFx p m c cX19_count 5 s args RX19 D cy B ids A) (hA : ∀ q : Nat, s.heap.size ≤ q → A q) {r : Int32} {z' : St} (E : zEnd p l e rmX19_count s m args below meth c cX19_count D cy B ids A Q (some (.int r)) z' .ireturn True) {N : Nat}  (x0 : Nat) (x1 : Int32) (x2 : Int32) (hx0 : (19, x0) ∈ ids) {z : St} {H : Heap} {locs : List Loc} {ls : Array Slot} (hr : zRep D cy B ids A s.heap z H locs) (hl : lv_has ls 5 [(0, .ref (B 19 x0)), (1, .int x1), (2, .int x2)]) (h : fX19_count_40 N x0 x1 x2 z = some (r, z')) : W p l e rmX19_count s m args below meth c H locs 0 0 Q (F0 m 40 ls []) := by
  unfold fX19_count_40 at h
  refine lv_iconst (v := (0 : Int32)) F.1 F.2.1 dX19_count_40 (by decide) ?_
  exact bX19_count_41 hst F hA E  x0 x1 x2 (0 : Int32) hx0 hr (lv_sub hl [0, 1, 2] rfl) h
def fX19_count_17 (N : Nat)  (x0 : Nat) (x1 : Int32) (x2 : Int32) (z : St) : Option (Int32 × St) := if x2 ≤ (1 : Int32) then (fX19_count_40 N x0 x1 x2 z) else (if (8 : Int32) ≤ x2 then (fX19_count_40 N x0 x1 x2 z) else (zc (fX19_isBox N x0 x1 z) fun r3 z4 => if r3 = 0 then (fX19_count_40 N x0 x1 x2 z4) else (fX19_count_36 N x0 x1 x2 z4)))
set_option maxHeartbeats 4000000 in
set_option maxRecDepth 100000 in
theorem bX19_count_17 (hst : zSt B ids) (F : zFx p m c cX19_count 5 s args RX19 D cy B ids A) (hA : ∀ q : Nat, s.heap.size ≤ q → A q) {r : Int32} {z' : St} (E : zEnd p l e rmX19_count s m args below meth c cX19_count D cy B ids A Q (some (.int r)) z' .ireturn True) {N : Nat}  (x0 : Nat) (x1 : Int32) (x2 : Int32) (hx0 : (19, x0) ∈ ids) {z : St} {H : Heap} {locs : List Loc} {ls : Array Slot} (hr : zRep D cy B ids A s.heap z H locs) (hl : lv_has ls 5 [(0, .ref (B 19 x0)), (1, .int x1), (2, .int x2)]) (h : fX19_count_17 N x0 x1 x2 z = some (r, z')) : W p l e rmX19_count s m args below meth c H locs 0 0 Q (F0 m 17 ls []) := by
  unfold fX19_count_17 at h
  refine lv_iload_n F.1 F.2.1 dX19_count_17 rfl (lv_at hl 2 rfl) ?_
  refine lv_iconst (v := (1 : Int32)) F.1 F.2.1 dX19_count_18 (by decide) ?_
  refine lv_icmp_le (tgt := 40) F.1 F.2.1 dX19_count_19 (by decide) (fun c1 => ?_) (fun c1 => ?_)
  · replace h := zi_t c1 h
    exact bX19_count_40 hst F hA E  x0 x1 x2 hx0 hr (lv_sub hl [0, 1, 2] rfl) h
  · replace h := zi_f c1 h
    refine lv_iload_n F.1 F.2.1 dX19_count_22 rfl (lv_at hl 2 rfl) ?_
    refine lv_bipush (v := (8 : Int32)) F.1 F.2.1 dX19_count_23 (by decide) ?_
    refine lv_icmp_ge (tgt := 40) F.1 F.2.1 dX19_count_25 (by decide) (fun c2 => ?_) (fun c2 => ?_)
    · replace h := zi_t c2 h
      exact bX19_count_40 hst F hA E  x0 x1 x2 hx0 hr (lv_sub hl [0, 1, 2] rfl) h
    · replace h := zi_f c2 h
      refine lv_aload_n F.1 F.2.1 dX19_count_28 rfl (lv_at hl 0 rfl) ?_
      refine lv_iload_n F.1 F.2.1 dX19_count_29 rfl (lv_at hl 1 rfl) ?_
      replace h := zc_some h
      obtain ⟨r3, z4, hc5, h⟩ := h
      refine zr_calli (zrun_V (As := [.int x1]) (rest := []) zq_2451 zq_2453 zs_X19_isBox zq_2454 zq_4 hdX19_isBox (by decide) (T := TX19) (N := 32) rfl (okX19_isBox l D cy B ids hst N x0 hx0 x1  hr.2.2 hc5) F hr hx0 hl.1 rfl (by decide) dX19_count_30 rfl rfl hroX19_count_X19_isBox ⟨Nat.zero_le _, Nat.zero_le _⟩) F hA hr (fun H locs hw6 hr => ?_)
      clear hc5
      refine lv_if_eq (tgt := 40) F.1 F.2.1 dX19_count_33 (by decide) (fun c7 => ?_) (fun c7 => ?_)
      · replace h := zi_t c7 h
        exact bX19_count_40 hst F hA E  x0 x1 x2 hx0 hr (lv_sub hl [0, 1, 2] rfl) h
      · replace h := zi_f c7 h
        exact bX19_count_36 hst F hA E  x0 x1 x2 hx0 hr (lv_sub hl [0, 1, 2] rfl) h
def fX19_count (N : Nat)  (x0 : Nat) (x1 : Int32) (x2 : Int32) (z : St) : Option (Int32 × St) := if x2 < 0 then (fX19_count_17 N x0 x1 x2 z) else (if (2 : Int32) ≤ x2 then (fX19_count_17 N x0 x1 x2 z) else (zc (fX19_isNet N x0 x1 z) fun r3 z4 => if ¬ r3 = 0 then (fX19_count_36 N x0 x1 x2 z4) else (fX19_count_17 N x0 x1 x2 z4)))
set_option maxHeartbeats 4000000 in
set_option maxRecDepth 100000 in
theorem bX19_count_0 (hst : zSt B ids) (F : zFx p m c cX19_count 5 s args RX19 D cy B ids A) (hA : ∀ q : Nat, s.heap.size ≤ q → A q) {r : Int32} {z' : St} (E : zEnd p l e rmX19_count s m args below meth c cX19_count D cy B ids A Q (some (.int r)) z' .ireturn True) {N : Nat}  (x0 : Nat) (x1 : Int32) (x2 : Int32) (hx0 : (19, x0) ∈ ids) {z : St} {H : Heap} {locs : List Loc} {ls : Array Slot} (hr : zRep D cy B ids A s.heap z H locs) (hl : lv_has ls 5 [(0, .ref (B 19 x0)), (1, .int x1), (2, .int x2)]) (h : fX19_count N x0 x1 x2 z = some (r, z')) : W p l e rmX19_count s m args below meth c H locs 0 0 Q (F0 m 0 ls []) := by
  unfold fX19_count at h
  refine lv_iload_n F.1 F.2.1 dX19_count_0 rfl (lv_at hl 2 rfl) ?_
  refine lv_if_lt (tgt := 17) F.1 F.2.1 dX19_count_1 (by decide) (fun c1 => ?_) (fun c1 => ?_)
  · replace h := zi_t c1 h
    exact bX19_count_17 hst F hA E  x0 x1 x2 hx0 hr (lv_sub hl [0, 1, 2] rfl) h
  · replace h := zi_f c1 h
    refine lv_iload_n F.1 F.2.1 dX19_count_4 rfl (lv_at hl 2 rfl) ?_
    refine lv_iconst (v := (2 : Int32)) F.1 F.2.1 dX19_count_5 (by decide) ?_
    refine lv_icmp_ge (tgt := 17) F.1 F.2.1 dX19_count_6 (by decide) (fun c2 => ?_) (fun c2 => ?_)
    · replace h := zi_t c2 h
      exact bX19_count_17 hst F hA E  x0 x1 x2 hx0 hr (lv_sub hl [0, 1, 2] rfl) h
    · replace h := zi_f c2 h
      refine lv_aload_n F.1 F.2.1 dX19_count_9 rfl (lv_at hl 0 rfl) ?_
      refine lv_iload_n F.1 F.2.1 dX19_count_10 rfl (lv_at hl 1 rfl) ?_
      replace h := zc_some h
      obtain ⟨r3, z4, hc5, h⟩ := h
      refine zr_calli (zrun_V (As := [.int x1]) (rest := []) zq_2455 zq_2457 zs_X19_isNet zq_2458 zq_4 hdX19_isNet (by decide) (T := TX19) (N := 32) rfl (okX19_isNet l D cy B ids hst N x0 hx0 x1  hr.2.2 hc5) F hr hx0 hl.1 rfl (by decide) dX19_count_11 rfl rfl hroX19_count_X19_isNet ⟨Nat.zero_le _, Nat.zero_le _⟩) F hA hr (fun H locs hw6 hr => ?_)
      clear hc5
      refine lv_if_ne (tgt := 36) F.1 F.2.1 dX19_count_14 (by decide) (fun c7 => ?_) (fun c7 => ?_)
      · replace h := zi_t c7 h
        exact bX19_count_36 hst F hA E  x0 x1 x2 hx0 hr (lv_sub hl [0, 1, 2] rfl) h
      · replace h := zi_f (fun q => q c7) h
        exact bX19_count_17 hst F hA E  x0 x1 x2 hx0 hr (lv_sub hl [0, 1, 2] rfl) h
end SX19_count
set_option maxRecDepth 100000 in
theorem okX19_count (l : Launch) (D : va_G) (cy : Nat → ClassId) (B : Nat → Nat → Nat) (ids : List (Nat × Nat)) (hst : zSt B ids) (N : Nat) (x0 : Nat) (hx0 : (19, x0) ∈ ids) (x1 : Int32) (x2 : Int32) {z : St} {r : Int32} {z' : St} (hW : zWf ids z) (h : fX19_count N x0 x1 x2 z = some (r, z')) : zM l yX19_count (zws yX19_count cX19_count 5 (some .int)) rmX19_count D cy B ids [.ref (B 19 x0), .int x1, .int x2] (some (.int r)) True z z' :=
  zM_of hst hW (by decide +kernel) (Nat.le_of_ble_eq_true rfl) (fun p e s m args below meth c A ls F hA hret hlocks hr hl => bX19_count_0 hst F hA (zEnd_i F hret hlocks) x0 x1 x2 hx0 hr hl h)
abbrev rmX19_underWay : Room := { frames := 0, cells := 0, slots := 0, locals := 0 }
theorem hdX19_underWay : yX19_underWay.cls ≠ "java/lang/invoke/MethodHandle" ∧ yX19_underWay.cls ≠ "java/lang/invoke/VarHandle" ∧ (parseMethodDescriptor yX19_underWay.desc).map (fun d => d.parameters.length) = some 0 := by decide +kernel
section SX19_underWay
variable {p : Program} {l : Launch} {e : Env} {s : State} {m : MethodId} {args : Array Value} {below : List Frame} {meth : Method} {c : Code} {Q : State → Prop} {D : va_G} {cy : Nat → ClassId} {B : Nat → Nat → Nat} {ids : List (Nat × Nat)} {A : Nat → Prop}
def fX19_underWay (N : Nat)  (x0 : Nat) (z : St) : Option (Int32 × St) := zl (zsI z 19 25 x0 (0 : Int32)) fun z1 => some ((zgI z1 19 23 x0), z1)
set_option maxHeartbeats 4000000 in
set_option maxRecDepth 100000 in
theorem bX19_underWay_0 (hst : zSt B ids) (F : zFx p m c cX19_underWay 1 s args RX19 D cy B ids A) (hA : ∀ q : Nat, s.heap.size ≤ q → A q) {r : Int32} {z' : St} (E : zEnd p l e rmX19_underWay s m args below meth c cX19_underWay D cy B ids A Q (some (.int r)) z' .ireturn True) {N : Nat}  (x0 : Nat) (hx0 : (19, x0) ∈ ids) {z : St} {H : Heap} {locs : List Loc} {ls : Array Slot} (hr : zRep D cy B ids A s.heap z H locs) (hl : lv_has ls 1 [(0, .ref (B 19 x0))]) (h : fX19_underWay N x0 z = some (r, z')) : W p l e rmX19_underWay s m args below meth c H locs 0 0 Q (F0 m 0 ls []) := by
  unfold fX19_underWay at h
  refine lv_aload_n F.1 F.2.1 dX19_underWay_0 rfl (lv_at hl 0 rfl) ?_
  refine lv_iconst (v := (0 : Int32)) F.1 F.2.1 dX19_underWay_1 (by decide) ?_
  refine pf19_140 F hx0 hr dX19_underWay_2 (0 : Int32) (fun H locs z1 ez1 hr => ?_)
  replace h := zl_sub ez1 h
  clear ez1
  refine lv_aload_n F.1 F.2.1 dX19_underWay_5 rfl (lv_at hl 0 rfl) ?_
  refine gf19_171 F hx0 hr dX19_underWay_6 ?_
  obtain ⟨rfl, rfl⟩ := zret h
  exact E _ _ _ _ dX19_underWay_9 trivial hr
end SX19_underWay
set_option maxRecDepth 100000 in
theorem okX19_underWay (l : Launch) (D : va_G) (cy : Nat → ClassId) (B : Nat → Nat → Nat) (ids : List (Nat × Nat)) (hst : zSt B ids) (N : Nat) (x0 : Nat) (hx0 : (19, x0) ∈ ids) {z : St} {r : Int32} {z' : St} (hW : zWf ids z) (h : fX19_underWay N x0 z = some (r, z')) : zM l yX19_underWay (zws yX19_underWay cX19_underWay 1 (some .int)) rmX19_underWay D cy B ids [.ref (B 19 x0)] (some (.int r)) True z z' :=
  zM_of hst hW (by decide +kernel) (Nat.le_of_ble_eq_true rfl) (fun p e s m args below meth c A ls F hA hret hlocks hr hl => bX19_underWay_0 hst F hA (zEnd_i F hret hlocks) x0 hx0 hr hl h)
abbrev rmX19_time : Room := { frames := 0, cells := 0, slots := 0, locals := 0 }
theorem hdX19_time : yX19_time.cls ≠ "java/lang/invoke/MethodHandle" ∧ yX19_time.cls ≠ "java/lang/invoke/VarHandle" ∧ (parseMethodDescriptor yX19_time.desc).map (fun d => d.parameters.length) = some 0 := by decide +kernel
section SX19_time
variable {p : Program} {l : Launch} {e : Env} {s : State} {m : MethodId} {args : Array Value} {below : List Frame} {meth : Method} {c : Code} {Q : State → Prop} {D : va_G} {cy : Nat → ClassId} {B : Nat → Nat → Nat} {ids : List (Nat × Nat)} {A : Nat → Prop}
def fX19_time (N : Nat)  (x0 : Nat) (z : St) : Option (Int32 × St) := zl (zsI z 19 25 x0 (0 : Int32)) fun z1 => some ((zgI z1 19 24 x0), z1)
set_option maxHeartbeats 4000000 in
set_option maxRecDepth 100000 in
theorem bX19_time_0 (hst : zSt B ids) (F : zFx p m c cX19_time 1 s args RX19 D cy B ids A) (hA : ∀ q : Nat, s.heap.size ≤ q → A q) {r : Int32} {z' : St} (E : zEnd p l e rmX19_time s m args below meth c cX19_time D cy B ids A Q (some (.int r)) z' .ireturn True) {N : Nat}  (x0 : Nat) (hx0 : (19, x0) ∈ ids) {z : St} {H : Heap} {locs : List Loc} {ls : Array Slot} (hr : zRep D cy B ids A s.heap z H locs) (hl : lv_has ls 1 [(0, .ref (B 19 x0))]) (h : fX19_time N x0 z = some (r, z')) : W p l e rmX19_time s m args below meth c H locs 0 0 Q (F0 m 0 ls []) := by
  unfold fX19_time at h
  refine lv_aload_n F.1 F.2.1 dX19_time_0 rfl (lv_at hl 0 rfl) ?_
  refine lv_iconst (v := (0 : Int32)) F.1 F.2.1 dX19_time_1 (by decide) ?_
  refine pf19_140 F hx0 hr dX19_time_2 (0 : Int32) (fun H locs z1 ez1 hr => ?_)
  replace h := zl_sub ez1 h
  clear ez1
  refine lv_aload_n F.1 F.2.1 dX19_time_5 rfl (lv_at hl 0 rfl) ?_
  refine gf19_143 F hx0 hr dX19_time_6 ?_
  obtain ⟨rfl, rfl⟩ := zret h
  exact E _ _ _ _ dX19_time_9 trivial hr
end SX19_time
set_option maxRecDepth 100000 in
theorem okX19_time (l : Launch) (D : va_G) (cy : Nat → ClassId) (B : Nat → Nat → Nat) (ids : List (Nat × Nat)) (hst : zSt B ids) (N : Nat) (x0 : Nat) (hx0 : (19, x0) ∈ ids) {z : St} {r : Int32} {z' : St} (hW : zWf ids z) (h : fX19_time N x0 z = some (r, z')) : zM l yX19_time (zws yX19_time cX19_time 1 (some .int)) rmX19_time D cy B ids [.ref (B 19 x0)] (some (.int r)) True z z' :=
  zM_of hst hW (by decide +kernel) (Nat.le_of_ble_eq_true rfl) (fun p e s m args below meth c A ls F hA hret hlocks hr hl => bX19_time_0 hst F hA (zEnd_i F hret hlocks) x0 hx0 hr hl h)
abbrev rmX19_goOn : Room := { frames := 0, cells := 0, slots := 0, locals := 0 }
theorem hdX19_goOn : yX19_goOn.cls ≠ "java/lang/invoke/MethodHandle" ∧ yX19_goOn.cls ≠ "java/lang/invoke/VarHandle" ∧ (parseMethodDescriptor yX19_goOn.desc).map (fun d => d.parameters.length) = some 2 := by decide +kernel
section SX19_goOn
variable {p : Program} {l : Launch} {e : Env} {s : State} {m : MethodId} {args : Array Value} {below : List Frame} {meth : Method} {c : Code} {Q : State → Prop} {D : va_G} {cy : Nat → ClassId} {B : Nat → Nat → Nat} {ids : List (Nat × Nat)} {A : Nat → Prop}
def fX19_goOn_97 (N : Nat) (K5 : Nat → Int32 → Nat → Int32 → Int32 → St → Option (Int32 × St)) (x0 : Nat) (x1 : Int32) (x2 : Nat) (x3 : Int32) (x4 : Int32) (z : St) : Option (Int32 × St) := zl (x4 + 1) fun v1 => K5 x0 x1 x2 x3 v1 z
set_option maxHeartbeats 4000000 in
set_option maxRecDepth 100000 in
theorem bX19_goOn_97 (hst : zSt B ids) (F : zFx p m c cX19_goOn 6 s args RX19 D cy B ids A) (hA : ∀ q : Nat, s.heap.size ≤ q → A q) {r : Int32} {z' : St} (E : zEnd p l e rmX19_goOn s m args below meth c cX19_goOn D cy B ids A Q (some (.int r)) z' .ireturn (r = 0 ∨ r = 1)) {N : Nat} {K5 : Nat → Int32 → Nat → Int32 → Int32 → St → Option (Int32 × St)} (hK5 : ∀ (x0 : Nat) (x1 : Int32) (x2 : Nat) (x3 : Int32) (x4 : Int32) (hx0 : (19, x0) ∈ ids) (hx2 : (18, x2) ∈ ids) {z : St} {H : Heap} {locs : List Loc} {ls : Array Slot} (hr : zRep D cy B ids A s.heap z H locs) (hl : lv_has ls 6 [(0, .ref (B 19 x0)), (1, .int x1), (2, .ref (B 18 x2)), (3, .int x3), (4, .int x4)]), K5 x0 x1 x2 x3 x4 z = some (r, z') → W p l e rmX19_goOn s m args below meth c H locs 0 0 Q (F0 m 5 ls [])) (x0 : Nat) (x1 : Int32) (x2 : Nat) (x3 : Int32) (x4 : Int32) (hx0 : (19, x0) ∈ ids) (hx2 : (18, x2) ∈ ids) {z : St} {H : Heap} {locs : List Loc} {ls : Array Slot} (hr : zRep D cy B ids A s.heap z H locs) (hl : lv_has ls 6 [(0, .ref (B 19 x0)), (1, .int x1), (2, .ref (B 18 x2)), (3, .int x3), (4, .int x4)]) (h : fX19_goOn_97 N K5 x0 x1 x2 x3 x4 z = some (r, z')) : W p l e rmX19_goOn s m args below meth c H locs 0 0 Q (F0 m 97 ls []) := by
  unfold fX19_goOn_97 at h
  obtain ⟨v1, ev1⟩ : ∃ y : Int32, y = (x4 + 1) := ⟨_, rfl⟩
  replace h := zl_sub ev1 h
  refine lv_iinc (v := v1) (lv' := [(4, .int v1), (0, .ref (B 19 x0)), (1, .int x1), (2, .ref (B 18 x2)), (3, .int x3)]) F.1 F.2.1 dX19_goOn_97 hl (k := 4) rfl (by rw [ev1]; rfl) (by decide) rfl (fun ls hl => ?_)
  refine lv_goto (tgt := 5) F.1 F.2.1 dX19_goOn_100 (by decide) ?_
  exact hK5 x0 x1 x2 x3 v1 hx0 hx2 hr (lv_sub hl [1, 2, 3, 4, 0] rfl) h
def fX19_goOn_5b (N : Nat) (K5 : Nat → Int32 → Nat → Int32 → Int32 → St → Option (Int32 × St)) (x0 : Nat) (x1 : Int32) (x2 : Nat) (x3 : Int32) (x4 : Int32) (z : St) : Option (Int32 × St) := zl (zgR z 18 2 x2) fun y1 => zd y1 fun a2 => if (zgI z 16 3 a2) = 0 then (zq (x3 = 0 ∨ x3 = 1) <| some (x3, z)) else (zl (zgR z 18 2 x2) fun y5 => zd y5 fun a6 => if (zgI z 16 5 a6) ≤ x4 then (zq (x3 = 0 ∨ x3 = 1) <| some (x3, z)) else (zl (zgR z 18 2 x2) fun y9 => zd y9 fun a10 => zk x4 8 <| zl (zgQ z 164 a10 (Int32.toNatClampNeg x4)) fun y12 => zd y12 fun a13 => zl (zgR z 18 0 a13) fun y14 => zd y14 fun a15 => if (zgI z 12 1 a15) = 0 then (fX19_goOn_97 N K5 x0 x1 x2 x3 x4 z) else (zk x1 16 <| zk (zgI z 12 0 a15) 16 <| if (zgA z 191 x0 (Int32.toNatClampNeg (zgI z 12 0 a15))) ≤ ((zgA z 191 x0 (Int32.toNatClampNeg x1)) + (zgI z 18 4 x2)) then (fX19_goOn_97 N K5 x0 x1 x2 x3 x4 z) else (zk x1 16 <| zk (zgI z 12 0 a15) 16 <| zl (zsA z 191 x0 (Int32.toNatClampNeg (zgI z 12 0 a15)) ((zgA z 191 x0 (Int32.toNatClampNeg x1)) + (zgI z 18 4 x2))) fun z22 => fX19_goOn_97 N K5 x0 x1 x2 (1 : Int32) x4 z22))))
def fX19_goOn_5 (N : Nat)  : Nat → Nat → Int32 → Nat → Int32 → Int32 → St → Option (Int32 × St)
  | 0 => fun _ _ _ _ _ _ => none
  | n + 1 => fX19_goOn_5b N (fX19_goOn_5 N  n)
set_option maxHeartbeats 4000000 in
set_option maxRecDepth 100000 in
theorem bX19_goOn_5 (hst : zSt B ids) (F : zFx p m c cX19_goOn 6 s args RX19 D cy B ids A) (hA : ∀ q : Nat, s.heap.size ≤ q → A q) {r : Int32} {z' : St} (E : zEnd p l e rmX19_goOn s m args below meth c cX19_goOn D cy B ids A Q (some (.int r)) z' .ireturn (r = 0 ∨ r = 1)) {N : Nat} {K5 : Nat → Int32 → Nat → Int32 → Int32 → St → Option (Int32 × St)} (hK5 : ∀ (x0 : Nat) (x1 : Int32) (x2 : Nat) (x3 : Int32) (x4 : Int32) (hx0 : (19, x0) ∈ ids) (hx2 : (18, x2) ∈ ids) {z : St} {H : Heap} {locs : List Loc} {ls : Array Slot} (hr : zRep D cy B ids A s.heap z H locs) (hl : lv_has ls 6 [(0, .ref (B 19 x0)), (1, .int x1), (2, .ref (B 18 x2)), (3, .int x3), (4, .int x4)]), K5 x0 x1 x2 x3 x4 z = some (r, z') → W p l e rmX19_goOn s m args below meth c H locs 0 0 Q (F0 m 5 ls [])) (x0 : Nat) (x1 : Int32) (x2 : Nat) (x3 : Int32) (x4 : Int32) (hx0 : (19, x0) ∈ ids) (hx2 : (18, x2) ∈ ids) {z : St} {H : Heap} {locs : List Loc} {ls : Array Slot} (hr : zRep D cy B ids A s.heap z H locs) (hl : lv_has ls 6 [(0, .ref (B 19 x0)), (1, .int x1), (2, .ref (B 18 x2)), (3, .int x3), (4, .int x4)]) (h : fX19_goOn_5b N K5 x0 x1 x2 x3 x4 z = some (r, z')) : W p l e rmX19_goOn s m args below meth c H locs 0 0 Q (F0 m 5 ls []) := by
  unfold fX19_goOn_5b at h
  refine lv_aload_n F.1 F.2.1 dX19_goOn_5 rfl (lv_at hl 2 rfl) ?_
  refine gf19_149 F hx2 hr dX19_goOn_6 (fun y1 ey1 => ?_)
  replace h := zl_sub ey1 h
  have hy1 := zal_g hr hx2 (j := 2) rfl ey1
  clear ey1
  replace h := zd_some h
  obtain ⟨a2, rfl, h⟩ := h
  refine gf19_158 F (hy1 _ rfl) hr dX19_goOn_9 ?_
  refine lv_if_eq (tgt := 103) F.1 F.2.1 dX19_goOn_12 (by decide) (fun c3 => ?_) (fun c3 => ?_)
  · replace h := zi_t c3 h
    refine lv_iload_n F.1 F.2.1 dX19_goOn_103 rfl (lv_at hl 3 rfl) ?_
    replace h := zq_some h
    obtain ⟨c4, h⟩ := h
    obtain ⟨rfl, rfl⟩ := zret h
    exact E _ _ _ _ dX19_goOn_104 c4 hr
  · replace h := zi_f c3 h
    refine lv_iload F.1 F.2.1 dX19_goOn_15 (lv_at hl 4 rfl) ?_
    refine lv_aload_n F.1 F.2.1 dX19_goOn_17 rfl (lv_at hl 2 rfl) ?_
    refine gf19_149 F hx2 hr dX19_goOn_18 (fun y5 ey5 => ?_)
    replace h := zl_sub ey5 h
    have hy5 := zal_g hr hx2 (j := 2) rfl ey5
    clear ey5
    replace h := zd_some h
    obtain ⟨a6, rfl, h⟩ := h
    refine gf19_292 F (hy5 _ rfl) hr dX19_goOn_21 ?_
    refine lv_icmp_ge (tgt := 103) F.1 F.2.1 dX19_goOn_24 (by decide) (fun c7 => ?_) (fun c7 => ?_)
    · replace h := zi_t c7 h
      refine lv_iload_n F.1 F.2.1 dX19_goOn_103 rfl (lv_at hl 3 rfl) ?_
      replace h := zq_some h
      obtain ⟨c8, h⟩ := h
      obtain ⟨rfl, rfl⟩ := zret h
      exact E _ _ _ _ dX19_goOn_104 c8 hr
    · replace h := zi_f c7 h
      refine lv_aload_n F.1 F.2.1 dX19_goOn_27 rfl (lv_at hl 2 rfl) ?_
      refine gf19_149 F hx2 hr dX19_goOn_28 (fun y9 ey9 => ?_)
      replace h := zl_sub ey9 h
      have hy9 := zal_g hr hx2 (j := 2) rfl ey9
      clear ey9
      replace h := zd_some h
      obtain ⟨a10, rfl, h⟩ := h
      refine gf19_295 F (hy9 _ rfl) hr dX19_goOn_31 ?_
      refine lv_iload F.1 F.2.1 dX19_goOn_34 (lv_at hl 4 rfl) ?_
      replace h := zk_some h
      obtain ⟨c11, h⟩ := h
      refine zr_aaldv (k := 164) (by decide) rfl rfl (zlen_d (by decide)) F (zal_a F (hy9 _ rfl) (j := 4) rfl) hr dX19_goOn_36 c11 (fun y12 ey12 => ?_)
      replace h := zl_sub ey12 h
      have hy12 := zal_q hr (zal_a F (hy9 _ rfl) (j := 4) rfl) rfl ey12
      clear ey12
      replace h := zd_some h
      obtain ⟨a13, rfl, h⟩ := h
      refine gf19_197 F (hy12 _ rfl) hr dX19_goOn_37 (fun y14 ey14 => ?_)
      replace h := zl_sub ey14 h
      have hy14 := zal_g hr (hy12 _ rfl) (j := 0) rfl ey14
      clear ey14
      refine zr_astore (lv' := [(5, va_rf (Option.map (B 12) y14)), (0, .ref (B 19 x0)), (1, .int x1), (2, .ref (B 18 x2)), (3, .int x3), (4, .int x4)]) F.1 F.2.1 dX19_goOn_40 hl (by decide) rfl (fun ls hl => ?_)
      refine zr_aload F.1 F.2.1 dX19_goOn_42 (lv_at hl 0 rfl) ?_
      replace h := zd_some h
      obtain ⟨a15, rfl, h⟩ := h
      refine gf19_298 F (hy14 _ rfl) hr dX19_goOn_44 ?_
      refine lv_if_eq (tgt := 97) F.1 F.2.1 dX19_goOn_47 (by decide) (fun c16 => ?_) (fun c16 => ?_)
      · replace h := zi_t c16 h
        exact bX19_goOn_97 hst F hA E hK5 x0 x1 x2 x3 x4 hx0 hx2 hr (lv_sub hl [1, 2, 3, 4, 5] rfl) h
      · replace h := zi_f c16 h
        refine lv_aload_n F.1 F.2.1 dX19_goOn_50 rfl (lv_at hl 1 rfl) ?_
        refine gf19_133 F hx0 hr dX19_goOn_51 ?_
        refine lv_iload_n F.1 F.2.1 dX19_goOn_54 rfl (lv_at hl 2 rfl) ?_
        replace h := zk_some h
        obtain ⟨c17, h⟩ := h
        refine zr_iald (k := 191) (by decide) rfl (by decide) F (zal_a F hx0 (j := 30) rfl) hr dX19_goOn_55 c17 ?_
        refine lv_aload_n F.1 F.2.1 dX19_goOn_56 rfl (lv_at hl 3 rfl) ?_
        refine gf19_520 F hx2 hr dX19_goOn_57 ?_
        refine lv_iadd F.1 F.2.1 dX19_goOn_60 ?_
        refine lv_aload_n F.1 F.2.1 dX19_goOn_61 rfl (lv_at hl 1 rfl) ?_
        refine gf19_133 F hx0 hr dX19_goOn_62 ?_
        refine lv_aload F.1 F.2.1 dX19_goOn_65 (lv_at hl 0 rfl) ?_
        refine gf19_310 F (hy14 _ rfl) hr dX19_goOn_67 ?_
        replace h := zk_some h
        obtain ⟨c18, h⟩ := h
        refine zr_iald (k := 191) (by decide) rfl (by decide) F (zal_a F hx0 (j := 30) rfl) hr dX19_goOn_70 c18 ?_
        refine lv_icmp_ge (tgt := 97) F.1 F.2.1 dX19_goOn_71 (by decide) (fun c19 => ?_) (fun c19 => ?_)
        · replace h := zi_t c19 h
          exact bX19_goOn_97 hst F hA E hK5 x0 x1 x2 x3 x4 hx0 hx2 hr (lv_sub hl [1, 2, 3, 4, 5] rfl) h
        · replace h := zi_f c19 h
          refine lv_aload_n F.1 F.2.1 dX19_goOn_74 rfl (lv_at hl 1 rfl) ?_
          refine gf19_133 F hx0 hr dX19_goOn_75 ?_
          refine lv_aload F.1 F.2.1 dX19_goOn_78 (lv_at hl 0 rfl) ?_
          refine gf19_310 F (hy14 _ rfl) hr dX19_goOn_80 ?_
          refine lv_aload_n F.1 F.2.1 dX19_goOn_83 rfl (lv_at hl 1 rfl) ?_
          refine gf19_133 F hx0 hr dX19_goOn_84 ?_
          refine lv_iload_n F.1 F.2.1 dX19_goOn_87 rfl (lv_at hl 2 rfl) ?_
          replace h := zk_some h
          obtain ⟨c20, h⟩ := h
          refine zr_iald (k := 191) (by decide) rfl (by decide) F (zal_a F hx0 (j := 30) rfl) hr dX19_goOn_88 c20 ?_
          refine lv_aload_n F.1 F.2.1 dX19_goOn_89 rfl (lv_at hl 3 rfl) ?_
          refine gf19_520 F hx2 hr dX19_goOn_90 ?_
          refine lv_iadd F.1 F.2.1 dX19_goOn_93 ?_
          replace h := zk_some h
          obtain ⟨c21, h⟩ := h
          refine zr_iast (k := 191) (by decide) rfl (by decide) F (zal_a F hx0 (j := 30) rfl) hr dX19_goOn_94 c21 (fun H locs z22 ez22 hr => ?_)
          replace h := zl_sub ez22 h
          clear ez22
          refine lv_iconst (v := (1 : Int32)) F.1 F.2.1 dX19_goOn_95 (by decide) ?_
          refine lv_istore_n (lv' := [(3, .int (1 : Int32)), (5, .ref (B 12 a15)), (0, .ref (B 19 x0)), (1, .int x1), (2, .ref (B 18 x2)), (4, .int x4)]) F.1 F.2.1 dX19_goOn_96 rfl hl (by decide) rfl (fun ls hl => ?_)
          exact bX19_goOn_97 hst F hA E hK5 x0 x1 x2 (1 : Int32) x4 hx0 hx2 hr (lv_sub hl [2, 3, 4, 0, 5] rfl) h
theorem lX19_goOn_5 (hst : zSt B ids) (F : zFx p m c cX19_goOn 6 s args RX19 D cy B ids A) (hA : ∀ q : Nat, s.heap.size ≤ q → A q) {r : Int32} {z' : St} (E : zEnd p l e rmX19_goOn s m args below meth c cX19_goOn D cy B ids A Q (some (.int r)) z' .ireturn (r = 0 ∨ r = 1)) {N : Nat}  : ∀ (n : Nat) (x0 : Nat) (x1 : Int32) (x2 : Nat) (x3 : Int32) (x4 : Int32) (hx0 : (19, x0) ∈ ids) (hx2 : (18, x2) ∈ ids) {z : St} {H : Heap} {locs : List Loc} {ls : Array Slot} (hr : zRep D cy B ids A s.heap z H locs) (hl : lv_has ls 6 [(0, .ref (B 19 x0)), (1, .int x1), (2, .ref (B 18 x2)), (3, .int x3), (4, .int x4)]), fX19_goOn_5 N  n x0 x1 x2 x3 x4 z = some (r, z') → W p l e rmX19_goOn s m args below meth c H locs 0 0 Q (F0 m 5 ls []) := by
  intro n
  induction n with
  | zero => intro x0 x1 x2 x3 x4 hx0 hx2 z H locs ls hr hl h; cases h
  | succ n ih => intro x0 x1 x2 x3 x4 hx0 hx2 z H locs ls hr hl h; exact bX19_goOn_5 hst F hA E ih x0 x1 x2 x3 x4 hx0 hx2 hr hl h
def fX19_goOn (N : Nat)  (x0 : Nat) (x1 : Int32) (x2 : Nat) (z : St) : Option (Int32 × St) := fX19_goOn_5 N N x0 x1 x2 (0 : Int32) (0 : Int32) z
set_option maxHeartbeats 4000000 in
set_option maxRecDepth 100000 in
theorem bX19_goOn_0 (hst : zSt B ids) (F : zFx p m c cX19_goOn 6 s args RX19 D cy B ids A) (hA : ∀ q : Nat, s.heap.size ≤ q → A q) {r : Int32} {z' : St} (E : zEnd p l e rmX19_goOn s m args below meth c cX19_goOn D cy B ids A Q (some (.int r)) z' .ireturn (r = 0 ∨ r = 1)) {N : Nat}  (x0 : Nat) (x1 : Int32) (x2 : Nat) (hx0 : (19, x0) ∈ ids) (hx2 : (18, x2) ∈ ids) {z : St} {H : Heap} {locs : List Loc} {ls : Array Slot} (hr : zRep D cy B ids A s.heap z H locs) (hl : lv_has ls 6 [(0, .ref (B 19 x0)), (1, .int x1), (2, .ref (B 18 x2))]) (h : fX19_goOn N x0 x1 x2 z = some (r, z')) : W p l e rmX19_goOn s m args below meth c H locs 0 0 Q (F0 m 0 ls []) := by
  unfold fX19_goOn at h
  refine lv_iconst (v := (0 : Int32)) F.1 F.2.1 dX19_goOn_0 (by decide) ?_
  refine lv_istore_n (lv' := [(3, .int (0 : Int32)), (0, .ref (B 19 x0)), (1, .int x1), (2, .ref (B 18 x2))]) F.1 F.2.1 dX19_goOn_1 rfl hl (by decide) rfl (fun ls hl => ?_)
  refine lv_iconst (v := (0 : Int32)) F.1 F.2.1 dX19_goOn_2 (by decide) ?_
  refine lv_istore (lv' := [(4, .int (0 : Int32)), (3, .int (0 : Int32)), (0, .ref (B 19 x0)), (1, .int x1), (2, .ref (B 18 x2))]) F.1 F.2.1 dX19_goOn_3 hl (by decide) rfl (fun ls hl => ?_)
  exact lX19_goOn_5 hst F hA E  _ x0 x1 x2 (0 : Int32) (0 : Int32) hx0 hx2 hr (lv_sub hl [2, 3, 4, 1, 0] rfl) h
end SX19_goOn
set_option maxRecDepth 100000 in
theorem okX19_goOn (l : Launch) (D : va_G) (cy : Nat → ClassId) (B : Nat → Nat → Nat) (ids : List (Nat × Nat)) (hst : zSt B ids) (N : Nat) (x0 : Nat) (hx0 : (19, x0) ∈ ids) (x1 : Int32) (x2 : Nat) (hx2 : (18, x2) ∈ ids) {z : St} {r : Int32} {z' : St} (hW : zWf ids z) (h : fX19_goOn N x0 x1 x2 z = some (r, z')) : zM l yX19_goOn (zws yX19_goOn cX19_goOn 6 (some .boolean)) rmX19_goOn D cy B ids [.ref (B 19 x0), .int x1, .ref (B 18 x2)] (some (.int r)) (r = 0 ∨ r = 1) z z' :=
  zM_of hst hW (by decide +kernel) (Nat.le_of_ble_eq_true rfl) (fun p e s m args below meth c A ls F hA hret hlocks hr hl => bX19_goOn_0 hst F hA (zEnd_z F hret hlocks) x0 x1 x2 hx0 hx2 hr hl h)
abbrev rmX19_fromAbove : Room := { frames := 2, cells := 0, slots := 0, locals := 42 }
theorem hdX19_fromAbove : yX19_fromAbove.cls ≠ "java/lang/invoke/MethodHandle" ∧ yX19_fromAbove.cls ≠ "java/lang/invoke/VarHandle" ∧ (parseMethodDescriptor yX19_fromAbove.desc).map (fun d => d.parameters.length) = some 1 := by decide +kernel
theorem hroX19_fromAbove_X19_goOn : rmX19_goOn.frames + 1 ≤ rmX19_fromAbove.frames ∧ 8 + (6 + 11) + rmX19_goOn.locals ≤ rmX19_fromAbove.locals := by decide
theorem hroX19_fromAbove_X19_isRouter : rmX19_isRouter.frames + 1 ≤ rmX19_fromAbove.frames ∧ 8 + (2 + 11) + rmX19_isRouter.locals ≤ rmX19_fromAbove.locals := by decide
section SX19_fromAbove
variable {p : Program} {l : Launch} {e : Env} {s : State} {m : MethodId} {args : Array Value} {below : List Frame} {meth : Method} {c : Code} {Q : State → Prop} {D : va_G} {cy : Nat → ClassId} {B : Nat → Nat → Nat} {ids : List (Nat × Nat)} {A : Nat → Prop}
def fX19_fromAbove_25 (N : Nat) (K2 : Nat → Int32 → Int32 → St → Option (Int32 × St)) (x0 : Nat) (x1 : Int32) (x2 : Int32) (s0 : Nat) (s1 : Int32) (s2 : Int32) (z : St) : Option (Int32 × St) := zk s1 16 <| zl (zsA z 191 s0 (Int32.toNatClampNeg s1) s2) fun z2 => zl (x2 + 1) fun v3 => K2 x0 x1 v3 z2
set_option maxHeartbeats 4000000 in
set_option maxRecDepth 100000 in
theorem bX19_fromAbove_25 (hst : zSt B ids) (F : zFx p m c cX19_fromAbove 5 s args RX19 D cy B ids A) (hA : ∀ q : Nat, s.heap.size ≤ q → A q) {r : Int32} {z' : St} (E : zEnd p l e rmX19_fromAbove s m args below meth c cX19_fromAbove D cy B ids A Q none z' .return_ True) {N : Nat} {K2 : Nat → Int32 → Int32 → St → Option (Int32 × St)} (hK2 : ∀ (x0 : Nat) (x1 : Int32) (x2 : Int32) (hx0 : (19, x0) ∈ ids) {z : St} {H : Heap} {locs : List Loc} {ls : Array Slot} (hr : zRep D cy B ids A s.heap z H locs) (hl : lv_has ls 5 [(0, .ref (B 19 x0)), (1, .int x1), (2, .int x2)]), K2 x0 x1 x2 z = some (r, z') → W p l e rmX19_fromAbove s m args below meth c H locs 0 0 Q (F0 m 2 ls [])) (x0 : Nat) (x1 : Int32) (x2 : Int32) (s0 : Nat) (s1 : Int32) (s2 : Int32) (hx0 : (19, x0) ∈ ids) (hs0 : (191, s0) ∈ ids) {z : St} {H : Heap} {locs : List Loc} {ls : Array Slot} (hr : zRep D cy B ids A s.heap z H locs) (hl : lv_has ls 5 [(0, .ref (B 19 x0)), (1, .int x1), (2, .int x2)]) (h : fX19_fromAbove_25 N K2 x0 x1 x2 s0 s1 s2 z = some (r, z')) : W p l e rmX19_fromAbove s m args below meth c H locs 0 0 Q (F0 m 25 ls [.int s2, .int s1, .ref (B 191 s0)]) := by
  unfold fX19_fromAbove_25 at h
  replace h := zk_some h
  obtain ⟨c1, h⟩ := h
  refine zr_iast (k := 191) (by decide) rfl (by decide) F hs0 hr dX19_fromAbove_25 c1 (fun H locs z2 ez2 hr => ?_)
  replace h := zl_sub ez2 h
  clear ez2
  obtain ⟨v3, ev3⟩ : ∃ y : Int32, y = (x2 + 1) := ⟨_, rfl⟩
  replace h := zl_sub ev3 h
  refine lv_iinc (v := v3) (lv' := [(2, .int v3), (0, .ref (B 19 x0)), (1, .int x1)]) F.1 F.2.1 dX19_fromAbove_26 hl (k := 2) rfl (by rw [ev3]; rfl) (by decide) rfl (fun ls hl => ?_)
  refine lv_goto (tgt := 2) F.1 F.2.1 dX19_fromAbove_29 (by decide) ?_
  exact hK2 x0 x1 v3 hx0 hr (lv_sub hl [1, 2, 0] rfl) h
def fX19_fromAbove_116 (N : Nat) (K34 : Nat → Int32 → St → Option (Int32 × St)) (K42 : Nat → Int32 → Int32 → St → Option (Int32 × St)) (K53 : Nat → Int32 → Int32 → Int32 → St → Option (Int32 × St)) (x0 : Nat) (x3 : Int32) (x4 : Int32) (s0 : Int32) (z : St) : Option (Int32 × St) := zl (x4 + 1) fun v1 => K53 x0 s0 x3 v1 z
set_option maxHeartbeats 4000000 in
set_option maxRecDepth 100000 in
theorem bX19_fromAbove_116 (hst : zSt B ids) (F : zFx p m c cX19_fromAbove 5 s args RX19 D cy B ids A) (hA : ∀ q : Nat, s.heap.size ≤ q → A q) {r : Int32} {z' : St} (E : zEnd p l e rmX19_fromAbove s m args below meth c cX19_fromAbove D cy B ids A Q none z' .return_ True) {N : Nat} {K34 : Nat → Int32 → St → Option (Int32 × St)} {K42 : Nat → Int32 → Int32 → St → Option (Int32 × St)} {K53 : Nat → Int32 → Int32 → Int32 → St → Option (Int32 × St)} (hK34 : ∀ (x0 : Nat) (x2 : Int32) (hx0 : (19, x0) ∈ ids) {z : St} {H : Heap} {locs : List Loc} {ls : Array Slot} (hr : zRep D cy B ids A s.heap z H locs) (hl : lv_has ls 5 [(0, .ref (B 19 x0)), (2, .int x2)]), K34 x0 x2 z = some (r, z') → W p l e rmX19_fromAbove s m args below meth c H locs 0 0 Q (F0 m 34 ls [])) (hK42 : ∀ (x0 : Nat) (x2 : Int32) (x3 : Int32) (hx0 : (19, x0) ∈ ids) {z : St} {H : Heap} {locs : List Loc} {ls : Array Slot} (hr : zRep D cy B ids A s.heap z H locs) (hl : lv_has ls 5 [(0, .ref (B 19 x0)), (2, .int x2), (3, .int x3)]), K42 x0 x2 x3 z = some (r, z') → W p l e rmX19_fromAbove s m args below meth c H locs 0 0 Q (F0 m 42 ls [])) (hK53 : ∀ (x0 : Nat) (x2 : Int32) (x3 : Int32) (x4 : Int32) (hx0 : (19, x0) ∈ ids) {z : St} {H : Heap} {locs : List Loc} {ls : Array Slot} (hr : zRep D cy B ids A s.heap z H locs) (hl : lv_has ls 5 [(0, .ref (B 19 x0)), (2, .int x2), (3, .int x3), (4, .int x4)]), K53 x0 x2 x3 x4 z = some (r, z') → W p l e rmX19_fromAbove s m args below meth c H locs 0 0 Q (F0 m 53 ls [])) (x0 : Nat) (x3 : Int32) (x4 : Int32) (s0 : Int32) (hx0 : (19, x0) ∈ ids) {z : St} {H : Heap} {locs : List Loc} {ls : Array Slot} (hr : zRep D cy B ids A s.heap z H locs) (hl : lv_has ls 5 [(0, .ref (B 19 x0)), (3, .int x3), (4, .int x4)]) (h : fX19_fromAbove_116 N K34 K42 K53 x0 x3 x4 s0 z = some (r, z')) : W p l e rmX19_fromAbove s m args below meth c H locs 0 0 Q (F0 m 116 ls [.int s0]) := by
  unfold fX19_fromAbove_116 at h
  refine lv_istore_n (lv' := [(2, .int s0), (0, .ref (B 19 x0)), (3, .int x3), (4, .int x4)]) F.1 F.2.1 dX19_fromAbove_116 rfl hl (by decide) rfl (fun ls hl => ?_)
  obtain ⟨v1, ev1⟩ : ∃ y : Int32, y = (x4 + 1) := ⟨_, rfl⟩
  replace h := zl_sub ev1 h
  refine lv_iinc (v := v1) (lv' := [(4, .int v1), (2, .int s0), (0, .ref (B 19 x0)), (3, .int x3)]) F.1 F.2.1 dX19_fromAbove_117 hl (k := 3) rfl (by rw [ev1]; rfl) (by decide) rfl (fun ls hl => ?_)
  refine lv_goto (tgt := 53) F.1 F.2.1 dX19_fromAbove_120 (by decide) ?_
  exact hK53 x0 s0 x3 v1 hx0 hr (lv_sub hl [2, 1, 3, 0] rfl) h
def fX19_fromAbove_111 (N : Nat) (K34 : Nat → Int32 → St → Option (Int32 × St)) (K42 : Nat → Int32 → Int32 → St → Option (Int32 × St)) (K53 : Nat → Int32 → Int32 → Int32 → St → Option (Int32 × St)) (x0 : Nat) (x3 : Int32) (x4 : Int32) (z : St) : Option (Int32 × St) := fX19_fromAbove_116 N K34 K42 K53 x0 x3 x4 (1 : Int32) z
set_option maxHeartbeats 4000000 in
set_option maxRecDepth 100000 in
theorem bX19_fromAbove_111 (hst : zSt B ids) (F : zFx p m c cX19_fromAbove 5 s args RX19 D cy B ids A) (hA : ∀ q : Nat, s.heap.size ≤ q → A q) {r : Int32} {z' : St} (E : zEnd p l e rmX19_fromAbove s m args below meth c cX19_fromAbove D cy B ids A Q none z' .return_ True) {N : Nat} {K34 : Nat → Int32 → St → Option (Int32 × St)} {K42 : Nat → Int32 → Int32 → St → Option (Int32 × St)} {K53 : Nat → Int32 → Int32 → Int32 → St → Option (Int32 × St)} (hK34 : ∀ (x0 : Nat) (x2 : Int32) (hx0 : (19, x0) ∈ ids) {z : St} {H : Heap} {locs : List Loc} {ls : Array Slot} (hr : zRep D cy B ids A s.heap z H locs) (hl : lv_has ls 5 [(0, .ref (B 19 x0)), (2, .int x2)]), K34 x0 x2 z = some (r, z') → W p l e rmX19_fromAbove s m args below meth c H locs 0 0 Q (F0 m 34 ls [])) (hK42 : ∀ (x0 : Nat) (x2 : Int32) (x3 : Int32) (hx0 : (19, x0) ∈ ids) {z : St} {H : Heap} {locs : List Loc} {ls : Array Slot} (hr : zRep D cy B ids A s.heap z H locs) (hl : lv_has ls 5 [(0, .ref (B 19 x0)), (2, .int x2), (3, .int x3)]), K42 x0 x2 x3 z = some (r, z') → W p l e rmX19_fromAbove s m args below meth c H locs 0 0 Q (F0 m 42 ls [])) (hK53 : ∀ (x0 : Nat) (x2 : Int32) (x3 : Int32) (x4 : Int32) (hx0 : (19, x0) ∈ ids) {z : St} {H : Heap} {locs : List Loc} {ls : Array Slot} (hr : zRep D cy B ids A s.heap z H locs) (hl : lv_has ls 5 [(0, .ref (B 19 x0)), (2, .int x2), (3, .int x3), (4, .int x4)]), K53 x0 x2 x3 x4 z = some (r, z') → W p l e rmX19_fromAbove s m args below meth c H locs 0 0 Q (F0 m 53 ls [])) (x0 : Nat) (x3 : Int32) (x4 : Int32) (hx0 : (19, x0) ∈ ids) {z : St} {H : Heap} {locs : List Loc} {ls : Array Slot} (hr : zRep D cy B ids A s.heap z H locs) (hl : lv_has ls 5 [(0, .ref (B 19 x0)), (3, .int x3), (4, .int x4)]) (h : fX19_fromAbove_111 N K34 K42 K53 x0 x3 x4 z = some (r, z')) : W p l e rmX19_fromAbove s m args below meth c H locs 0 0 Q (F0 m 111 ls []) := by
  unfold fX19_fromAbove_111 at h
  refine lv_iconst (v := (1 : Int32)) F.1 F.2.1 dX19_fromAbove_111 (by decide) ?_
  refine lv_goto (tgt := 116) F.1 F.2.1 dX19_fromAbove_112 (by decide) ?_
  exact bX19_fromAbove_116 hst F hA E hK34 hK42 hK53 x0 x3 x4 (1 : Int32) hx0 hr (lv_sub hl [0, 1, 2] rfl) h
def fX19_fromAbove_123 (N : Nat) (K34 : Nat → Int32 → St → Option (Int32 × St)) (K42 : Nat → Int32 → Int32 → St → Option (Int32 × St)) (x0 : Nat) (x2 : Int32) (x3 : Int32) (z : St) : Option (Int32 × St) := zl (x3 + 1) fun v1 => K42 x0 x2 v1 z
set_option maxHeartbeats 4000000 in
set_option maxRecDepth 100000 in
theorem bX19_fromAbove_123 (hst : zSt B ids) (F : zFx p m c cX19_fromAbove 5 s args RX19 D cy B ids A) (hA : ∀ q : Nat, s.heap.size ≤ q → A q) {r : Int32} {z' : St} (E : zEnd p l e rmX19_fromAbove s m args below meth c cX19_fromAbove D cy B ids A Q none z' .return_ True) {N : Nat} {K34 : Nat → Int32 → St → Option (Int32 × St)} {K42 : Nat → Int32 → Int32 → St → Option (Int32 × St)} (hK34 : ∀ (x0 : Nat) (x2 : Int32) (hx0 : (19, x0) ∈ ids) {z : St} {H : Heap} {locs : List Loc} {ls : Array Slot} (hr : zRep D cy B ids A s.heap z H locs) (hl : lv_has ls 5 [(0, .ref (B 19 x0)), (2, .int x2)]), K34 x0 x2 z = some (r, z') → W p l e rmX19_fromAbove s m args below meth c H locs 0 0 Q (F0 m 34 ls [])) (hK42 : ∀ (x0 : Nat) (x2 : Int32) (x3 : Int32) (hx0 : (19, x0) ∈ ids) {z : St} {H : Heap} {locs : List Loc} {ls : Array Slot} (hr : zRep D cy B ids A s.heap z H locs) (hl : lv_has ls 5 [(0, .ref (B 19 x0)), (2, .int x2), (3, .int x3)]), K42 x0 x2 x3 z = some (r, z') → W p l e rmX19_fromAbove s m args below meth c H locs 0 0 Q (F0 m 42 ls [])) (x0 : Nat) (x2 : Int32) (x3 : Int32) (hx0 : (19, x0) ∈ ids) {z : St} {H : Heap} {locs : List Loc} {ls : Array Slot} (hr : zRep D cy B ids A s.heap z H locs) (hl : lv_has ls 5 [(0, .ref (B 19 x0)), (2, .int x2), (3, .int x3)]) (h : fX19_fromAbove_123 N K34 K42 x0 x2 x3 z = some (r, z')) : W p l e rmX19_fromAbove s m args below meth c H locs 0 0 Q (F0 m 123 ls []) := by
  unfold fX19_fromAbove_123 at h
  obtain ⟨v1, ev1⟩ : ∃ y : Int32, y = (x3 + 1) := ⟨_, rfl⟩
  replace h := zl_sub ev1 h
  refine lv_iinc (v := v1) (lv' := [(3, .int v1), (0, .ref (B 19 x0)), (2, .int x2)]) F.1 F.2.1 dX19_fromAbove_123 hl (k := 2) rfl (by rw [ev1]; rfl) (by decide) rfl (fun ls hl => ?_)
  refine lv_goto (tgt := 42) F.1 F.2.1 dX19_fromAbove_126 (by decide) ?_
  exact hK42 x0 x2 v1 hx0 hr (lv_sub hl [1, 2, 0] rfl) h
def fX19_fromAbove_53b (N : Nat) (K34 : Nat → Int32 → St → Option (Int32 × St)) (K42 : Nat → Int32 → Int32 → St → Option (Int32 × St)) (K53 : Nat → Int32 → Int32 → Int32 → St → Option (Int32 × St)) (x0 : Nat) (x2 : Int32) (x3 : Int32) (x4 : Int32) (z : St) : Option (Int32 × St) := zc (fX19_isRouter N x0 x3 z) fun r1 z2 => if r1 = 0 then (fX19_fromAbove_123 N K34 K42 x0 x2 x3 z2) else (zk x3 16 <| if (1000000000 : Int32) ≤ (zgA z2 191 x0 (Int32.toNatClampNeg x3)) then (fX19_fromAbove_123 N K34 K42 x0 x2 x3 z2) else (zk x3 16 <| zl (zgQ z2 186 x0 (Int32.toNatClampNeg x3)) fun y9 => zd y9 fun a10 => if (zgI z2 12 3 a10) ≤ x4 then (fX19_fromAbove_123 N K34 K42 x0 x2 x3 z2) else (zk x3 16 <| zl (zgQ z2 186 x0 (Int32.toNatClampNeg x3)) fun y13 => zd y13 fun a14 => zk x4 6 <| zl (zgQ z2 147 a14 (Int32.toNatClampNeg x4)) fun y16 => zd y16 fun a17 => zc (fX19_goOn N x0 x3 a17 z2) fun r18 z19 => if ¬ r18 = 0 then (fX19_fromAbove_111 N K34 K42 K53 x0 x3 x4 z19) else (if x2 = 0 then (fX19_fromAbove_116 N K34 K42 K53 x0 x3 x4 (0 : Int32) z19) else (fX19_fromAbove_111 N K34 K42 K53 x0 x3 x4 z19)))))
def fX19_fromAbove_53 (N : Nat) (K34 : Nat → Int32 → St → Option (Int32 × St)) (K42 : Nat → Int32 → Int32 → St → Option (Int32 × St)) : Nat → Nat → Int32 → Int32 → Int32 → St → Option (Int32 × St)
  | 0 => fun _ _ _ _ _ => none
  | n + 1 => fX19_fromAbove_53b N K34 K42 (fX19_fromAbove_53 N K34 K42 n)
set_option maxHeartbeats 4000000 in
set_option maxRecDepth 100000 in
theorem bX19_fromAbove_53 (hst : zSt B ids) (F : zFx p m c cX19_fromAbove 5 s args RX19 D cy B ids A) (hA : ∀ q : Nat, s.heap.size ≤ q → A q) {r : Int32} {z' : St} (E : zEnd p l e rmX19_fromAbove s m args below meth c cX19_fromAbove D cy B ids A Q none z' .return_ True) {N : Nat} {K34 : Nat → Int32 → St → Option (Int32 × St)} {K42 : Nat → Int32 → Int32 → St → Option (Int32 × St)} {K53 : Nat → Int32 → Int32 → Int32 → St → Option (Int32 × St)} (hK34 : ∀ (x0 : Nat) (x2 : Int32) (hx0 : (19, x0) ∈ ids) {z : St} {H : Heap} {locs : List Loc} {ls : Array Slot} (hr : zRep D cy B ids A s.heap z H locs) (hl : lv_has ls 5 [(0, .ref (B 19 x0)), (2, .int x2)]), K34 x0 x2 z = some (r, z') → W p l e rmX19_fromAbove s m args below meth c H locs 0 0 Q (F0 m 34 ls [])) (hK42 : ∀ (x0 : Nat) (x2 : Int32) (x3 : Int32) (hx0 : (19, x0) ∈ ids) {z : St} {H : Heap} {locs : List Loc} {ls : Array Slot} (hr : zRep D cy B ids A s.heap z H locs) (hl : lv_has ls 5 [(0, .ref (B 19 x0)), (2, .int x2), (3, .int x3)]), K42 x0 x2 x3 z = some (r, z') → W p l e rmX19_fromAbove s m args below meth c H locs 0 0 Q (F0 m 42 ls [])) (hK53 : ∀ (x0 : Nat) (x2 : Int32) (x3 : Int32) (x4 : Int32) (hx0 : (19, x0) ∈ ids) {z : St} {H : Heap} {locs : List Loc} {ls : Array Slot} (hr : zRep D cy B ids A s.heap z H locs) (hl : lv_has ls 5 [(0, .ref (B 19 x0)), (2, .int x2), (3, .int x3), (4, .int x4)]), K53 x0 x2 x3 x4 z = some (r, z') → W p l e rmX19_fromAbove s m args below meth c H locs 0 0 Q (F0 m 53 ls [])) (x0 : Nat) (x2 : Int32) (x3 : Int32) (x4 : Int32) (hx0 : (19, x0) ∈ ids) {z : St} {H : Heap} {locs : List Loc} {ls : Array Slot} (hr : zRep D cy B ids A s.heap z H locs) (hl : lv_has ls 5 [(0, .ref (B 19 x0)), (2, .int x2), (3, .int x3), (4, .int x4)]) (h : fX19_fromAbove_53b N K34 K42 K53 x0 x2 x3 x4 z = some (r, z')) : W p l e rmX19_fromAbove s m args below meth c H locs 0 0 Q (F0 m 53 ls []) := by
  unfold fX19_fromAbove_53b at h
  refine lv_aload_n F.1 F.2.1 dX19_fromAbove_53 rfl (lv_at hl 0 rfl) ?_
  refine lv_iload_n F.1 F.2.1 dX19_fromAbove_54 rfl (lv_at hl 2 rfl) ?_
  replace h := zc_some h
  obtain ⟨r1, z2, hc3, h⟩ := h
  refine zr_calli (zrun_V (As := [.int x3]) (rest := []) zq_2529 zq_2531 zs_X19_isRouter zq_2532 zq_4 hdX19_isRouter (by decide) (T := TX19) (N := 32) rfl (okX19_isRouter l D cy B ids hst N x0 hx0 x3  hr.2.2 hc3) F hr hx0 hl.1 rfl (by decide) dX19_fromAbove_55 rfl rfl hroX19_fromAbove_X19_isRouter ⟨Nat.zero_le _, Nat.zero_le _⟩) F hA hr (fun H locs hw4 hr => ?_)
  clear hc3
  refine lv_if_eq (tgt := 123) F.1 F.2.1 dX19_fromAbove_58 (by decide) (fun c5 => ?_) (fun c5 => ?_)
  · replace h := zi_t c5 h
    exact bX19_fromAbove_123 hst F hA E hK34 hK42 x0 x2 x3 hx0 hr (lv_sub hl [0, 1, 2] rfl) h
  · replace h := zi_f c5 h
    refine lv_aload_n F.1 F.2.1 dX19_fromAbove_61 rfl (lv_at hl 0 rfl) ?_
    refine gf19_133 F hx0 hr dX19_fromAbove_62 ?_
    refine lv_iload_n F.1 F.2.1 dX19_fromAbove_65 rfl (lv_at hl 2 rfl) ?_
    replace h := zk_some h
    obtain ⟨c6, h⟩ := h
    refine zr_iald (k := 191) (by decide) rfl (by decide) F (zal_a F hx0 (j := 30) rfl) hr dX19_fromAbove_66 c6 ?_
    refine lv_ldcw (v := (1000000000)) F.1 F.2.1 F.2.2.2.1 (F.2.2.2.2.1 _ zq_2903) dX19_fromAbove_67 ?_
    refine lv_icmp_ge (tgt := 123) F.1 F.2.1 dX19_fromAbove_70 (by decide) (fun c7 => ?_) (fun c7 => ?_)
    · replace h := zi_t c7 h
      exact bX19_fromAbove_123 hst F hA E hK34 hK42 x0 x2 x3 hx0 hr (lv_sub hl [0, 1, 2] rfl) h
    · replace h := zi_f c7 h
      refine lv_iload F.1 F.2.1 dX19_fromAbove_73 (lv_at hl 3 rfl) ?_
      refine lv_aload_n F.1 F.2.1 dX19_fromAbove_75 rfl (lv_at hl 0 rfl) ?_
      refine gf19_114 F hx0 hr dX19_fromAbove_76 ?_
      refine lv_iload_n F.1 F.2.1 dX19_fromAbove_79 rfl (lv_at hl 2 rfl) ?_
      replace h := zk_some h
      obtain ⟨c8, h⟩ := h
      refine zr_aaldv (k := 186) (by decide) rfl rfl (zlen_d (by decide)) F (zal_a F hx0 (j := 18) rfl) hr dX19_fromAbove_80 c8 (fun y9 ey9 => ?_)
      replace h := zl_sub ey9 h
      have hy9 := zal_q hr (zal_a F hx0 (j := 18) rfl) rfl ey9
      clear ey9
      replace h := zd_some h
      obtain ⟨a10, rfl, h⟩ := h
      refine gf19_273 F (hy9 _ rfl) hr dX19_fromAbove_81 ?_
      refine lv_icmp_ge (tgt := 123) F.1 F.2.1 dX19_fromAbove_84 (by decide) (fun c11 => ?_) (fun c11 => ?_)
      · replace h := zi_t c11 h
        exact bX19_fromAbove_123 hst F hA E hK34 hK42 x0 x2 x3 hx0 hr (lv_sub hl [0, 1, 2] rfl) h
      · replace h := zi_f c11 h
        refine lv_aload_n F.1 F.2.1 dX19_fromAbove_87 rfl (lv_at hl 0 rfl) ?_
        refine lv_iload_n F.1 F.2.1 dX19_fromAbove_88 rfl (lv_at hl 2 rfl) ?_
        refine lv_aload_n F.1 F.2.1 dX19_fromAbove_89 rfl (lv_at hl 0 rfl) ?_
        refine gf19_114 F hx0 hr dX19_fromAbove_90 ?_
        refine lv_iload_n F.1 F.2.1 dX19_fromAbove_93 rfl (lv_at hl 2 rfl) ?_
        replace h := zk_some h
        obtain ⟨c12, h⟩ := h
        refine zr_aaldv (k := 186) (by decide) rfl rfl (zlen_d (by decide)) F (zal_a F hx0 (j := 18) rfl) hr dX19_fromAbove_94 c12 (fun y13 ey13 => ?_)
        replace h := zl_sub ey13 h
        have hy13 := zal_q hr (zal_a F hx0 (j := 18) rfl) rfl ey13
        clear ey13
        replace h := zd_some h
        obtain ⟨a14, rfl, h⟩ := h
        refine gf19_276 F (hy13 _ rfl) hr dX19_fromAbove_95 ?_
        refine lv_iload F.1 F.2.1 dX19_fromAbove_98 (lv_at hl 3 rfl) ?_
        replace h := zk_some h
        obtain ⟨c15, h⟩ := h
        refine zr_aaldv (k := 147) (by decide) rfl rfl (zlen_d (by decide)) F (zal_a F (hy13 _ rfl) (j := 2) rfl) hr dX19_fromAbove_100 c15 (fun y16 ey16 => ?_)
        replace h := zl_sub ey16 h
        have hy16 := zal_q hr (zal_a F (hy13 _ rfl) (j := 2) rfl) rfl ey16
        clear ey16
        replace h := zd_some h
        obtain ⟨a17, rfl, h⟩ := h
        replace h := zc_some h
        obtain ⟨r18, z19, hc20, h⟩ := h
        refine zr_calli (zrun_V (As := [.int x3, .ref (B 18 a17)]) (rest := []) zq_3109 zq_3111 zs_X19_goOn zq_3112 zq_4 hdX19_goOn (by decide) (T := TX19) (N := 32) rfl (okX19_goOn l D cy B ids hst N x0 hx0 x3  a17 (hy16 _ rfl) hr.2.2 hc20) F hr hx0 hl.1 rfl (by decide) dX19_fromAbove_101 rfl rfl hroX19_fromAbove_X19_goOn ⟨Nat.zero_le _, Nat.zero_le _⟩) F hA hr (fun H locs hw21 hr => ?_)
        clear hc20
        refine lv_if_ne (tgt := 111) F.1 F.2.1 dX19_fromAbove_104 (by decide) (fun c22 => ?_) (fun c22 => ?_)
        · replace h := zi_t c22 h
          exact bX19_fromAbove_111 hst F hA E hK34 hK42 hK53 x0 x3 x4 hx0 hr (lv_sub hl [0, 2, 3] rfl) h
        · replace h := zi_f (fun q => q c22) h
          refine lv_iload_n F.1 F.2.1 dX19_fromAbove_107 rfl (lv_at hl 1 rfl) ?_
          refine lv_if_eq (tgt := 115) F.1 F.2.1 dX19_fromAbove_108 (by decide) (fun c23 => ?_) (fun c23 => ?_)
          · replace h := zi_t c23 h
            refine lv_iconst (v := (0 : Int32)) F.1 F.2.1 dX19_fromAbove_115 (by decide) ?_
            exact bX19_fromAbove_116 hst F hA E hK34 hK42 hK53 x0 x3 x4 (0 : Int32) hx0 hr (lv_sub hl [0, 2, 3] rfl) h
          · replace h := zi_f c23 h
            exact bX19_fromAbove_111 hst F hA E hK34 hK42 hK53 x0 x3 x4 hx0 hr (lv_sub hl [0, 2, 3] rfl) h
theorem lX19_fromAbove_53 (hst : zSt B ids) (F : zFx p m c cX19_fromAbove 5 s args RX19 D cy B ids A) (hA : ∀ q : Nat, s.heap.size ≤ q → A q) {r : Int32} {z' : St} (E : zEnd p l e rmX19_fromAbove s m args below meth c cX19_fromAbove D cy B ids A Q none z' .return_ True) {N : Nat} {K34 : Nat → Int32 → St → Option (Int32 × St)} {K42 : Nat → Int32 → Int32 → St → Option (Int32 × St)} (hK34 : ∀ (x0 : Nat) (x2 : Int32) (hx0 : (19, x0) ∈ ids) {z : St} {H : Heap} {locs : List Loc} {ls : Array Slot} (hr : zRep D cy B ids A s.heap z H locs) (hl : lv_has ls 5 [(0, .ref (B 19 x0)), (2, .int x2)]), K34 x0 x2 z = some (r, z') → W p l e rmX19_fromAbove s m args below meth c H locs 0 0 Q (F0 m 34 ls [])) (hK42 : ∀ (x0 : Nat) (x2 : Int32) (x3 : Int32) (hx0 : (19, x0) ∈ ids) {z : St} {H : Heap} {locs : List Loc} {ls : Array Slot} (hr : zRep D cy B ids A s.heap z H locs) (hl : lv_has ls 5 [(0, .ref (B 19 x0)), (2, .int x2), (3, .int x3)]), K42 x0 x2 x3 z = some (r, z') → W p l e rmX19_fromAbove s m args below meth c H locs 0 0 Q (F0 m 42 ls [])) : ∀ (n : Nat) (x0 : Nat) (x2 : Int32) (x3 : Int32) (x4 : Int32) (hx0 : (19, x0) ∈ ids) {z : St} {H : Heap} {locs : List Loc} {ls : Array Slot} (hr : zRep D cy B ids A s.heap z H locs) (hl : lv_has ls 5 [(0, .ref (B 19 x0)), (2, .int x2), (3, .int x3), (4, .int x4)]), fX19_fromAbove_53 N K34 K42 n x0 x2 x3 x4 z = some (r, z') → W p l e rmX19_fromAbove s m args below meth c H locs 0 0 Q (F0 m 53 ls []) := by
  intro n
  induction n with
  | zero => intro x0 x2 x3 x4 hx0 z H locs ls hr hl h; cases h
  | succ n ih => intro x0 x2 x3 x4 hx0 z H locs ls hr hl h; exact bX19_fromAbove_53 hst F hA E hK34 hK42 ih x0 x2 x3 x4 hx0 hr hl h
def fX19_fromAbove_42b (N : Nat) (K34 : Nat → Int32 → St → Option (Int32 × St)) (K42 : Nat → Int32 → Int32 → St → Option (Int32 × St)) (x0 : Nat) (x2 : Int32) (x3 : Int32) (z : St) : Option (Int32 × St) := if (zgI z 19 19 x0) ≤ x3 then (K34 x0 x2 z) else (fX19_fromAbove_53 N K34 K42 N x0 x2 x3 (0 : Int32) z)
def fX19_fromAbove_42 (N : Nat) (K34 : Nat → Int32 → St → Option (Int32 × St)) : Nat → Nat → Int32 → Int32 → St → Option (Int32 × St)
  | 0 => fun _ _ _ _ => none
  | n + 1 => fX19_fromAbove_42b N K34 (fX19_fromAbove_42 N K34 n)
set_option maxHeartbeats 4000000 in
set_option maxRecDepth 100000 in
theorem bX19_fromAbove_42 (hst : zSt B ids) (F : zFx p m c cX19_fromAbove 5 s args RX19 D cy B ids A) (hA : ∀ q : Nat, s.heap.size ≤ q → A q) {r : Int32} {z' : St} (E : zEnd p l e rmX19_fromAbove s m args below meth c cX19_fromAbove D cy B ids A Q none z' .return_ True) {N : Nat} {K34 : Nat → Int32 → St → Option (Int32 × St)} {K42 : Nat → Int32 → Int32 → St → Option (Int32 × St)} (hK34 : ∀ (x0 : Nat) (x2 : Int32) (hx0 : (19, x0) ∈ ids) {z : St} {H : Heap} {locs : List Loc} {ls : Array Slot} (hr : zRep D cy B ids A s.heap z H locs) (hl : lv_has ls 5 [(0, .ref (B 19 x0)), (2, .int x2)]), K34 x0 x2 z = some (r, z') → W p l e rmX19_fromAbove s m args below meth c H locs 0 0 Q (F0 m 34 ls [])) (hK42 : ∀ (x0 : Nat) (x2 : Int32) (x3 : Int32) (hx0 : (19, x0) ∈ ids) {z : St} {H : Heap} {locs : List Loc} {ls : Array Slot} (hr : zRep D cy B ids A s.heap z H locs) (hl : lv_has ls 5 [(0, .ref (B 19 x0)), (2, .int x2), (3, .int x3)]), K42 x0 x2 x3 z = some (r, z') → W p l e rmX19_fromAbove s m args below meth c H locs 0 0 Q (F0 m 42 ls [])) (x0 : Nat) (x2 : Int32) (x3 : Int32) (hx0 : (19, x0) ∈ ids) {z : St} {H : Heap} {locs : List Loc} {ls : Array Slot} (hr : zRep D cy B ids A s.heap z H locs) (hl : lv_has ls 5 [(0, .ref (B 19 x0)), (2, .int x2), (3, .int x3)]) (h : fX19_fromAbove_42b N K34 K42 x0 x2 x3 z = some (r, z')) : W p l e rmX19_fromAbove s m args below meth c H locs 0 0 Q (F0 m 42 ls []) := by
  unfold fX19_fromAbove_42b at h
  refine lv_iload_n F.1 F.2.1 dX19_fromAbove_42 rfl (lv_at hl 2 rfl) ?_
  refine lv_aload_n F.1 F.2.1 dX19_fromAbove_43 rfl (lv_at hl 0 rfl) ?_
  refine gf19_831 F hx0 hr dX19_fromAbove_44 ?_
  refine lv_icmp_ge (tgt := 129) F.1 F.2.1 dX19_fromAbove_47 (by decide) (fun c1 => ?_) (fun c1 => ?_)
  · replace h := zi_t c1 h
    refine lv_goto (tgt := 34) F.1 F.2.1 dX19_fromAbove_129 (by decide) ?_
    exact hK34 x0 x2 hx0 hr (lv_sub hl [0, 1] rfl) h
  · replace h := zi_f c1 h
    refine lv_iconst (v := (0 : Int32)) F.1 F.2.1 dX19_fromAbove_50 (by decide) ?_
    refine lv_istore (lv' := [(4, .int (0 : Int32)), (0, .ref (B 19 x0)), (2, .int x2), (3, .int x3)]) F.1 F.2.1 dX19_fromAbove_51 hl (by decide) rfl (fun ls hl => ?_)
    exact lX19_fromAbove_53 hst F hA E hK34 hK42 _ x0 x2 x3 (0 : Int32) hx0 hr (lv_sub hl [1, 2, 3, 0] rfl) h
theorem lX19_fromAbove_42 (hst : zSt B ids) (F : zFx p m c cX19_fromAbove 5 s args RX19 D cy B ids A) (hA : ∀ q : Nat, s.heap.size ≤ q → A q) {r : Int32} {z' : St} (E : zEnd p l e rmX19_fromAbove s m args below meth c cX19_fromAbove D cy B ids A Q none z' .return_ True) {N : Nat} {K34 : Nat → Int32 → St → Option (Int32 × St)} (hK34 : ∀ (x0 : Nat) (x2 : Int32) (hx0 : (19, x0) ∈ ids) {z : St} {H : Heap} {locs : List Loc} {ls : Array Slot} (hr : zRep D cy B ids A s.heap z H locs) (hl : lv_has ls 5 [(0, .ref (B 19 x0)), (2, .int x2)]), K34 x0 x2 z = some (r, z') → W p l e rmX19_fromAbove s m args below meth c H locs 0 0 Q (F0 m 34 ls [])) : ∀ (n : Nat) (x0 : Nat) (x2 : Int32) (x3 : Int32) (hx0 : (19, x0) ∈ ids) {z : St} {H : Heap} {locs : List Loc} {ls : Array Slot} (hr : zRep D cy B ids A s.heap z H locs) (hl : lv_has ls 5 [(0, .ref (B 19 x0)), (2, .int x2), (3, .int x3)]), fX19_fromAbove_42 N K34 n x0 x2 x3 z = some (r, z') → W p l e rmX19_fromAbove s m args below meth c H locs 0 0 Q (F0 m 42 ls []) := by
  intro n
  induction n with
  | zero => intro x0 x2 x3 hx0 z H locs ls hr hl h; cases h
  | succ n ih => intro x0 x2 x3 hx0 z H locs ls hr hl h; exact bX19_fromAbove_42 hst F hA E hK34 ih x0 x2 x3 hx0 hr hl h
def fX19_fromAbove_34b (N : Nat) (K34 : Nat → Int32 → St → Option (Int32 × St)) (x0 : Nat) (x2 : Int32) (z : St) : Option (Int32 × St) := if x2 = 0 then (some (0, z)) else (fX19_fromAbove_42 N K34 N x0 (0 : Int32) (0 : Int32) z)
def fX19_fromAbove_34 (N : Nat)  : Nat → Nat → Int32 → St → Option (Int32 × St)
  | 0 => fun _ _ _ => none
  | n + 1 => fX19_fromAbove_34b N (fX19_fromAbove_34 N  n)
set_option maxHeartbeats 4000000 in
set_option maxRecDepth 100000 in
theorem bX19_fromAbove_34 (hst : zSt B ids) (F : zFx p m c cX19_fromAbove 5 s args RX19 D cy B ids A) (hA : ∀ q : Nat, s.heap.size ≤ q → A q) {r : Int32} {z' : St} (E : zEnd p l e rmX19_fromAbove s m args below meth c cX19_fromAbove D cy B ids A Q none z' .return_ True) {N : Nat} {K34 : Nat → Int32 → St → Option (Int32 × St)} (hK34 : ∀ (x0 : Nat) (x2 : Int32) (hx0 : (19, x0) ∈ ids) {z : St} {H : Heap} {locs : List Loc} {ls : Array Slot} (hr : zRep D cy B ids A s.heap z H locs) (hl : lv_has ls 5 [(0, .ref (B 19 x0)), (2, .int x2)]), K34 x0 x2 z = some (r, z') → W p l e rmX19_fromAbove s m args below meth c H locs 0 0 Q (F0 m 34 ls [])) (x0 : Nat) (x2 : Int32) (hx0 : (19, x0) ∈ ids) {z : St} {H : Heap} {locs : List Loc} {ls : Array Slot} (hr : zRep D cy B ids A s.heap z H locs) (hl : lv_has ls 5 [(0, .ref (B 19 x0)), (2, .int x2)]) (h : fX19_fromAbove_34b N K34 x0 x2 z = some (r, z')) : W p l e rmX19_fromAbove s m args below meth c H locs 0 0 Q (F0 m 34 ls []) := by
  unfold fX19_fromAbove_34b at h
  refine lv_iload_n F.1 F.2.1 dX19_fromAbove_34 rfl (lv_at hl 1 rfl) ?_
  refine lv_if_eq (tgt := 132) F.1 F.2.1 dX19_fromAbove_35 (by decide) (fun c1 => ?_) (fun c1 => ?_)
  · replace h := zi_t c1 h
    obtain ⟨rfl, rfl⟩ := zret h
    exact E _ _ _ _ dX19_fromAbove_132 trivial hr
  · replace h := zi_f c1 h
    refine lv_iconst (v := (0 : Int32)) F.1 F.2.1 dX19_fromAbove_38 (by decide) ?_
    refine lv_istore_n (lv' := [(2, .int (0 : Int32)), (0, .ref (B 19 x0))]) F.1 F.2.1 dX19_fromAbove_39 rfl hl (by decide) rfl (fun ls hl => ?_)
    refine lv_iconst (v := (0 : Int32)) F.1 F.2.1 dX19_fromAbove_40 (by decide) ?_
    refine lv_istore_n (lv' := [(3, .int (0 : Int32)), (2, .int (0 : Int32)), (0, .ref (B 19 x0))]) F.1 F.2.1 dX19_fromAbove_41 rfl hl (by decide) rfl (fun ls hl => ?_)
    exact lX19_fromAbove_42 hst F hA E hK34 _ x0 (0 : Int32) (0 : Int32) hx0 hr (lv_sub hl [2, 1, 0] rfl) h
theorem lX19_fromAbove_34 (hst : zSt B ids) (F : zFx p m c cX19_fromAbove 5 s args RX19 D cy B ids A) (hA : ∀ q : Nat, s.heap.size ≤ q → A q) {r : Int32} {z' : St} (E : zEnd p l e rmX19_fromAbove s m args below meth c cX19_fromAbove D cy B ids A Q none z' .return_ True) {N : Nat}  : ∀ (n : Nat) (x0 : Nat) (x2 : Int32) (hx0 : (19, x0) ∈ ids) {z : St} {H : Heap} {locs : List Loc} {ls : Array Slot} (hr : zRep D cy B ids A s.heap z H locs) (hl : lv_has ls 5 [(0, .ref (B 19 x0)), (2, .int x2)]), fX19_fromAbove_34 N  n x0 x2 z = some (r, z') → W p l e rmX19_fromAbove s m args below meth c H locs 0 0 Q (F0 m 34 ls []) := by
  intro n
  induction n with
  | zero => intro x0 x2 hx0 z H locs ls hr hl h; cases h
  | succ n ih => intro x0 x2 hx0 z H locs ls hr hl h; exact bX19_fromAbove_34 hst F hA E ih x0 x2 hx0 hr hl h
def fX19_fromAbove_2b (N : Nat) (K2 : Nat → Int32 → Int32 → St → Option (Int32 × St)) (x0 : Nat) (x1 : Int32) (x2 : Int32) (z : St) : Option (Int32 × St) := if (16 : Int32) ≤ x2 then (fX19_fromAbove_34 N N x0 (1 : Int32) z) else (if ¬ x2 = x1 then (fX19_fromAbove_25 N K2 x0 x1 x2 x0 x2 (1000000000 : Int32) z) else (fX19_fromAbove_25 N K2 x0 x1 x2 x0 x2 (0 : Int32) z))
def fX19_fromAbove_2 (N : Nat)  : Nat → Nat → Int32 → Int32 → St → Option (Int32 × St)
  | 0 => fun _ _ _ _ => none
  | n + 1 => fX19_fromAbove_2b N (fX19_fromAbove_2 N  n)
set_option maxHeartbeats 4000000 in
set_option maxRecDepth 100000 in
theorem bX19_fromAbove_2 (hst : zSt B ids) (F : zFx p m c cX19_fromAbove 5 s args RX19 D cy B ids A) (hA : ∀ q : Nat, s.heap.size ≤ q → A q) {r : Int32} {z' : St} (E : zEnd p l e rmX19_fromAbove s m args below meth c cX19_fromAbove D cy B ids A Q none z' .return_ True) {N : Nat} {K2 : Nat → Int32 → Int32 → St → Option (Int32 × St)} (hK2 : ∀ (x0 : Nat) (x1 : Int32) (x2 : Int32) (hx0 : (19, x0) ∈ ids) {z : St} {H : Heap} {locs : List Loc} {ls : Array Slot} (hr : zRep D cy B ids A s.heap z H locs) (hl : lv_has ls 5 [(0, .ref (B 19 x0)), (1, .int x1), (2, .int x2)]), K2 x0 x1 x2 z = some (r, z') → W p l e rmX19_fromAbove s m args below meth c H locs 0 0 Q (F0 m 2 ls [])) (x0 : Nat) (x1 : Int32) (x2 : Int32) (hx0 : (19, x0) ∈ ids) {z : St} {H : Heap} {locs : List Loc} {ls : Array Slot} (hr : zRep D cy B ids A s.heap z H locs) (hl : lv_has ls 5 [(0, .ref (B 19 x0)), (1, .int x1), (2, .int x2)]) (h : fX19_fromAbove_2b N K2 x0 x1 x2 z = some (r, z')) : W p l e rmX19_fromAbove s m args below meth c H locs 0 0 Q (F0 m 2 ls []) := by
  unfold fX19_fromAbove_2b at h
  refine lv_iload_n F.1 F.2.1 dX19_fromAbove_2 rfl (lv_at hl 2 rfl) ?_
  refine lv_bipush (v := (16 : Int32)) F.1 F.2.1 dX19_fromAbove_3 (by decide) ?_
  refine lv_icmp_ge (tgt := 32) F.1 F.2.1 dX19_fromAbove_5 (by decide) (fun c1 => ?_) (fun c1 => ?_)
  · replace h := zi_t c1 h
    refine lv_iconst (v := (1 : Int32)) F.1 F.2.1 dX19_fromAbove_32 (by decide) ?_
    refine lv_istore_n (lv' := [(2, .int (1 : Int32)), (0, .ref (B 19 x0)), (1, .int x1)]) F.1 F.2.1 dX19_fromAbove_33 rfl hl (by decide) rfl (fun ls hl => ?_)
    exact lX19_fromAbove_34 hst F hA E  _ x0 (1 : Int32) hx0 hr (lv_sub hl [1, 0] rfl) h
  · replace h := zi_f c1 h
    refine lv_aload_n F.1 F.2.1 dX19_fromAbove_8 rfl (lv_at hl 0 rfl) ?_
    refine gf19_133 F hx0 hr dX19_fromAbove_9 ?_
    refine lv_iload_n F.1 F.2.1 dX19_fromAbove_12 rfl (lv_at hl 2 rfl) ?_
    refine lv_iload_n F.1 F.2.1 dX19_fromAbove_13 rfl (lv_at hl 2 rfl) ?_
    refine lv_iload_n F.1 F.2.1 dX19_fromAbove_14 rfl (lv_at hl 1 rfl) ?_
    refine lv_icmp_ne (tgt := 22) F.1 F.2.1 dX19_fromAbove_15 (by decide) (fun c2 => ?_) (fun c2 => ?_)
    · replace h := zi_t c2 h
      refine lv_ldcw (v := (1000000000)) F.1 F.2.1 F.2.2.2.1 (F.2.2.2.2.1 _ zq_2903) dX19_fromAbove_22 ?_
      exact bX19_fromAbove_25 hst F hA E hK2 x0 x1 x2 x0 x2 (1000000000 : Int32) hx0 (zal_a F hx0 (j := 30) rfl) hr (lv_sub hl [0, 1, 2] rfl) h
    · replace h := zi_f (fun q => q c2) h
      refine lv_iconst (v := (0 : Int32)) F.1 F.2.1 dX19_fromAbove_18 (by decide) ?_
      refine lv_goto (tgt := 25) F.1 F.2.1 dX19_fromAbove_19 (by decide) ?_
      exact bX19_fromAbove_25 hst F hA E hK2 x0 x1 x2 x0 x2 (0 : Int32) hx0 (zal_a F hx0 (j := 30) rfl) hr (lv_sub hl [0, 1, 2] rfl) h
theorem lX19_fromAbove_2 (hst : zSt B ids) (F : zFx p m c cX19_fromAbove 5 s args RX19 D cy B ids A) (hA : ∀ q : Nat, s.heap.size ≤ q → A q) {r : Int32} {z' : St} (E : zEnd p l e rmX19_fromAbove s m args below meth c cX19_fromAbove D cy B ids A Q none z' .return_ True) {N : Nat}  : ∀ (n : Nat) (x0 : Nat) (x1 : Int32) (x2 : Int32) (hx0 : (19, x0) ∈ ids) {z : St} {H : Heap} {locs : List Loc} {ls : Array Slot} (hr : zRep D cy B ids A s.heap z H locs) (hl : lv_has ls 5 [(0, .ref (B 19 x0)), (1, .int x1), (2, .int x2)]), fX19_fromAbove_2 N  n x0 x1 x2 z = some (r, z') → W p l e rmX19_fromAbove s m args below meth c H locs 0 0 Q (F0 m 2 ls []) := by
  intro n
  induction n with
  | zero => intro x0 x1 x2 hx0 z H locs ls hr hl h; cases h
  | succ n ih => intro x0 x1 x2 hx0 z H locs ls hr hl h; exact bX19_fromAbove_2 hst F hA E ih x0 x1 x2 hx0 hr hl h
def fX19_fromAbove (N : Nat)  (x0 : Nat) (x1 : Int32) (z : St) : Option (Int32 × St) := fX19_fromAbove_2 N N x0 x1 (0 : Int32) z
set_option maxHeartbeats 4000000 in
set_option maxRecDepth 100000 in
theorem bX19_fromAbove_0 (hst : zSt B ids) (F : zFx p m c cX19_fromAbove 5 s args RX19 D cy B ids A) (hA : ∀ q : Nat, s.heap.size ≤ q → A q) {r : Int32} {z' : St} (E : zEnd p l e rmX19_fromAbove s m args below meth c cX19_fromAbove D cy B ids A Q none z' .return_ True) {N : Nat}  (x0 : Nat) (x1 : Int32) (hx0 : (19, x0) ∈ ids) {z : St} {H : Heap} {locs : List Loc} {ls : Array Slot} (hr : zRep D cy B ids A s.heap z H locs) (hl : lv_has ls 5 [(0, .ref (B 19 x0)), (1, .int x1)]) (h : fX19_fromAbove N x0 x1 z = some (r, z')) : W p l e rmX19_fromAbove s m args below meth c H locs 0 0 Q (F0 m 0 ls []) := by
  unfold fX19_fromAbove at h
  refine lv_iconst (v := (0 : Int32)) F.1 F.2.1 dX19_fromAbove_0 (by decide) ?_
  refine lv_istore_n (lv' := [(2, .int (0 : Int32)), (0, .ref (B 19 x0)), (1, .int x1)]) F.1 F.2.1 dX19_fromAbove_1 rfl hl (by decide) rfl (fun ls hl => ?_)
  exact lX19_fromAbove_2 hst F hA E  _ x0 x1 (0 : Int32) hx0 hr (lv_sub hl [1, 2, 0] rfl) h
end SX19_fromAbove
set_option maxRecDepth 100000 in
theorem okX19_fromAbove (l : Launch) (D : va_G) (cy : Nat → ClassId) (B : Nat → Nat → Nat) (ids : List (Nat × Nat)) (hst : zSt B ids) (N : Nat) (x0 : Nat) (hx0 : (19, x0) ∈ ids) (x1 : Int32) {z : St} {r : Int32} {z' : St} (hW : zWf ids z) (h : fX19_fromAbove N x0 x1 z = some (r, z')) : zM l yX19_fromAbove (zws yX19_fromAbove cX19_fromAbove 5 none) rmX19_fromAbove D cy B ids [.ref (B 19 x0), .int x1] none True z z' :=
  zM_of hst hW (by decide +kernel) (Nat.le_of_ble_eq_true rfl) (fun p e s m args below meth c A ls F hA hret hlocks hr hl => bX19_fromAbove_0 hst F hA (zEnd_v F hret hlocks) x0 x1 hx0 hr hl h)
