abbrev rmX11_sendThanks : Room := { frames := 5, cells := 0, slots := 0, locals := 164 }
theorem hdX11_sendThanks : yX11_sendThanks.cls ≠ "java/lang/invoke/MethodHandle" ∧ yX11_sendThanks.cls ≠ "java/lang/invoke/VarHandle" ∧ (parseMethodDescriptor yX11_sendThanks.desc).map (fun d => d.parameters.length) = some 1 := by decide +kernel
theorem hroX11_sendThanks_X11_addressToFriend : rmX11_addressToFriend.frames + 1 ≤ rmX11_sendThanks.frames ∧ 8 + (5 + 11) + rmX11_addressToFriend.locals ≤ rmX11_sendThanks.locals := by decide
theorem hroX11_sendThanks_X11_hand : rmX11_hand.frames + 1 ≤ rmX11_sendThanks.frames ∧ 8 + (5 + 11) + rmX11_hand.locals ≤ rmX11_sendThanks.locals := by decide
theorem hroX11_sendThanks_X7_begin : rmX7_begin.frames + 1 ≤ rmX11_sendThanks.frames ∧ 8 + (3 + 11) + rmX7_begin.locals ≤ rmX11_sendThanks.locals := by decide
theorem hroX11_sendThanks_X7_put2 : rmX7_put2.frames + 1 ≤ rmX11_sendThanks.frames ∧ 8 + (3 + 11) + rmX7_put2.locals ≤ rmX11_sendThanks.locals := by decide
theorem hroX11_sendThanks_X7_put4 : rmX7_put4.frames + 1 ≤ rmX11_sendThanks.frames ∧ 8 + (4 + 11) + rmX7_put4.locals ≤ rmX11_sendThanks.locals := by decide
section SX11_sendThanks
variable {p : Program} {l : Launch} {e : Env} {s : State} {m : MethodId} {args : Array Value} {below : List Frame} {meth : Method} {c : Code} {Q : State → Prop} {D : va_G} {cy : Nat → ClassId} {B : Nat → Nat → Nat} {ids : List (Nat × Nat)} {A : Nat → Prop}
def fX11_sendThanks_98 (N : Nat) (K7 : Nat → Nat → Option Nat → Int32 → St → Option (Int32 × St)) (x0 : Nat) (x1 : Nat) (x2 : Nat) (x3 : Int32) (z : St) : Option (Int32 × St) := zl (x3 + 1) fun v1 => K7 x0 x1 (some x2) v1 z
set_option maxHeartbeats 4000000 in
set_option maxRecDepth 100000 in
theorem bX11_sendThanks_98 (hst : zSt B ids) (F : zFx p m c cX11_sendThanks 5 s args RX11 D cy B ids A) (hA : ∀ q : Nat, s.heap.size ≤ q → A q) {r : Int32} {z' : St} (E : zEnd p l e rmX11_sendThanks s m args below meth c cX11_sendThanks D cy B ids A Q none z' .return_ True) {N : Nat} {K7 : Nat → Nat → Option Nat → Int32 → St → Option (Int32 × St)} (hK7 : ∀ (x0 : Nat) (x1 : Nat) (x2 : Option Nat) (x3 : Int32) (hx0 : (11, x0) ∈ ids) (hx1 : (1, x1) ∈ ids) (hx2 : ∀ t, x2 = some t → (9, t) ∈ ids) {z : St} {H : Heap} {locs : List Loc} {ls : Array Slot} (hr : zRep D cy B ids A s.heap z H locs) (hl : lv_has ls 5 [(0, .ref (B 11 x0)), (1, .ref (B 1 x1)), (2, va_rf (Option.map (B 9) x2)), (3, .int x3)]), K7 x0 x1 x2 x3 z = some (r, z') → W p l e rmX11_sendThanks s m args below meth c H locs 0 0 Q (F0 m 7 ls [])) (x0 : Nat) (x1 : Nat) (x2 : Nat) (x3 : Int32) (hx0 : (11, x0) ∈ ids) (hx1 : (1, x1) ∈ ids) (hx2 : (9, x2) ∈ ids) {z : St} {H : Heap} {locs : List Loc} {ls : Array Slot} (hr : zRep D cy B ids A s.heap z H locs) (hl : lv_has ls 5 [(0, .ref (B 11 x0)), (1, .ref (B 1 x1)), (2, .ref (B 9 x2)), (3, .int x3)]) (h : fX11_sendThanks_98 N K7 x0 x1 x2 x3 z = some (r, z')) : W p l e rmX11_sendThanks s m args below meth c H locs 0 0 Q (F0 m 98 ls []) := by
  unfold fX11_sendThanks_98 at h
  obtain ⟨v1, ev1⟩ : ∃ y : Int32, y = (x3 + 1) := ⟨_, rfl⟩
  replace h := zl_sub ev1 h
  refine lv_iinc (v := v1) (lv' := [(3, .int v1), (0, .ref (B 11 x0)), (1, .ref (B 1 x1)), (2, .ref (B 9 x2))]) F.1 F.2.1 dX11_sendThanks_98 hl (k := 3) rfl (by rw [ev1]; rfl) (by decide) rfl (fun ls hl => ?_)
  refine lv_goto (tgt := 7) F.1 F.2.1 dX11_sendThanks_101 (by decide) ?_
  exact hK7 x0 x1 (some x2) v1 hx0 hx1 (zal_s hx2) hr (lv_sub hl [1, 2, 3, 0] rfl) h
def fX11_sendThanks_7b (N : Nat) (K7 : Nat → Nat → Option Nat → Int32 → St → Option (Int32 × St)) (x0 : Nat) (x1 : Nat) (x2 : Option Nat) (x3 : Int32) (z : St) : Option (Int32 × St) := zd x2 fun a1 => if (zgI z 9 9 a1) ≤ x3 then (zl (zsI z 9 9 a1 (0 : Int32)) fun z3 => some (0, z3)) else (zl (zgR z 11 13 x0) fun y4 => zd y4 fun a5 => zc (fX7_begin N a5 (4 : Int32) (8 : Int32) z) fun _ z7 => zl (zgR z7 11 13 x0) fun y10 => zk x3 64 <| zd y10 fun a12 => zc (fX7_put2 N a12 (0 : Int32) (zgA z7 137 a1 (Int32.toNatClampNeg x3)) z7) fun _ z14 => zl (zgR z14 11 13 x0) fun y17 => zk x3 64 <| zd y17 fun a19 => zc (fX7_put4 N a19 (2 : Int32) (zgA z14 138 a1 (Int32.toNatClampNeg x3)) z14) fun _ z21 => zk x3 64 <| zc (fX11_addressToFriend N x0 x1 (zgA z21 136 a1 (Int32.toNatClampNeg x3)) z21) fun r25 z26 => zo r25 (fX11_sendThanks_98 N K7 x0 x1 a1 x3 z26) fun a30 => zk x3 64 <| zk ((zgA z26 136 a1 (Int32.toNatClampNeg x3)) / (16 : Int32)) 6 <| zl (zgQ z26 112 x1 (Int32.toNatClampNeg ((zgA z26 136 a1 (Int32.toNatClampNeg x3)) / (16 : Int32)))) fun y33 => zl (zgR z26 11 13 x0) fun y34 => zd y33 fun a35 => zd y34 fun a36 => zc (fX11_hand N x0 a35 (zgI z26 8 3 a30) a36 z26) fun _ z38 => fX11_sendThanks_98 N K7 x0 x1 a1 x3 z38)
def fX11_sendThanks_7 (N : Nat)  : Nat → Nat → Nat → Option Nat → Int32 → St → Option (Int32 × St)
  | 0 => fun _ _ _ _ _ => none
  | n + 1 => fX11_sendThanks_7b N (fX11_sendThanks_7 N  n)
set_option maxHeartbeats 4000000 in
set_option maxRecDepth 100000 in
theorem bX11_sendThanks_7 (hst : zSt B ids) (F : zFx p m c cX11_sendThanks 5 s args RX11 D cy B ids A) (hA : ∀ q : Nat, s.heap.size ≤ q → A q) {r : Int32} {z' : St} (E : zEnd p l e rmX11_sendThanks s m args below meth c cX11_sendThanks D cy B ids A Q none z' .return_ True) {N : Nat} {K7 : Nat → Nat → Option Nat → Int32 → St → Option (Int32 × St)} (hK7 : ∀ (x0 : Nat) (x1 : Nat) (x2 : Option Nat) (x3 : Int32) (hx0 : (11, x0) ∈ ids) (hx1 : (1, x1) ∈ ids) (hx2 : ∀ t, x2 = some t → (9, t) ∈ ids) {z : St} {H : Heap} {locs : List Loc} {ls : Array Slot} (hr : zRep D cy B ids A s.heap z H locs) (hl : lv_has ls 5 [(0, .ref (B 11 x0)), (1, .ref (B 1 x1)), (2, va_rf (Option.map (B 9) x2)), (3, .int x3)]), K7 x0 x1 x2 x3 z = some (r, z') → W p l e rmX11_sendThanks s m args below meth c H locs 0 0 Q (F0 m 7 ls [])) (x0 : Nat) (x1 : Nat) (x2 : Option Nat) (x3 : Int32) (hx0 : (11, x0) ∈ ids) (hx1 : (1, x1) ∈ ids) (hx2 : ∀ t, x2 = some t → (9, t) ∈ ids) {z : St} {H : Heap} {locs : List Loc} {ls : Array Slot} (hr : zRep D cy B ids A s.heap z H locs) (hl : lv_has ls 5 [(0, .ref (B 11 x0)), (1, .ref (B 1 x1)), (2, va_rf (Option.map (B 9) x2)), (3, .int x3)]) (h : fX11_sendThanks_7b N K7 x0 x1 x2 x3 z = some (r, z')) : W p l e rmX11_sendThanks s m args below meth c H locs 0 0 Q (F0 m 7 ls []) := by
  unfold fX11_sendThanks_7b at h
  refine lv_iload_n F.1 F.2.1 dX11_sendThanks_7 rfl (lv_at hl 3 rfl) ?_
  refine zr_aload_n F.1 F.2.1 dX11_sendThanks_8 rfl (lv_at hl 2 rfl) ?_
  replace h := zd_some h
  obtain ⟨a1, rfl, h⟩ := h
  refine gf11_747 F (hx2 _ rfl) hr dX11_sendThanks_9 ?_
  refine lv_icmp_ge (tgt := 104) F.1 F.2.1 dX11_sendThanks_12 (by decide) (fun c2 => ?_) (fun c2 => ?_)
  · replace h := zi_t c2 h
    refine lv_aload_n F.1 F.2.1 dX11_sendThanks_104 rfl (lv_at hl 2 rfl) ?_
    refine lv_iconst (v := (0 : Int32)) F.1 F.2.1 dX11_sendThanks_105 (by decide) ?_
    refine pf11_747 F (hx2 _ rfl) hr dX11_sendThanks_106 (0 : Int32) (fun H locs z3 ez3 hr => ?_)
    replace h := zl_sub ez3 h
    clear ez3
    obtain ⟨rfl, rfl⟩ := zret h
    exact E _ _ _ _ dX11_sendThanks_109 trivial hr
  · replace h := zi_f c2 h
    refine lv_aload_n F.1 F.2.1 dX11_sendThanks_15 rfl (lv_at hl 0 rfl) ?_
    refine gf11_31 F hx0 hr dX11_sendThanks_16 (fun y4 ey4 => ?_)
    replace h := zl_sub ey4 h
    have hy4 := zal_g hr hx0 (j := 13) rfl ey4
    clear ey4
    refine lv_iconst (v := (4 : Int32)) F.1 F.2.1 dX11_sendThanks_19 (by decide) ?_
    refine lv_bipush (v := (8 : Int32)) F.1 F.2.1 dX11_sendThanks_20 (by decide) ?_
    replace h := zd_some h
    obtain ⟨a5, rfl, h⟩ := h
    replace h := zc_some h
    obtain ⟨r6, z7, hc8, h⟩ := h
    refine zr_callv (zrun_VN (As := [.int (4 : Int32), .int (8 : Int32)]) (rest := []) zn_1086 zq_1088 zs_X7_begin zq_1089 zq_2 hdX7_begin (by decide) (T := TX7) (N := 20) rfl (okX7_begin l D cy B ids hst N a5 (hy4 _ rfl) (4 : Int32)  (8 : Int32)  hr.2.2 hc8) F hr (hy4 _ rfl) hl.1 rfl (by decide) dX11_sendThanks_22 rfl rfl hroX11_sendThanks_X7_begin ⟨Nat.zero_le _, Nat.zero_le _⟩) F hA hr (fun H locs hw9 hr => ?_)
    clear hc8
    refine lv_aload_n F.1 F.2.1 dX11_sendThanks_25 rfl (lv_at hl 0 rfl) ?_
    refine gf11_31 F hx0 hr dX11_sendThanks_26 (fun y10 ey10 => ?_)
    replace h := zl_sub ey10 h
    have hy10 := zal_g hr hx0 (j := 13) rfl ey10
    clear ey10
    refine lv_iconst (v := (0 : Int32)) F.1 F.2.1 dX11_sendThanks_29 (by decide) ?_
    refine lv_aload_n F.1 F.2.1 dX11_sendThanks_30 rfl (lv_at hl 2 rfl) ?_
    refine gf11_793 F (hx2 _ rfl) hr dX11_sendThanks_31 ?_
    refine lv_iload_n F.1 F.2.1 dX11_sendThanks_34 rfl (lv_at hl 3 rfl) ?_
    replace h := zk_some h
    obtain ⟨c11, h⟩ := h
    refine zr_iald (k := 137) (by decide) rfl (by decide) F (zal_a F (hx2 _ rfl) (j := 7) rfl) hr dX11_sendThanks_35 c11 ?_
    replace h := zd_some h
    obtain ⟨a12, rfl, h⟩ := h
    replace h := zc_some h
    obtain ⟨r13, z14, hc15, h⟩ := h
    refine zr_callv (zrun_VN (As := [.int (0 : Int32), .int (zgA z7 137 a1 (Int32.toNatClampNeg x3))]) (rest := []) zn_1308 zq_1306 zs_X7_put2 zq_1307 zq_2 hdX7_put2 (by decide) (T := TX7) (N := 20) rfl (okX7_put2 l D cy B ids hst N a12 (hy10 _ rfl) (0 : Int32)  (zgA z7 137 a1 (Int32.toNatClampNeg x3))  hr.2.2 hc15) F hr (hy10 _ rfl) hl.1 rfl (by decide) dX11_sendThanks_36 rfl rfl hroX11_sendThanks_X7_put2 ⟨Nat.zero_le _, Nat.zero_le _⟩) F hA hr (fun H locs hw16 hr => ?_)
    clear hc15
    refine lv_aload_n F.1 F.2.1 dX11_sendThanks_39 rfl (lv_at hl 0 rfl) ?_
    refine gf11_31 F hx0 hr dX11_sendThanks_40 (fun y17 ey17 => ?_)
    replace h := zl_sub ey17 h
    have hy17 := zal_g hr hx0 (j := 13) rfl ey17
    clear ey17
    refine lv_iconst (v := (2 : Int32)) F.1 F.2.1 dX11_sendThanks_43 (by decide) ?_
    refine lv_aload_n F.1 F.2.1 dX11_sendThanks_44 rfl (lv_at hl 2 rfl) ?_
    refine gf11_796 F (hx2 _ rfl) hr dX11_sendThanks_45 ?_
    refine lv_iload_n F.1 F.2.1 dX11_sendThanks_48 rfl (lv_at hl 3 rfl) ?_
    replace h := zk_some h
    obtain ⟨c18, h⟩ := h
    refine zr_iald (k := 138) (by decide) rfl (by decide) F (zal_a F (hx2 _ rfl) (j := 8) rfl) hr dX11_sendThanks_49 c18 ?_
    replace h := zd_some h
    obtain ⟨a19, rfl, h⟩ := h
    replace h := zc_some h
    obtain ⟨r20, z21, hc22, h⟩ := h
    refine zr_callv (zrun_VN (As := [.int (2 : Int32), .int (zgA z14 138 a1 (Int32.toNatClampNeg x3))]) (rest := []) zn_1426 zq_1302 zs_X7_put4 zq_1303 zq_2 hdX7_put4 (by decide) (T := TX7) (N := 20) rfl (okX7_put4 l D cy B ids hst N a19 (hy17 _ rfl) (2 : Int32)  (zgA z14 138 a1 (Int32.toNatClampNeg x3))  hr.2.2 hc22) F hr (hy17 _ rfl) hl.1 rfl (by decide) dX11_sendThanks_50 rfl rfl hroX11_sendThanks_X7_put4 ⟨Nat.zero_le _, Nat.zero_le _⟩) F hA hr (fun H locs hw23 hr => ?_)
    clear hc22
    refine lv_aload_n F.1 F.2.1 dX11_sendThanks_53 rfl (lv_at hl 0 rfl) ?_
    refine lv_aload_n F.1 F.2.1 dX11_sendThanks_54 rfl (lv_at hl 1 rfl) ?_
    refine lv_aload_n F.1 F.2.1 dX11_sendThanks_55 rfl (lv_at hl 2 rfl) ?_
    refine gf11_799 F (hx2 _ rfl) hr dX11_sendThanks_56 ?_
    refine lv_iload_n F.1 F.2.1 dX11_sendThanks_59 rfl (lv_at hl 3 rfl) ?_
    replace h := zk_some h
    obtain ⟨c24, h⟩ := h
    refine zr_iald (k := 136) (by decide) rfl (by decide) F (zal_a F (hx2 _ rfl) (j := 6) rfl) hr dX11_sendThanks_60 c24 ?_
    replace h := zc_some h
    obtain ⟨r25, z26, hc27, h⟩ := h
    refine zr_callr (zrun_V (As := [.ref (B 1 x1), .int (zgA z21 136 a1 (Int32.toNatClampNeg x3))]) (rest := []) zq_1533 zq_1535 zs_X11_addressToFriend zq_1536 zq_1 hdX11_addressToFriend (by decide) (T := TX11) (N := 21) rfl (okX11_addressToFriend l D cy B ids hst N x0 hx0 x1 hx1 (zgA z21 136 a1 (Int32.toNatClampNeg x3))  hr.2.2 hc27) F hr hx0 hl.1 rfl (by decide) dX11_sendThanks_61 rfl rfl hroX11_sendThanks_X11_addressToFriend ⟨Nat.zero_le _, Nat.zero_le _⟩) F hA hr (fun H locs hw28 hr => ?_)
    clear hc27
    refine zr_astore (lv' := [(4, va_rf (Option.map (B 8) r25)), (0, .ref (B 11 x0)), (1, .ref (B 1 x1)), (2, .ref (B 9 a1)), (3, .int x3)]) F.1 F.2.1 dX11_sendThanks_64 hl (by decide) rfl (fun ls hl => ?_)
    refine zr_aload F.1 F.2.1 dX11_sendThanks_66 (lv_at hl 0 rfl) ?_
    refine zr_ifnull (tgt := 98) F.1 F.2.1 dX11_sendThanks_68 (by decide) (fun e29 => ?_) (fun a30 e29 => ?_)
    · replace h := zo_n e29 h
      subst e29
      exact bX11_sendThanks_98 hst F hA E hK7 x0 x1 a1 x3 hx0 hx1 (hx2 _ rfl) hr (lv_sub hl [1, 2, 3, 4] rfl) h
    · replace h := zo_s e29 h
      subst e29
      refine lv_aload_n F.1 F.2.1 dX11_sendThanks_71 rfl (lv_at hl 1 rfl) ?_
      refine lv_aload_n F.1 F.2.1 dX11_sendThanks_72 rfl (lv_at hl 2 rfl) ?_
      refine gf11_134 F hx1 hr dX11_sendThanks_73 ?_
      refine lv_aload_n F.1 F.2.1 dX11_sendThanks_76 rfl (lv_at hl 3 rfl) ?_
      refine gf11_799 F (hx2 _ rfl) hr dX11_sendThanks_77 ?_
      refine lv_iload_n F.1 F.2.1 dX11_sendThanks_80 rfl (lv_at hl 4 rfl) ?_
      replace h := zk_some h
      obtain ⟨c31, h⟩ := h
      refine zr_iald (k := 136) (by decide) rfl (by decide) F (zal_a F (hx2 _ rfl) (j := 6) rfl) hr dX11_sendThanks_81 c31 ?_
      refine lv_bipush (v := (16 : Int32)) F.1 F.2.1 dX11_sendThanks_82 (by decide) ?_
      refine lv_idiv F.1 F.2.1 dX11_sendThanks_84 (by decide) ?_
      replace h := zk_some h
      obtain ⟨c32, h⟩ := h
      refine zr_aaldv (k := 112) (by decide) rfl rfl (zlen_d (by decide)) F (zal_a F hx1 (j := 2) rfl) hr dX11_sendThanks_85 c32 (fun y33 ey33 => ?_)
      replace h := zl_sub ey33 h
      have hy33 := zal_q hr (zal_a F hx1 (j := 2) rfl) rfl ey33
      clear ey33
      refine lv_aload F.1 F.2.1 dX11_sendThanks_86 (lv_at hl 0 rfl) ?_
      refine gf11_519 F (hw28 _ rfl) hr dX11_sendThanks_88 ?_
      refine lv_aload_n F.1 F.2.1 dX11_sendThanks_91 rfl (lv_at hl 1 rfl) ?_
      refine gf11_31 F hx0 hr dX11_sendThanks_92 (fun y34 ey34 => ?_)
      replace h := zl_sub ey34 h
      have hy34 := zal_g hr hx0 (j := 13) rfl ey34
      clear ey34
      replace h := zd_some h
      obtain ⟨a35, rfl, h⟩ := h
      replace h := zd_some h
      obtain ⟨a36, rfl, h⟩ := h
      replace h := zc_some h
      obtain ⟨r37, z38, hc39, h⟩ := h
      refine zr_callv (zrun_V (As := [.ref (B 8 a35), .int (zgI z26 8 3 a30), .ref (B 7 a36)]) (rest := []) zq_1431 zq_1433 zs_X11_hand zq_1434 zq_1 hdX11_hand (by decide) (T := TX11) (N := 21) rfl (okX11_hand l D cy B ids hst N x0 hx0 a35 (hy33 _ rfl) (zgI z26 8 3 a30)  a36 (hy34 _ rfl) hr.2.2 hc39) F hr hx0 hl.1 rfl (by decide) dX11_sendThanks_95 rfl rfl hroX11_sendThanks_X11_hand ⟨Nat.zero_le _, Nat.zero_le _⟩) F hA hr (fun H locs hw40 hr => ?_)
      clear hc39
      exact bX11_sendThanks_98 hst F hA E hK7 x0 x1 a1 x3 hx0 hx1 (hx2 _ rfl) hr (lv_sub hl [1, 2, 3, 4] rfl) h
theorem lX11_sendThanks_7 (hst : zSt B ids) (F : zFx p m c cX11_sendThanks 5 s args RX11 D cy B ids A) (hA : ∀ q : Nat, s.heap.size ≤ q → A q) {r : Int32} {z' : St} (E : zEnd p l e rmX11_sendThanks s m args below meth c cX11_sendThanks D cy B ids A Q none z' .return_ True) {N : Nat}  : ∀ (n : Nat) (x0 : Nat) (x1 : Nat) (x2 : Option Nat) (x3 : Int32) (hx0 : (11, x0) ∈ ids) (hx1 : (1, x1) ∈ ids) (hx2 : ∀ t, x2 = some t → (9, t) ∈ ids) {z : St} {H : Heap} {locs : List Loc} {ls : Array Slot} (hr : zRep D cy B ids A s.heap z H locs) (hl : lv_has ls 5 [(0, .ref (B 11 x0)), (1, .ref (B 1 x1)), (2, va_rf (Option.map (B 9) x2)), (3, .int x3)]), fX11_sendThanks_7 N  n x0 x1 x2 x3 z = some (r, z') → W p l e rmX11_sendThanks s m args below meth c H locs 0 0 Q (F0 m 7 ls []) := by
  intro n
  induction n with
  | zero => intro x0 x1 x2 x3 hx0 hx1 hx2 z H locs ls hr hl h; cases h
  | succ n ih => intro x0 x1 x2 x3 hx0 hx1 hx2 z H locs ls hr hl h; exact bX11_sendThanks_7 hst F hA E ih x0 x1 x2 x3 hx0 hx1 hx2 hr hl h
def fX11_sendThanks (N : Nat)  (x0 : Nat) (x1 : Nat) (z : St) : Option (Int32 × St) := zl (zgR z 1 10 x1) fun y1 => fX11_sendThanks_7 N N x0 x1 y1 (0 : Int32) z
set_option maxHeartbeats 4000000 in
set_option maxRecDepth 100000 in
theorem bX11_sendThanks_0 (hst : zSt B ids) (F : zFx p m c cX11_sendThanks 5 s args RX11 D cy B ids A) (hA : ∀ q : Nat, s.heap.size ≤ q → A q) {r : Int32} {z' : St} (E : zEnd p l e rmX11_sendThanks s m args below meth c cX11_sendThanks D cy B ids A Q none z' .return_ True) {N : Nat}  (x0 : Nat) (x1 : Nat) (hx0 : (11, x0) ∈ ids) (hx1 : (1, x1) ∈ ids) {z : St} {H : Heap} {locs : List Loc} {ls : Array Slot} (hr : zRep D cy B ids A s.heap z H locs) (hl : lv_has ls 5 [(0, .ref (B 11 x0)), (1, .ref (B 1 x1))]) (h : fX11_sendThanks N x0 x1 z = some (r, z')) : W p l e rmX11_sendThanks s m args below meth c H locs 0 0 Q (F0 m 0 ls []) := by
  unfold fX11_sendThanks at h
  refine lv_aload_n F.1 F.2.1 dX11_sendThanks_0 rfl (lv_at hl 1 rfl) ?_
  refine gf11_395 F hx1 hr dX11_sendThanks_1 (fun y1 ey1 => ?_)
  replace h := zl_sub ey1 h
  have hy1 := zal_g hr hx1 (j := 10) rfl ey1
  clear ey1
  refine zr_astore_n (lv' := [(2, va_rf (Option.map (B 9) y1)), (0, .ref (B 11 x0)), (1, .ref (B 1 x1))]) F.1 F.2.1 dX11_sendThanks_4 rfl hl (by decide) rfl (fun ls hl => ?_)
  refine lv_iconst (v := (0 : Int32)) F.1 F.2.1 dX11_sendThanks_5 (by decide) ?_
  refine lv_istore_n (lv' := [(3, .int (0 : Int32)), (2, va_rf (Option.map (B 9) y1)), (0, .ref (B 11 x0)), (1, .ref (B 1 x1))]) F.1 F.2.1 dX11_sendThanks_6 rfl hl (by decide) (by simp only [List.filter, zrf_cat]; rfl) (fun ls hl => ?_)
  exact lX11_sendThanks_7 hst F hA E  _ x0 x1 y1 (0 : Int32) hx0 hx1 hy1 hr (lv_sub hl [2, 3, 1, 0] rfl) h
end SX11_sendThanks
set_option maxRecDepth 100000 in
theorem okX11_sendThanks (l : Launch) (D : va_G) (cy : Nat → ClassId) (B : Nat → Nat → Nat) (ids : List (Nat × Nat)) (hst : zSt B ids) (N : Nat) (x0 : Nat) (hx0 : (11, x0) ∈ ids) (x1 : Nat) (hx1 : (1, x1) ∈ ids) {z : St} {r : Int32} {z' : St} (hW : zWf ids z) (h : fX11_sendThanks N x0 x1 z = some (r, z')) : zM l yX11_sendThanks (zws yX11_sendThanks cX11_sendThanks 5 none) rmX11_sendThanks D cy B ids [.ref (B 11 x0), .ref (B 1 x1)] none True z z' :=
  zM_of hst hW (by decide +kernel) (Nat.le_of_ble_eq_true rfl) (fun p e s m args below meth c A ls F hA hret hlocks hr hl => bX11_sendThanks_0 hst F hA (zEnd_v F hret hlocks) x0 x1 hx0 hx1 hr hl h)
abbrev rmX11_doRouter : Room := { frames := 6, cells := 0, slots := 0, locals := 191 }
theorem hdX11_doRouter : yX11_doRouter.cls ≠ "java/lang/invoke/MethodHandle" ∧ yX11_doRouter.cls ≠ "java/lang/invoke/VarHandle" ∧ (parseMethodDescriptor yX11_doRouter.desc).map (fun d => d.parameters.length) = some 1 := by decide +kernel
theorem hroX11_doRouter_X0_findWays : rmX0_findWays.frames + 1 ≤ rmX11_doRouter.frames ∧ 8 + (5 + 11) + rmX0_findWays.locals ≤ rmX11_doRouter.locals := by decide
theorem hroX11_doRouter_X0_takeOut : rmX0_takeOut.frames + 1 ≤ rmX11_doRouter.frames ∧ 8 + (2 + 11) + rmX0_takeOut.locals ≤ rmX11_doRouter.locals := by decide
theorem hroX11_doRouter_X11_forgetSilent : rmX11_forgetSilent.frames + 1 ≤ rmX11_doRouter.frames ∧ 8 + (6 + 11) + rmX11_forgetSilent.locals ≤ rmX11_doRouter.locals := by decide
theorem hroX11_doRouter_X11_makeOwnAdvert : rmX11_makeOwnAdvert.frames + 1 ≤ rmX11_doRouter.frames ∧ 8 + (6 + 11) + rmX11_makeOwnAdvert.locals ≤ rmX11_doRouter.locals := by decide
theorem hroX11_doRouter_X11_sendDue : rmX11_sendDue.frames + 1 ≤ rmX11_doRouter.frames ∧ 8 + (8 + 11) + rmX11_sendDue.locals ≤ rmX11_doRouter.locals := by decide
theorem hroX11_doRouter_X11_sendGreetings : rmX11_sendGreetings.frames + 1 ≤ rmX11_doRouter.frames ∧ 8 + (7 + 11) + rmX11_sendGreetings.locals ≤ rmX11_doRouter.locals := by decide
theorem hroX11_doRouter_X11_sendThanks : rmX11_sendThanks.frames + 1 ≤ rmX11_doRouter.frames ∧ 8 + (5 + 11) + rmX11_sendThanks.locals ≤ rmX11_doRouter.locals := by decide
theorem hroX11_doRouter_X9_clearDueOf : rmX9_clearDueOf.frames + 1 ≤ rmX11_doRouter.frames ∧ 8 + (3 + 11) + rmX9_clearDueOf.locals ≤ rmX11_doRouter.locals := by decide
section SX11_doRouter
variable {p : Program} {l : Launch} {e : Env} {s : State} {m : MethodId} {args : Array Value} {below : List Frame} {meth : Method} {c : Code} {Q : State → Prop} {D : va_G} {cy : Nat → ClassId} {B : Nat → Nat → Nat} {ids : List (Nat × Nat)} {A : Nat → Prop}
def fX11_doRouter_97 (N : Nat) (K47 : Nat → Nat → Nat → Option Nat → Int32 → St → Option (Int32 × St)) (x0 : Nat) (x1 : Nat) (x2 : Nat) (x3 : Nat) (x4 : Int32) (z : St) : Option (Int32 × St) := zl (x4 + 1) fun v1 => K47 x0 x1 x2 (some x3) v1 z
set_option maxHeartbeats 4000000 in
set_option maxRecDepth 100000 in
theorem bX11_doRouter_97 (hst : zSt B ids) (F : zFx p m c cX11_doRouter 5 s args RX11 D cy B ids A) (hA : ∀ q : Nat, s.heap.size ≤ q → A q) {r : Int32} {z' : St} (E : zEnd p l e rmX11_doRouter s m args below meth c cX11_doRouter D cy B ids A Q none z' .return_ True) {N : Nat} {K47 : Nat → Nat → Nat → Option Nat → Int32 → St → Option (Int32 × St)} (hK47 : ∀ (x0 : Nat) (x1 : Nat) (x2 : Nat) (x3 : Option Nat) (x4 : Int32) (hx0 : (11, x0) ∈ ids) (hx1 : (1, x1) ∈ ids) (hx2 : (9, x2) ∈ ids) (hx3 : ∀ t, x3 = some t → (0, t) ∈ ids) {z : St} {H : Heap} {locs : List Loc} {ls : Array Slot} (hr : zRep D cy B ids A s.heap z H locs) (hl : lv_has ls 5 [(0, .ref (B 11 x0)), (1, .ref (B 1 x1)), (2, .ref (B 9 x2)), (3, va_rf (Option.map (B 0) x3)), (4, .int x4)]), K47 x0 x1 x2 x3 x4 z = some (r, z') → W p l e rmX11_doRouter s m args below meth c H locs 0 0 Q (F0 m 47 ls [])) (x0 : Nat) (x1 : Nat) (x2 : Nat) (x3 : Nat) (x4 : Int32) (hx0 : (11, x0) ∈ ids) (hx1 : (1, x1) ∈ ids) (hx2 : (9, x2) ∈ ids) (hx3 : (0, x3) ∈ ids) {z : St} {H : Heap} {locs : List Loc} {ls : Array Slot} (hr : zRep D cy B ids A s.heap z H locs) (hl : lv_has ls 5 [(0, .ref (B 11 x0)), (1, .ref (B 1 x1)), (2, .ref (B 9 x2)), (3, .ref (B 0 x3)), (4, .int x4)]) (h : fX11_doRouter_97 N K47 x0 x1 x2 x3 x4 z = some (r, z')) : W p l e rmX11_doRouter s m args below meth c H locs 0 0 Q (F0 m 97 ls []) := by
  unfold fX11_doRouter_97 at h
  obtain ⟨v1, ev1⟩ : ∃ y : Int32, y = (x4 + 1) := ⟨_, rfl⟩
  replace h := zl_sub ev1 h
  refine lv_iinc (v := v1) (lv' := [(4, .int v1), (0, .ref (B 11 x0)), (1, .ref (B 1 x1)), (2, .ref (B 9 x2)), (3, .ref (B 0 x3))]) F.1 F.2.1 dX11_doRouter_97 hl (k := 4) rfl (by rw [ev1]; rfl) (by decide) rfl (fun ls hl => ?_)
  refine lv_goto (tgt := 47) F.1 F.2.1 dX11_doRouter_100 (by decide) ?_
  exact hK47 x0 x1 x2 (some x3) v1 hx0 hx1 hx2 (zal_s hx3) hr (lv_sub hl [1, 2, 3, 4, 0] rfl) h
def fX11_doRouter_147 (N : Nat)  (x0 : Nat) (x1 : Nat) (x3 : Option Nat) (z : St) : Option (Int32 × St) := zd x3 fun a1 => if (zgI z 0 9 a1) = 0 then (some (0, z)) else (zc (fX0_findWays N a1 x1 (zgI z 11 1 x0) z) fun _ z4 => some (0, z4))
set_option maxHeartbeats 4000000 in
set_option maxRecDepth 100000 in
theorem bX11_doRouter_147 (hst : zSt B ids) (F : zFx p m c cX11_doRouter 5 s args RX11 D cy B ids A) (hA : ∀ q : Nat, s.heap.size ≤ q → A q) {r : Int32} {z' : St} (E : zEnd p l e rmX11_doRouter s m args below meth c cX11_doRouter D cy B ids A Q none z' .return_ True) {N : Nat}  (x0 : Nat) (x1 : Nat) (x3 : Option Nat) (hx0 : (11, x0) ∈ ids) (hx1 : (1, x1) ∈ ids) (hx3 : ∀ t, x3 = some t → (0, t) ∈ ids) {z : St} {H : Heap} {locs : List Loc} {ls : Array Slot} (hr : zRep D cy B ids A s.heap z H locs) (hl : lv_has ls 5 [(0, .ref (B 11 x0)), (1, .ref (B 1 x1)), (3, va_rf (Option.map (B 0) x3))]) (h : fX11_doRouter_147 N x0 x1 x3 z = some (r, z')) : W p l e rmX11_doRouter s m args below meth c H locs 0 0 Q (F0 m 147 ls []) := by
  unfold fX11_doRouter_147 at h
  refine zr_aload_n F.1 F.2.1 dX11_doRouter_147 rfl (lv_at hl 2 rfl) ?_
  replace h := zd_some h
  obtain ⟨a1, rfl, h⟩ := h
  refine gf11_726 F (hx3 _ rfl) hr dX11_doRouter_148 ?_
  refine lv_if_eq (tgt := 163) F.1 F.2.1 dX11_doRouter_151 (by decide) (fun c2 => ?_) (fun c2 => ?_)
  · replace h := zi_t c2 h
    obtain ⟨rfl, rfl⟩ := zret h
    exact E _ _ _ _ dX11_doRouter_163 trivial hr
  · replace h := zi_f c2 h
    refine lv_aload_n F.1 F.2.1 dX11_doRouter_154 rfl (lv_at hl 2 rfl) ?_
    refine lv_aload_n F.1 F.2.1 dX11_doRouter_155 rfl (lv_at hl 1 rfl) ?_
    refine lv_aload_n F.1 F.2.1 dX11_doRouter_156 rfl (lv_at hl 0 rfl) ?_
    refine gf11_85 F hx0 hr dX11_doRouter_157 ?_
    replace h := zc_some h
    obtain ⟨r3, z4, hc5, h⟩ := h
    refine zr_callv (zrun_VN (As := [.ref (B 1 x1), .int (zgI z 11 1 x0)]) (rest := []) zn_1557 zq_1559 zs_X0_findWays zq_1560 zq_11 hdX0_findWays (by decide) (T := TX0) (N := 16) rfl (okX0_findWays l D cy B ids hst N a1 (hx3 _ rfl) x1 hx1 (zgI z 11 1 x0)  hr.2.2 hc5) F hr (hx3 _ rfl) hl.1 rfl (by decide) dX11_doRouter_160 rfl rfl hroX11_doRouter_X0_findWays ⟨Nat.zero_le _, Nat.zero_le _⟩) F hA hr (fun H locs hw6 hr => ?_)
    clear hc5
    obtain ⟨rfl, rfl⟩ := zret h
    exact E _ _ _ _ dX11_doRouter_163 trivial hr
def fX11_doRouter_135 (N : Nat)  (x0 : Nat) (x1 : Nat) (x2 : Nat) (x3 : Option Nat) (z : St) : Option (Int32 × St) := if (zgI z 9 5 x2) ≤ 0 then (fX11_doRouter_147 N x0 x1 x3 z) else (zc (fX11_sendDue N x0 x1 z) fun _ z3 => fX11_doRouter_147 N x0 x1 x3 z3)
set_option maxHeartbeats 4000000 in
set_option maxRecDepth 100000 in
theorem bX11_doRouter_135 (hst : zSt B ids) (F : zFx p m c cX11_doRouter 5 s args RX11 D cy B ids A) (hA : ∀ q : Nat, s.heap.size ≤ q → A q) {r : Int32} {z' : St} (E : zEnd p l e rmX11_doRouter s m args below meth c cX11_doRouter D cy B ids A Q none z' .return_ True) {N : Nat}  (x0 : Nat) (x1 : Nat) (x2 : Nat) (x3 : Option Nat) (hx0 : (11, x0) ∈ ids) (hx1 : (1, x1) ∈ ids) (hx2 : (9, x2) ∈ ids) (hx3 : ∀ t, x3 = some t → (0, t) ∈ ids) {z : St} {H : Heap} {locs : List Loc} {ls : Array Slot} (hr : zRep D cy B ids A s.heap z H locs) (hl : lv_has ls 5 [(0, .ref (B 11 x0)), (1, .ref (B 1 x1)), (2, .ref (B 9 x2)), (3, va_rf (Option.map (B 0) x3))]) (h : fX11_doRouter_135 N x0 x1 x2 x3 z = some (r, z')) : W p l e rmX11_doRouter s m args below meth c H locs 0 0 Q (F0 m 135 ls []) := by
  unfold fX11_doRouter_135 at h
  refine lv_aload_n F.1 F.2.1 dX11_doRouter_135 rfl (lv_at hl 2 rfl) ?_
  refine gf11_753 F hx2 hr dX11_doRouter_136 ?_
  refine lv_if_le (tgt := 147) F.1 F.2.1 dX11_doRouter_139 (by decide) (fun c1 => ?_) (fun c1 => ?_)
  · replace h := zi_t c1 h
    exact bX11_doRouter_147 hst F hA E  x0 x1 x3 hx0 hx1 hx3 hr (lv_sub hl [0, 1, 3] rfl) h
  · replace h := zi_f c1 h
    refine lv_aload_n F.1 F.2.1 dX11_doRouter_142 rfl (lv_at hl 0 rfl) ?_
    refine lv_aload_n F.1 F.2.1 dX11_doRouter_143 rfl (lv_at hl 1 rfl) ?_
    replace h := zc_some h
    obtain ⟨r2, z3, hc4, h⟩ := h
    refine zr_callv (zrun_V (As := [.ref (B 1 x1)]) (rest := []) zq_1537 zq_1539 zs_X11_sendDue zq_1540 zq_1 hdX11_sendDue (by decide) (T := TX11) (N := 21) rfl (okX11_sendDue l D cy B ids hst N x0 hx0 x1 hx1 hr.2.2 hc4) F hr hx0 hl.1 rfl (by decide) dX11_doRouter_144 rfl rfl hroX11_doRouter_X11_sendDue ⟨Nat.zero_le _, Nat.zero_le _⟩) F hA hr (fun H locs hw5 hr => ?_)
    clear hc4
    exact bX11_doRouter_147 hst F hA E  x0 x1 x3 hx0 hx1 hx3 hr (lv_sub hl [0, 1, 3] rfl) h
def fX11_doRouter_123 (N : Nat)  (x0 : Nat) (x1 : Nat) (x2 : Nat) (x3 : Option Nat) (z : St) : Option (Int32 × St) := if (zgI z 9 9 x2) ≤ 0 then (fX11_doRouter_135 N x0 x1 x2 x3 z) else (zc (fX11_sendThanks N x0 x1 z) fun _ z3 => fX11_doRouter_135 N x0 x1 x2 x3 z3)
set_option maxHeartbeats 4000000 in
set_option maxRecDepth 100000 in
theorem bX11_doRouter_123 (hst : zSt B ids) (F : zFx p m c cX11_doRouter 5 s args RX11 D cy B ids A) (hA : ∀ q : Nat, s.heap.size ≤ q → A q) {r : Int32} {z' : St} (E : zEnd p l e rmX11_doRouter s m args below meth c cX11_doRouter D cy B ids A Q none z' .return_ True) {N : Nat}  (x0 : Nat) (x1 : Nat) (x2 : Nat) (x3 : Option Nat) (hx0 : (11, x0) ∈ ids) (hx1 : (1, x1) ∈ ids) (hx2 : (9, x2) ∈ ids) (hx3 : ∀ t, x3 = some t → (0, t) ∈ ids) {z : St} {H : Heap} {locs : List Loc} {ls : Array Slot} (hr : zRep D cy B ids A s.heap z H locs) (hl : lv_has ls 5 [(0, .ref (B 11 x0)), (1, .ref (B 1 x1)), (2, .ref (B 9 x2)), (3, va_rf (Option.map (B 0) x3))]) (h : fX11_doRouter_123 N x0 x1 x2 x3 z = some (r, z')) : W p l e rmX11_doRouter s m args below meth c H locs 0 0 Q (F0 m 123 ls []) := by
  unfold fX11_doRouter_123 at h
  refine lv_aload_n F.1 F.2.1 dX11_doRouter_123 rfl (lv_at hl 2 rfl) ?_
  refine gf11_747 F hx2 hr dX11_doRouter_124 ?_
  refine lv_if_le (tgt := 135) F.1 F.2.1 dX11_doRouter_127 (by decide) (fun c1 => ?_) (fun c1 => ?_)
  · replace h := zi_t c1 h
    exact bX11_doRouter_135 hst F hA E  x0 x1 x2 x3 hx0 hx1 hx2 hx3 hr (lv_sub hl [0, 1, 2, 3] rfl) h
  · replace h := zi_f c1 h
    refine lv_aload_n F.1 F.2.1 dX11_doRouter_130 rfl (lv_at hl 0 rfl) ?_
    refine lv_aload_n F.1 F.2.1 dX11_doRouter_131 rfl (lv_at hl 1 rfl) ?_
    replace h := zc_some h
    obtain ⟨r2, z3, hc4, h⟩ := h
    refine zr_callv (zrun_V (As := [.ref (B 1 x1)]) (rest := []) zq_1529 zq_1531 zs_X11_sendThanks zq_1532 zq_1 hdX11_sendThanks (by decide) (T := TX11) (N := 21) rfl (okX11_sendThanks l D cy B ids hst N x0 hx0 x1 hx1 hr.2.2 hc4) F hr hx0 hl.1 rfl (by decide) dX11_doRouter_132 rfl rfl hroX11_doRouter_X11_sendThanks ⟨Nat.zero_le _, Nat.zero_le _⟩) F hA hr (fun H locs hw5 hr => ?_)
    clear hc4
    exact bX11_doRouter_135 hst F hA E  x0 x1 x2 x3 hx0 hx1 hx2 hx3 hr (lv_sub hl [0, 1, 2, 3] rfl) h
def fX11_doRouter_47b (N : Nat) (K47 : Nat → Nat → Nat → Option Nat → Int32 → St → Option (Int32 × St)) (x0 : Nat) (x1 : Nat) (x2 : Nat) (x3 : Option Nat) (x4 : Int32) (z : St) : Option (Int32 × St) := if (16 : Int32) ≤ x4 then (zc (fX11_makeOwnAdvert N x0 x1 z) fun _ z3 => if ¬ ((zgI z3 11 4 x0) - (zgI z3 11 4 x0) / (20 : Int32) * (20 : Int32)) = 0 then (fX11_doRouter_123 N x0 x1 x2 x3 z3) else (zc (fX11_sendGreetings N x0 x1 z3) fun _ z8 => fX11_doRouter_123 N x0 x1 x2 x3 z8)) else (zd x3 fun a11 => zk x4 16 <| if (zgA z 100 a11 (Int32.toNatClampNeg x4)) = 0 then (fX11_doRouter_97 N K47 x0 x1 x2 a11 x4 z) else (zk x4 16 <| if (5000 : Int32) ≤ ((zgI z 11 4 x0) - (zgA z 101 a11 (Int32.toNatClampNeg x4))) then (zc (fX0_takeOut N a11 x4 z) fun _ z17 => zc (fX9_clearDueOf N x2 x4 z17) fun _ z21 => fX11_doRouter_97 N K47 x0 x1 x2 a11 x4 z21) else (fX11_doRouter_97 N K47 x0 x1 x2 a11 x4 z)))
def fX11_doRouter_47 (N : Nat)  : Nat → Nat → Nat → Nat → Option Nat → Int32 → St → Option (Int32 × St)
  | 0 => fun _ _ _ _ _ _ => none
  | n + 1 => fX11_doRouter_47b N (fX11_doRouter_47 N  n)
set_option maxHeartbeats 4000000 in
set_option maxRecDepth 100000 in
theorem bX11_doRouter_47 (hst : zSt B ids) (F : zFx p m c cX11_doRouter 5 s args RX11 D cy B ids A) (hA : ∀ q : Nat, s.heap.size ≤ q → A q) {r : Int32} {z' : St} (E : zEnd p l e rmX11_doRouter s m args below meth c cX11_doRouter D cy B ids A Q none z' .return_ True) {N : Nat} {K47 : Nat → Nat → Nat → Option Nat → Int32 → St → Option (Int32 × St)} (hK47 : ∀ (x0 : Nat) (x1 : Nat) (x2 : Nat) (x3 : Option Nat) (x4 : Int32) (hx0 : (11, x0) ∈ ids) (hx1 : (1, x1) ∈ ids) (hx2 : (9, x2) ∈ ids) (hx3 : ∀ t, x3 = some t → (0, t) ∈ ids) {z : St} {H : Heap} {locs : List Loc} {ls : Array Slot} (hr : zRep D cy B ids A s.heap z H locs) (hl : lv_has ls 5 [(0, .ref (B 11 x0)), (1, .ref (B 1 x1)), (2, .ref (B 9 x2)), (3, va_rf (Option.map (B 0) x3)), (4, .int x4)]), K47 x0 x1 x2 x3 x4 z = some (r, z') → W p l e rmX11_doRouter s m args below meth c H locs 0 0 Q (F0 m 47 ls [])) (x0 : Nat) (x1 : Nat) (x2 : Nat) (x3 : Option Nat) (x4 : Int32) (hx0 : (11, x0) ∈ ids) (hx1 : (1, x1) ∈ ids) (hx2 : (9, x2) ∈ ids) (hx3 : ∀ t, x3 = some t → (0, t) ∈ ids) {z : St} {H : Heap} {locs : List Loc} {ls : Array Slot} (hr : zRep D cy B ids A s.heap z H locs) (hl : lv_has ls 5 [(0, .ref (B 11 x0)), (1, .ref (B 1 x1)), (2, .ref (B 9 x2)), (3, va_rf (Option.map (B 0) x3)), (4, .int x4)]) (h : fX11_doRouter_47b N K47 x0 x1 x2 x3 x4 z = some (r, z')) : W p l e rmX11_doRouter s m args below meth c H locs 0 0 Q (F0 m 47 ls []) := by
  unfold fX11_doRouter_47b at h
  refine lv_iload F.1 F.2.1 dX11_doRouter_47 (lv_at hl 4 rfl) ?_
  refine lv_bipush (v := (16 : Int32)) F.1 F.2.1 dX11_doRouter_49 (by decide) ?_
  refine lv_icmp_ge (tgt := 103) F.1 F.2.1 dX11_doRouter_51 (by decide) (fun c1 => ?_) (fun c1 => ?_)
  · replace h := zi_t c1 h
    refine lv_aload_n F.1 F.2.1 dX11_doRouter_103 rfl (lv_at hl 0 rfl) ?_
    refine lv_aload_n F.1 F.2.1 dX11_doRouter_104 rfl (lv_at hl 1 rfl) ?_
    replace h := zc_some h
    obtain ⟨r2, z3, hc4, h⟩ := h
    refine zr_callv (zrun_V (As := [.ref (B 1 x1)]) (rest := []) zq_1502 zq_1504 zs_X11_makeOwnAdvert zq_1505 zq_1 hdX11_makeOwnAdvert (by decide) (T := TX11) (N := 21) rfl (okX11_makeOwnAdvert l D cy B ids hst N x0 hx0 x1 hx1 hr.2.2 hc4) F hr hx0 hl.1 rfl (by decide) dX11_doRouter_105 rfl rfl hroX11_doRouter_X11_makeOwnAdvert ⟨Nat.zero_le _, Nat.zero_le _⟩) F hA hr (fun H locs hw5 hr => ?_)
    clear hc4
    refine lv_aload_n F.1 F.2.1 dX11_doRouter_108 rfl (lv_at hl 0 rfl) ?_
    refine gf11_176 F hx0 hr dX11_doRouter_109 ?_
    refine lv_bipush (v := (20 : Int32)) F.1 F.2.1 dX11_doRouter_112 (by decide) ?_
    refine lv_irem F.1 F.2.1 dX11_doRouter_114 (by decide) ?_
    refine lv_if_ne (tgt := 123) F.1 F.2.1 dX11_doRouter_115 (by decide) (fun c6 => ?_) (fun c6 => ?_)
    · replace h := zi_t c6 h
      exact bX11_doRouter_123 hst F hA E  x0 x1 x2 x3 hx0 hx1 hx2 hx3 hr (lv_sub hl [0, 1, 2, 3] rfl) h
    · replace h := zi_f (fun q => q c6) h
      refine lv_aload_n F.1 F.2.1 dX11_doRouter_118 rfl (lv_at hl 0 rfl) ?_
      refine lv_aload_n F.1 F.2.1 dX11_doRouter_119 rfl (lv_at hl 1 rfl) ?_
      replace h := zc_some h
      obtain ⟨r7, z8, hc9, h⟩ := h
      refine zr_callv (zrun_V (As := [.ref (B 1 x1)]) (rest := []) zq_1521 zq_1523 zs_X11_sendGreetings zq_1524 zq_1 hdX11_sendGreetings (by decide) (T := TX11) (N := 21) rfl (okX11_sendGreetings l D cy B ids hst N x0 hx0 x1 hx1 hr.2.2 hc9) F hr hx0 hl.1 rfl (by decide) dX11_doRouter_120 rfl rfl hroX11_doRouter_X11_sendGreetings ⟨Nat.zero_le _, Nat.zero_le _⟩) F hA hr (fun H locs hw10 hr => ?_)
      clear hc9
      exact bX11_doRouter_123 hst F hA E  x0 x1 x2 x3 hx0 hx1 hx2 hx3 hr (lv_sub hl [0, 1, 2, 3] rfl) h
  · replace h := zi_f c1 h
    refine zr_aload_n F.1 F.2.1 dX11_doRouter_54 rfl (lv_at hl 3 rfl) ?_
    replace h := zd_some h
    obtain ⟨a11, rfl, h⟩ := h
    refine gf11_426 F (hx3 _ rfl) hr dX11_doRouter_55 ?_
    refine lv_iload F.1 F.2.1 dX11_doRouter_58 (lv_at hl 4 rfl) ?_
    replace h := zk_some h
    obtain ⟨c12, h⟩ := h
    refine zr_iald (k := 100) (by decide) rfl (by decide) F (zal_a F (hx3 _ rfl) (j := 1) rfl) hr dX11_doRouter_60 c12 ?_
    refine lv_if_eq (tgt := 97) F.1 F.2.1 dX11_doRouter_61 (by decide) (fun c13 => ?_) (fun c13 => ?_)
    · replace h := zi_t c13 h
      exact bX11_doRouter_97 hst F hA E hK47 x0 x1 x2 a11 x4 hx0 hx1 hx2 (hx3 _ rfl) hr (lv_sub hl [0, 1, 2, 3, 4] rfl) h
    · replace h := zi_f c13 h
      refine lv_aload_n F.1 F.2.1 dX11_doRouter_64 rfl (lv_at hl 0 rfl) ?_
      refine gf11_176 F hx0 hr dX11_doRouter_65 ?_
      refine lv_aload_n F.1 F.2.1 dX11_doRouter_68 rfl (lv_at hl 3 rfl) ?_
      refine gf11_732 F (hx3 _ rfl) hr dX11_doRouter_69 ?_
      refine lv_iload F.1 F.2.1 dX11_doRouter_72 (lv_at hl 4 rfl) ?_
      replace h := zk_some h
      obtain ⟨c14, h⟩ := h
      refine zr_iald (k := 101) (by decide) rfl (by decide) F (zal_a F (hx3 _ rfl) (j := 2) rfl) hr dX11_doRouter_74 c14 ?_
      refine lv_isub F.1 F.2.1 dX11_doRouter_75 ?_
      refine lv_sipush (v := (5000 : Int32)) F.1 F.2.1 dX11_doRouter_76 (by decide) ?_
      refine lv_icmp_ge (tgt := 85) F.1 F.2.1 dX11_doRouter_79 (by decide) (fun c15 => ?_) (fun c15 => ?_)
      · replace h := zi_t c15 h
        refine lv_aload_n F.1 F.2.1 dX11_doRouter_85 rfl (lv_at hl 3 rfl) ?_
        refine lv_iload F.1 F.2.1 dX11_doRouter_86 (lv_at hl 4 rfl) ?_
        replace h := zc_some h
        obtain ⟨r16, z17, hc18, h⟩ := h
        refine zr_callv (zrun_VN (As := [.int x4]) (rest := []) zn_1494 zq_1496 zs_X0_takeOut zq_1497 zq_11 hdX0_takeOut (by decide) (T := TX0) (N := 16) rfl (okX0_takeOut l D cy B ids hst N a11 (hx3 _ rfl) x4  hr.2.2 hc18) F hr (hx3 _ rfl) hl.1 rfl (by decide) dX11_doRouter_88 rfl rfl hroX11_doRouter_X0_takeOut ⟨Nat.zero_le _, Nat.zero_le _⟩) F hA hr (fun H locs hw19 hr => ?_)
        clear hc18
        refine lv_aload_n F.1 F.2.1 dX11_doRouter_91 rfl (lv_at hl 2 rfl) ?_
        refine lv_iload F.1 F.2.1 dX11_doRouter_92 (lv_at hl 4 rfl) ?_
        replace h := zc_some h
        obtain ⟨r20, z21, hc22, h⟩ := h
        refine zr_callv (zrun_VN (As := [.int x4]) (rest := []) zn_1498 zq_1500 zs_X9_clearDueOf zq_1501 zq_10 hdX9_clearDueOf (by decide) (T := TX9) (N := 13) rfl (okX9_clearDueOf l D cy B ids hst N x2 hx2 x4  hr.2.2 hc22) F hr hx2 hl.1 rfl (by decide) dX11_doRouter_94 rfl rfl hroX11_doRouter_X9_clearDueOf ⟨Nat.zero_le _, Nat.zero_le _⟩) F hA hr (fun H locs hw23 hr => ?_)
        clear hc22
        exact bX11_doRouter_97 hst F hA E hK47 x0 x1 x2 a11 x4 hx0 hx1 hx2 (hx3 _ rfl) hr (lv_sub hl [0, 1, 2, 3, 4] rfl) h
      · replace h := zi_f c15 h
        refine lv_goto (tgt := 97) F.1 F.2.1 dX11_doRouter_82 (by decide) ?_
        exact bX11_doRouter_97 hst F hA E hK47 x0 x1 x2 a11 x4 hx0 hx1 hx2 (hx3 _ rfl) hr (lv_sub hl [0, 1, 2, 3, 4] rfl) h
theorem lX11_doRouter_47 (hst : zSt B ids) (F : zFx p m c cX11_doRouter 5 s args RX11 D cy B ids A) (hA : ∀ q : Nat, s.heap.size ≤ q → A q) {r : Int32} {z' : St} (E : zEnd p l e rmX11_doRouter s m args below meth c cX11_doRouter D cy B ids A Q none z' .return_ True) {N : Nat}  : ∀ (n : Nat) (x0 : Nat) (x1 : Nat) (x2 : Nat) (x3 : Option Nat) (x4 : Int32) (hx0 : (11, x0) ∈ ids) (hx1 : (1, x1) ∈ ids) (hx2 : (9, x2) ∈ ids) (hx3 : ∀ t, x3 = some t → (0, t) ∈ ids) {z : St} {H : Heap} {locs : List Loc} {ls : Array Slot} (hr : zRep D cy B ids A s.heap z H locs) (hl : lv_has ls 5 [(0, .ref (B 11 x0)), (1, .ref (B 1 x1)), (2, .ref (B 9 x2)), (3, va_rf (Option.map (B 0) x3)), (4, .int x4)]), fX11_doRouter_47 N  n x0 x1 x2 x3 x4 z = some (r, z') → W p l e rmX11_doRouter s m args below meth c H locs 0 0 Q (F0 m 47 ls []) := by
  intro n
  induction n with
  | zero => intro x0 x1 x2 x3 x4 hx0 hx1 hx2 hx3 z H locs ls hr hl h; cases h
  | succ n ih => intro x0 x1 x2 x3 x4 hx0 hx1 hx2 hx3 z H locs ls hr hl h; exact bX11_doRouter_47 hst F hA E ih x0 x1 x2 x3 x4 hx0 hx1 hx2 hx3 hr hl h
def fX11_doRouter_39 (N : Nat)  (x0 : Nat) (x1 : Nat) (x2 : Nat) (x3 : Option Nat) (z : St) : Option (Int32 × St) := zc (fX11_forgetSilent N x0 x1 z) fun _ z2 => fX11_doRouter_47 N N x0 x1 x2 x3 (0 : Int32) z2
set_option maxHeartbeats 4000000 in
set_option maxRecDepth 100000 in
theorem bX11_doRouter_39 (hst : zSt B ids) (F : zFx p m c cX11_doRouter 5 s args RX11 D cy B ids A) (hA : ∀ q : Nat, s.heap.size ≤ q → A q) {r : Int32} {z' : St} (E : zEnd p l e rmX11_doRouter s m args below meth c cX11_doRouter D cy B ids A Q none z' .return_ True) {N : Nat}  (x0 : Nat) (x1 : Nat) (x2 : Nat) (x3 : Option Nat) (hx0 : (11, x0) ∈ ids) (hx1 : (1, x1) ∈ ids) (hx2 : (9, x2) ∈ ids) (hx3 : ∀ t, x3 = some t → (0, t) ∈ ids) {z : St} {H : Heap} {locs : List Loc} {ls : Array Slot} (hr : zRep D cy B ids A s.heap z H locs) (hl : lv_has ls 5 [(0, .ref (B 11 x0)), (1, .ref (B 1 x1)), (2, .ref (B 9 x2)), (3, va_rf (Option.map (B 0) x3))]) (h : fX11_doRouter_39 N x0 x1 x2 x3 z = some (r, z')) : W p l e rmX11_doRouter s m args below meth c H locs 0 0 Q (F0 m 39 ls []) := by
  unfold fX11_doRouter_39 at h
  refine lv_aload_n F.1 F.2.1 dX11_doRouter_39 rfl (lv_at hl 0 rfl) ?_
  refine lv_aload_n F.1 F.2.1 dX11_doRouter_40 rfl (lv_at hl 1 rfl) ?_
  replace h := zc_some h
  obtain ⟨r1, z2, hc3, h⟩ := h
  refine zr_callv (zrun_V (As := [.ref (B 1 x1)]) (rest := []) zq_1485 zq_1487 zs_X11_forgetSilent zq_1488 zq_1 hdX11_forgetSilent (by decide) (T := TX11) (N := 21) rfl (okX11_forgetSilent l D cy B ids hst N x0 hx0 x1 hx1 hr.2.2 hc3) F hr hx0 hl.1 rfl (by decide) dX11_doRouter_41 rfl rfl hroX11_doRouter_X11_forgetSilent ⟨Nat.zero_le _, Nat.zero_le _⟩) F hA hr (fun H locs hw4 hr => ?_)
  clear hc3
  refine lv_iconst (v := (0 : Int32)) F.1 F.2.1 dX11_doRouter_44 (by decide) ?_
  refine lv_istore (lv' := [(4, .int (0 : Int32)), (0, .ref (B 11 x0)), (1, .ref (B 1 x1)), (2, .ref (B 9 x2)), (3, va_rf (Option.map (B 0) x3))]) F.1 F.2.1 dX11_doRouter_45 hl (by decide) (by simp only [List.filter, zrf_cat]; rfl) (fun ls hl => ?_)
  exact lX11_doRouter_47 hst F hA E  _ x0 x1 x2 x3 (0 : Int32) hx0 hx1 hx2 hx3 hr (lv_sub hl [1, 2, 3, 4, 0] rfl) h
def fX11_doRouter (N : Nat)  (x0 : Nat) (x1 : Nat) (z : St) : Option (Int32 × St) := zl (zgR z 1 10 x1) fun y1 => zd y1 fun a2 => zl (zgR z 9 12 a2) fun y3 => if (zgI z 9 11 a2) = (zgI z 11 6 x0) then (fX11_doRouter_39 N x0 x1 a2 y3 z) else (zl (zsI z 9 11 a2 (zgI z 11 6 x0)) fun z5 => zl (zsI z5 9 10 a2 (1 : Int32)) fun z6 => zd y3 fun a7 => zl (zsI z6 0 9 a7 (1 : Int32)) fun z8 => fX11_doRouter_39 N x0 x1 a2 (some a7) z8)
set_option maxHeartbeats 4000000 in
set_option maxRecDepth 100000 in
theorem bX11_doRouter_0 (hst : zSt B ids) (F : zFx p m c cX11_doRouter 5 s args RX11 D cy B ids A) (hA : ∀ q : Nat, s.heap.size ≤ q → A q) {r : Int32} {z' : St} (E : zEnd p l e rmX11_doRouter s m args below meth c cX11_doRouter D cy B ids A Q none z' .return_ True) {N : Nat}  (x0 : Nat) (x1 : Nat) (hx0 : (11, x0) ∈ ids) (hx1 : (1, x1) ∈ ids) {z : St} {H : Heap} {locs : List Loc} {ls : Array Slot} (hr : zRep D cy B ids A s.heap z H locs) (hl : lv_has ls 5 [(0, .ref (B 11 x0)), (1, .ref (B 1 x1))]) (h : fX11_doRouter N x0 x1 z = some (r, z')) : W p l e rmX11_doRouter s m args below meth c H locs 0 0 Q (F0 m 0 ls []) := by
  unfold fX11_doRouter at h
  refine lv_aload_n F.1 F.2.1 dX11_doRouter_0 rfl (lv_at hl 1 rfl) ?_
  refine gf11_395 F hx1 hr dX11_doRouter_1 (fun y1 ey1 => ?_)
  replace h := zl_sub ey1 h
  have hy1 := zal_g hr hx1 (j := 10) rfl ey1
  clear ey1
  refine zr_astore_n (lv' := [(2, va_rf (Option.map (B 9) y1)), (0, .ref (B 11 x0)), (1, .ref (B 1 x1))]) F.1 F.2.1 dX11_doRouter_4 rfl hl (by decide) rfl (fun ls hl => ?_)
  refine zr_aload_n F.1 F.2.1 dX11_doRouter_5 rfl (lv_at hl 0 rfl) ?_
  replace h := zd_some h
  obtain ⟨a2, rfl, h⟩ := h
  refine gf11_399 F (hy1 _ rfl) hr dX11_doRouter_6 (fun y3 ey3 => ?_)
  replace h := zl_sub ey3 h
  have hy3 := zal_g hr (hy1 _ rfl) (j := 12) rfl ey3
  clear ey3
  refine zr_astore_n (lv' := [(3, va_rf (Option.map (B 0) y3)), (2, .ref (B 9 a2)), (0, .ref (B 11 x0)), (1, .ref (B 1 x1))]) F.1 F.2.1 dX11_doRouter_9 rfl hl (by decide) rfl (fun ls hl => ?_)
  refine lv_aload_n F.1 F.2.1 dX11_doRouter_10 rfl (lv_at hl 1 rfl) ?_
  refine gf11_720 F (hy1 _ rfl) hr dX11_doRouter_11 ?_
  refine lv_aload_n F.1 F.2.1 dX11_doRouter_14 rfl (lv_at hl 2 rfl) ?_
  refine gf11_498 F hx0 hr dX11_doRouter_15 ?_
  refine lv_icmp_eq (tgt := 39) F.1 F.2.1 dX11_doRouter_18 (by decide) (fun c4 => ?_) (fun c4 => ?_)
  · replace h := zi_t c4 h
    exact bX11_doRouter_39 hst F hA E  x0 x1 a2 y3 hx0 hx1 (hy1 _ rfl) hy3 hr (lv_sub hl [2, 3, 1, 0] rfl) h
  · replace h := zi_f c4 h
    refine lv_aload_n F.1 F.2.1 dX11_doRouter_21 rfl (lv_at hl 1 rfl) ?_
    refine lv_aload_n F.1 F.2.1 dX11_doRouter_22 rfl (lv_at hl 2 rfl) ?_
    refine gf11_498 F hx0 hr dX11_doRouter_23 ?_
    refine pf11_720 F (hy1 _ rfl) hr dX11_doRouter_26 (zgI z 11 6 x0) (fun H locs z5 ez5 hr => ?_)
    replace h := zl_sub ez5 h
    clear ez5
    refine lv_aload_n F.1 F.2.1 dX11_doRouter_29 rfl (lv_at hl 1 rfl) ?_
    refine lv_iconst (v := (1 : Int32)) F.1 F.2.1 dX11_doRouter_30 (by decide) ?_
    refine pf11_723 F (hy1 _ rfl) hr dX11_doRouter_31 (1 : Int32) (by decide) (fun H locs z6 ez6 hr => ?_)
    replace h := zl_sub ez6 h
    clear ez6
    refine zr_aload_n F.1 F.2.1 dX11_doRouter_34 rfl (lv_at hl 0 rfl) ?_
    refine lv_iconst (v := (1 : Int32)) F.1 F.2.1 dX11_doRouter_35 (by decide) ?_
    replace h := zd_some h
    obtain ⟨a7, rfl, h⟩ := h
    refine pf11_726 F (hy3 _ rfl) hr dX11_doRouter_36 (1 : Int32) (by decide) (fun H locs z8 ez8 hr => ?_)
    replace h := zl_sub ez8 h
    clear ez8
    exact bX11_doRouter_39 hst F hA E  x0 x1 a2 (some a7) hx0 hx1 (hy1 _ rfl) (zal_s (hy3 _ rfl)) hr (lv_sub hl [2, 3, 1, 0] rfl) h
end SX11_doRouter
set_option maxRecDepth 100000 in
theorem okX11_doRouter (l : Launch) (D : va_G) (cy : Nat → ClassId) (B : Nat → Nat → Nat) (ids : List (Nat × Nat)) (hst : zSt B ids) (N : Nat) (x0 : Nat) (hx0 : (11, x0) ∈ ids) (x1 : Nat) (hx1 : (1, x1) ∈ ids) {z : St} {r : Int32} {z' : St} (hW : zWf ids z) (h : fX11_doRouter N x0 x1 z = some (r, z')) : zM l yX11_doRouter (zws yX11_doRouter cX11_doRouter 5 none) rmX11_doRouter D cy B ids [.ref (B 11 x0), .ref (B 1 x1)] none True z z' :=
  zM_of hst hW (by decide +kernel) (Nat.le_of_ble_eq_true rfl) (fun p e s m args below meth c A ls F hA hret hlocks hr hl => bX11_doRouter_0 hst F hA (zEnd_v F hret hlocks) x0 x1 hx0 hx1 hr hl h)
abbrev rmX11_addressSegment : Room := { frames := 1, cells := 0, slots := 0, locals := 22 }
theorem hdX11_addressSegment : yX11_addressSegment.cls ≠ "java/lang/invoke/MethodHandle" ∧ yX11_addressSegment.cls ≠ "java/lang/invoke/VarHandle" ∧ (parseMethodDescriptor yX11_addressSegment.desc).map (fun d => d.parameters.length) = some 2 := by decide +kernel
theorem hroX11_addressSegment_X1_nextNumber : rmX1_nextNumber.frames + 1 ≤ rmX11_addressSegment.frames ∧ 8 + (1 + 11) + rmX1_nextNumber.locals ≤ rmX11_addressSegment.locals := by decide
theorem hroX11_addressSegment_X7_put2 : rmX7_put2.frames + 1 ≤ rmX11_addressSegment.frames ∧ 8 + (3 + 11) + rmX7_put2.locals ≤ rmX11_addressSegment.locals := by decide
section SX11_addressSegment
variable {p : Program} {l : Launch} {e : Env} {s : State} {m : MethodId} {args : Array Value} {below : List Frame} {meth : Method} {c : Code} {Q : State → Prop} {D : va_G} {cy : Nat → ClassId} {B : Nat → Nat → Nat} {ids : List (Nat × Nat)} {A : Nat → Prop}
def fX11_addressSegment_23 (N : Nat)  (x0 : Nat) (x1 : Nat) (x2 : Nat) (s0 : Option Nat) (s1 : Int32) (z : St) : Option (Int32 × St) := zd s0 fun a1 => zl (zsI z 7 0 a1 s1) fun z2 => zl (zgR z2 11 13 x0) fun y3 => zd y3 fun a4 => zl (zsI z2 7 1 a4 (zgI z2 2 2 x2)) fun z5 => zl (zgR z5 11 13 x0) fun y6 => zd y6 fun a7 => zc (fX7_put2 N a7 (0 : Int32) (zgI z5 2 1 x2) z5) fun _ z9 => zl (zgR z9 11 13 x0) fun y12 => zd y12 fun a13 => zc (fX7_put2 N a13 (2 : Int32) (zgI z9 2 3 x2) z9) fun _ z15 => zl (zgR z15 11 13 x0) fun y18 => zc (fX1_nextNumber N x1 z15) fun r19 z20 => zd y18 fun a23 => zl (zsI z20 7 3 a23 r19) fun z24 => zl (zgR z24 11 13 x0) fun y25 => zl (zgR z24 2 12 x2) fun y26 => zd y26 fun a27 => zd y25 fun a28 => zl (zsI z24 7 9 a28 (zgI z24 3 14 a27)) fun z29 => some (0, z29)
set_option maxHeartbeats 4000000 in
set_option maxRecDepth 100000 in
theorem bX11_addressSegment_23 (hst : zSt B ids) (F : zFx p m c cX11_addressSegment 4 s args RX11 D cy B ids A) (hA : ∀ q : Nat, s.heap.size ≤ q → A q) {r : Int32} {z' : St} (E : zEnd p l e rmX11_addressSegment s m args below meth c cX11_addressSegment D cy B ids A Q none z' .return_ True) {N : Nat}  (x0 : Nat) (x1 : Nat) (x2 : Nat) (s0 : Option Nat) (s1 : Int32) (hx0 : (11, x0) ∈ ids) (hx1 : (1, x1) ∈ ids) (hx2 : (2, x2) ∈ ids) (hs0 : ∀ t, s0 = some t → (7, t) ∈ ids) {z : St} {H : Heap} {locs : List Loc} {ls : Array Slot} (hr : zRep D cy B ids A s.heap z H locs) (hl : lv_has ls 4 [(0, .ref (B 11 x0)), (1, .ref (B 1 x1)), (2, .ref (B 2 x2))]) (h : fX11_addressSegment_23 N x0 x1 x2 s0 s1 z = some (r, z')) : W p l e rmX11_addressSegment s m args below meth c H locs 0 0 Q (F0 m 23 ls [.int s1, va_rf (Option.map (B 7) s0)]) := by
  unfold fX11_addressSegment_23 at h
  replace h := zd_some h
  obtain ⟨a1, rfl, h⟩ := h
  refine pf11_535 F (hs0 _ rfl) hr dX11_addressSegment_23 s1 (fun H locs z2 ez2 hr => ?_)
  replace h := zl_sub ez2 h
  clear ez2
  refine lv_aload_n F.1 F.2.1 dX11_addressSegment_26 rfl (lv_at hl 0 rfl) ?_
  refine gf11_31 F hx0 hr dX11_addressSegment_27 (fun y3 ey3 => ?_)
  replace h := zl_sub ey3 h
  have hy3 := zal_g hr hx0 (j := 13) rfl ey3
  clear ey3
  refine lv_aload_n F.1 F.2.1 dX11_addressSegment_30 rfl (lv_at hl 2 rfl) ?_
  refine gf11_384 F hx2 hr dX11_addressSegment_31 ?_
  replace h := zd_some h
  obtain ⟨a4, rfl, h⟩ := h
  refine pf11_538 F (hy3 _ rfl) hr dX11_addressSegment_34 (zgI z2 2 2 x2) (fun H locs z5 ez5 hr => ?_)
  replace h := zl_sub ez5 h
  clear ez5
  refine lv_aload_n F.1 F.2.1 dX11_addressSegment_37 rfl (lv_at hl 0 rfl) ?_
  refine gf11_31 F hx0 hr dX11_addressSegment_38 (fun y6 ey6 => ?_)
  replace h := zl_sub ey6 h
  have hy6 := zal_g hr hx0 (j := 13) rfl ey6
  clear ey6
  refine lv_iconst (v := (0 : Int32)) F.1 F.2.1 dX11_addressSegment_41 (by decide) ?_
  refine lv_aload_n F.1 F.2.1 dX11_addressSegment_42 rfl (lv_at hl 2 rfl) ?_
  refine gf11_378 F hx2 hr dX11_addressSegment_43 ?_
  replace h := zd_some h
  obtain ⟨a7, rfl, h⟩ := h
  replace h := zc_some h
  obtain ⟨r8, z9, hc10, h⟩ := h
  refine zr_callv (zrun_VN (As := [.int (0 : Int32), .int (zgI z5 2 1 x2)]) (rest := []) zn_1308 zq_1306 zs_X7_put2 zq_1307 zq_2 hdX7_put2 (by decide) (T := TX7) (N := 20) rfl (okX7_put2 l D cy B ids hst N a7 (hy6 _ rfl) (0 : Int32)  (zgI z5 2 1 x2)  hr.2.2 hc10) F hr (hy6 _ rfl) hl.1 rfl (by decide) dX11_addressSegment_46 rfl rfl hroX11_addressSegment_X7_put2 ⟨Nat.zero_le _, Nat.zero_le _⟩) F hA hr (fun H locs hw11 hr => ?_)
  clear hc10
  refine lv_aload_n F.1 F.2.1 dX11_addressSegment_49 rfl (lv_at hl 0 rfl) ?_
  refine gf11_31 F hx0 hr dX11_addressSegment_50 (fun y12 ey12 => ?_)
  replace h := zl_sub ey12 h
  have hy12 := zal_g hr hx0 (j := 13) rfl ey12
  clear ey12
  refine lv_iconst (v := (2 : Int32)) F.1 F.2.1 dX11_addressSegment_53 (by decide) ?_
  refine lv_aload_n F.1 F.2.1 dX11_addressSegment_54 rfl (lv_at hl 2 rfl) ?_
  refine gf11_381 F hx2 hr dX11_addressSegment_55 ?_
  replace h := zd_some h
  obtain ⟨a13, rfl, h⟩ := h
  replace h := zc_some h
  obtain ⟨r14, z15, hc16, h⟩ := h
  refine zr_callv (zrun_VN (As := [.int (2 : Int32), .int (zgI z9 2 3 x2)]) (rest := []) zn_1308 zq_1306 zs_X7_put2 zq_1307 zq_2 hdX7_put2 (by decide) (T := TX7) (N := 20) rfl (okX7_put2 l D cy B ids hst N a13 (hy12 _ rfl) (2 : Int32)  (zgI z9 2 3 x2)  hr.2.2 hc16) F hr (hy12 _ rfl) hl.1 rfl (by decide) dX11_addressSegment_58 rfl rfl hroX11_addressSegment_X7_put2 ⟨Nat.zero_le _, Nat.zero_le _⟩) F hA hr (fun H locs hw17 hr => ?_)
  clear hc16
  refine lv_aload_n F.1 F.2.1 dX11_addressSegment_61 rfl (lv_at hl 0 rfl) ?_
  refine gf11_31 F hx0 hr dX11_addressSegment_62 (fun y18 ey18 => ?_)
  replace h := zl_sub ey18 h
  have hy18 := zal_g hr hx0 (j := 13) rfl ey18
  clear ey18
  refine lv_aload_n F.1 F.2.1 dX11_addressSegment_65 rfl (lv_at hl 1 rfl) ?_
  replace h := zc_some h
  obtain ⟨r19, z20, hc21, h⟩ := h
  refine zr_calli (zrun_VN (As := []) (rest := [va_rf (Option.map (B 7) y18)]) zn_1309 zq_1311 zs_X1_nextNumber zq_1312 zq_9 hdX1_nextNumber (by decide) (T := TX1) (N := 13) rfl (okX1_nextNumber l D cy B ids hst N x1 hx1 hr.2.2 hc21) F hr hx1 hl.1 rfl (by simp only [List.map, zrf_cat]; exact Nat.le_of_ble_eq_true rfl) dX11_addressSegment_66 rfl rfl hroX11_addressSegment_X1_nextNumber ⟨Nat.zero_le _, Nat.zero_le _⟩) F hA hr (fun H locs hw22 hr => ?_)
  clear hc21
  replace h := zd_some h
  obtain ⟨a23, rfl, h⟩ := h
  refine pf11_691 F (hy18 _ rfl) hr dX11_addressSegment_69 r19 (fun H locs z24 ez24 hr => ?_)
  replace h := zl_sub ez24 h
  clear ez24
  refine lv_aload_n F.1 F.2.1 dX11_addressSegment_72 rfl (lv_at hl 0 rfl) ?_
  refine gf11_31 F hx0 hr dX11_addressSegment_73 (fun y25 ey25 => ?_)
  replace h := zl_sub ey25 h
  have hy25 := zal_g hr hx0 (j := 13) rfl ey25
  clear ey25
  refine lv_aload_n F.1 F.2.1 dX11_addressSegment_76 rfl (lv_at hl 2 rfl) ?_
  refine gf11_253 F hx2 hr dX11_addressSegment_77 (fun y26 ey26 => ?_)
  replace h := zl_sub ey26 h
  have hy26 := zal_g hr hx2 (j := 12) rfl ey26
  clear ey26
  replace h := zd_some h
  obtain ⟨a27, rfl, h⟩ := h
  refine gf11_847 F (hy26 _ rfl) hr dX11_addressSegment_80 ?_
  replace h := zd_some h
  obtain ⟨a28, rfl, h⟩ := h
  refine pf11_850 F (hy25 _ rfl) hr dX11_addressSegment_83 (zgI z24 3 14 a27) (fun H locs z29 ez29 hr => ?_)
  replace h := zl_sub ez29 h
  clear ez29
  obtain ⟨rfl, rfl⟩ := zret h
  exact E _ _ _ _ dX11_addressSegment_86 trivial hr
def fX11_addressSegment (N : Nat)  (x0 : Nat) (x1 : Nat) (x2 : Nat) (z : St) : Option (Int32 × St) := zk (0 : Int32) 6 <| zl (zgQ z 112 x1 (Int32.toNatClampNeg (0 : Int32))) fun y2 => zl (zgR z 11 13 x0) fun y3 => zo y2 (fX11_addressSegment_23 N x0 x1 x2 y3 (0 : Int32) z) fun a5 => fX11_addressSegment_23 N x0 x1 x2 y3 (zgI z 8 4 a5) z
set_option maxHeartbeats 4000000 in
set_option maxRecDepth 100000 in
theorem bX11_addressSegment_0 (hst : zSt B ids) (F : zFx p m c cX11_addressSegment 4 s args RX11 D cy B ids A) (hA : ∀ q : Nat, s.heap.size ≤ q → A q) {r : Int32} {z' : St} (E : zEnd p l e rmX11_addressSegment s m args below meth c cX11_addressSegment D cy B ids A Q none z' .return_ True) {N : Nat}  (x0 : Nat) (x1 : Nat) (x2 : Nat) (hx0 : (11, x0) ∈ ids) (hx1 : (1, x1) ∈ ids) (hx2 : (2, x2) ∈ ids) {z : St} {H : Heap} {locs : List Loc} {ls : Array Slot} (hr : zRep D cy B ids A s.heap z H locs) (hl : lv_has ls 4 [(0, .ref (B 11 x0)), (1, .ref (B 1 x1)), (2, .ref (B 2 x2))]) (h : fX11_addressSegment N x0 x1 x2 z = some (r, z')) : W p l e rmX11_addressSegment s m args below meth c H locs 0 0 Q (F0 m 0 ls []) := by
  unfold fX11_addressSegment at h
  refine lv_aload_n F.1 F.2.1 dX11_addressSegment_0 rfl (lv_at hl 1 rfl) ?_
  refine gf11_134 F hx1 hr dX11_addressSegment_1 ?_
  refine lv_iconst (v := (0 : Int32)) F.1 F.2.1 dX11_addressSegment_4 (by decide) ?_
  replace h := zk_some h
  obtain ⟨c1, h⟩ := h
  refine zr_aaldv (k := 112) (by decide) rfl rfl (zlen_d (by decide)) F (zal_a F hx1 (j := 2) rfl) hr dX11_addressSegment_5 c1 (fun y2 ey2 => ?_)
  replace h := zl_sub ey2 h
  have hy2 := zal_q hr (zal_a F hx1 (j := 2) rfl) rfl ey2
  clear ey2
  refine zr_astore_n (lv' := [(3, va_rf (Option.map (B 8) y2)), (0, .ref (B 11 x0)), (1, .ref (B 1 x1)), (2, .ref (B 2 x2))]) F.1 F.2.1 dX11_addressSegment_6 rfl hl (by decide) rfl (fun ls hl => ?_)
  refine lv_aload_n F.1 F.2.1 dX11_addressSegment_7 rfl (lv_at hl 1 rfl) ?_
  refine gf11_31 F hx0 hr dX11_addressSegment_8 (fun y3 ey3 => ?_)
  replace h := zl_sub ey3 h
  have hy3 := zal_g hr hx0 (j := 13) rfl ey3
  clear ey3
  refine zr_aload_n F.1 F.2.1 dX11_addressSegment_11 rfl (lv_at hl 0 rfl) ?_
  refine zr_ifnonnull (tgt := 19) F.1 F.2.1 dX11_addressSegment_12 (by decide) (fun e4 => ?_) (fun a5 e4 => ?_)
  · replace h := zo_n e4 h
    subst e4
    refine lv_iconst (v := (0 : Int32)) F.1 F.2.1 dX11_addressSegment_15 (by decide) ?_
    refine lv_goto (tgt := 23) F.1 F.2.1 dX11_addressSegment_16 (by decide) ?_
    exact bX11_addressSegment_23 hst F hA E  x0 x1 x2 y3 (0 : Int32) hx0 hx1 hx2 hy3 hr (lv_sub hl [1, 2, 3] rfl) h
  · replace h := zo_s e4 h
    subst e4
    refine lv_aload_n F.1 F.2.1 dX11_addressSegment_19 rfl (lv_at hl 0 rfl) ?_
    refine gf11_141 F (hy2 _ rfl) hr dX11_addressSegment_20 ?_
    exact bX11_addressSegment_23 hst F hA E  x0 x1 x2 y3 (zgI z 8 4 a5) hx0 hx1 hx2 hy3 hr (lv_sub hl [1, 2, 3] rfl) h
end SX11_addressSegment
set_option maxRecDepth 100000 in
theorem okX11_addressSegment (l : Launch) (D : va_G) (cy : Nat → ClassId) (B : Nat → Nat → Nat) (ids : List (Nat × Nat)) (hst : zSt B ids) (N : Nat) (x0 : Nat) (hx0 : (11, x0) ∈ ids) (x1 : Nat) (hx1 : (1, x1) ∈ ids) (x2 : Nat) (hx2 : (2, x2) ∈ ids) {z : St} {r : Int32} {z' : St} (hW : zWf ids z) (h : fX11_addressSegment N x0 x1 x2 z = some (r, z')) : zM l yX11_addressSegment (zws yX11_addressSegment cX11_addressSegment 4 none) rmX11_addressSegment D cy B ids [.ref (B 11 x0), .ref (B 1 x1), .ref (B 2 x2)] none True z z' :=
  zM_of hst hW (by decide +kernel) (Nat.le_of_ble_eq_true rfl) (fun p e s m args below meth c A ls F hA hret hlocks hr hl => bX11_addressSegment_0 hst F hA (zEnd_v F hret hlocks) x0 x1 x2 hx0 hx1 hx2 hr hl h)
abbrev rmX11_nextWritten : Room := { frames := 0, cells := 0, slots := 0, locals := 0 }
theorem hdX11_nextWritten : yX11_nextWritten.cls ≠ "java/lang/invoke/MethodHandle" ∧ yX11_nextWritten.cls ≠ "java/lang/invoke/VarHandle" ∧ (parseMethodDescriptor yX11_nextWritten.desc).map (fun d => d.parameters.length) = some 1 := by decide +kernel
section SX11_nextWritten
variable {p : Program} {l : Launch} {e : Env} {s : State} {m : MethodId} {args : Array Value} {below : List Frame} {meth : Method} {c : Code} {Q : State → Prop} {D : va_G} {cy : Nat → ClassId} {B : Nat → Nat → Nat} {ids : List (Nat × Nat)} {A : Nat → Prop}
def fX11_nextWritten_153 (N : Nat) (K5 : Nat → Nat → Int32 → St → Option (Int32 × St)) (x0 : Nat) (x1 : Nat) (x2 : Int32) (z : St) : Option (Int32 × St) := zl (x2 + 1) fun v1 => K5 x0 x1 v1 z
set_option maxHeartbeats 4000000 in
set_option maxRecDepth 100000 in
theorem bX11_nextWritten_153 (hst : zSt B ids) (F : zFx p m c cX11_nextWritten 6 s args RX11 D cy B ids A) (hA : ∀ q : Nat, s.heap.size ≤ q → A q) {r : Int32} {z' : St} (E : zEnd p l e rmX11_nextWritten s m args below meth c cX11_nextWritten D cy B ids A Q (some (.int r)) z' .ireturn True) {N : Nat} {K5 : Nat → Nat → Int32 → St → Option (Int32 × St)} (hK5 : ∀ (x0 : Nat) (x1 : Nat) (x2 : Int32) (hx0 : (11, x0) ∈ ids) (hx1 : (2, x1) ∈ ids) {z : St} {H : Heap} {locs : List Loc} {ls : Array Slot} (hr : zRep D cy B ids A s.heap z H locs) (hl : lv_has ls 6 [(0, .ref (B 11 x0)), (1, .ref (B 2 x1)), (2, .int x2)]), K5 x0 x1 x2 z = some (r, z') → W p l e rmX11_nextWritten s m args below meth c H locs 0 0 Q (F0 m 5 ls [])) (x0 : Nat) (x1 : Nat) (x2 : Int32) (hx0 : (11, x0) ∈ ids) (hx1 : (2, x1) ∈ ids) {z : St} {H : Heap} {locs : List Loc} {ls : Array Slot} (hr : zRep D cy B ids A s.heap z H locs) (hl : lv_has ls 6 [(0, .ref (B 11 x0)), (1, .ref (B 2 x1)), (2, .int x2)]) (h : fX11_nextWritten_153 N K5 x0 x1 x2 z = some (r, z')) : W p l e rmX11_nextWritten s m args below meth c H locs 0 0 Q (F0 m 153 ls []) := by
  unfold fX11_nextWritten_153 at h
  obtain ⟨v1, ev1⟩ : ∃ y : Int32, y = (x2 + 1) := ⟨_, rfl⟩
  replace h := zl_sub ev1 h
  refine lv_iinc (v := v1) (lv' := [(2, .int v1), (0, .ref (B 11 x0)), (1, .ref (B 2 x1))]) F.1 F.2.1 dX11_nextWritten_153 hl (k := 2) rfl (by rw [ev1]; rfl) (by decide) rfl (fun ls hl => ?_)
  refine lv_goto (tgt := 5) F.1 F.2.1 dX11_nextWritten_156 (by decide) ?_
  exact hK5 x0 x1 v1 hx0 hx1 hr (lv_sub hl [1, 2, 0] rfl) h
def fX11_nextWritten_31 (N : Nat) (K5 : Nat → Nat → Int32 → St → Option (Int32 × St)) (x0 : Nat) (x1 : Nat) (x2 : Int32) (z : St) : Option (Int32 × St) := zk x2 512 <| zl ((zgA z 144 x0 (Int32.toNatClampNeg x2)) &&& (4095 : Int32)) fun v2 => zk x2 512 <| zl (zgR z 2 12 x1) fun y4 => zd y4 fun a5 => if ¬ (zgA z 143 x0 (Int32.toNatClampNeg x2)) = (zgI z 3 15 a5) then (fX11_nextWritten_153 N K5 x0 x1 x2 z) else (if (zgI z 2 11 x1) < v2 then (zl (zgI z 2 11 x1) fun v8 => zl (zsI z 2 11 x1 ((zgI z 2 11 x1) + (1 : Int32))) fun z9 => zk x2 512 <| if (4096 : Int32) ≤ (zgA z9 144 x0 (Int32.toNatClampNeg x2)) then (zk x2 512 <| zl ((Int64.toInt32 ((((zgL z9 145 x0 (Int32.toNatClampNeg x2))).toUInt64 >>> (((8 : Int32)).toInt64.toUInt64 &&& Int64.toUInt64 63)).toInt64)) &&& (255 : Int32)) fun v13 => zk x2 512 <| some ((((Int64.toInt32 (zgL z9 145 x0 (Int32.toNatClampNeg x2))) + (v8 * v13)) &&& (255 : Int32)), z9)) else (zk x2 512 <| some (((Int64.toInt32 ((((zgL z9 145 x0 (Int32.toNatClampNeg x2))).toUInt64 >>> ((((8 : Int32) * ((v2 - (1 : Int32)) - v8))).toInt64.toUInt64 &&& Int64.toUInt64 63)).toInt64)) &&& (255 : Int32)), z9))) else (fX11_nextWritten_153 N K5 x0 x1 x2 z))
set_option maxHeartbeats 4000000 in
set_option maxRecDepth 100000 in
theorem bX11_nextWritten_31 (hst : zSt B ids) (F : zFx p m c cX11_nextWritten 6 s args RX11 D cy B ids A) (hA : ∀ q : Nat, s.heap.size ≤ q → A q) {r : Int32} {z' : St} (E : zEnd p l e rmX11_nextWritten s m args below meth c cX11_nextWritten D cy B ids A Q (some (.int r)) z' .ireturn True) {N : Nat} {K5 : Nat → Nat → Int32 → St → Option (Int32 × St)} (hK5 : ∀ (x0 : Nat) (x1 : Nat) (x2 : Int32) (hx0 : (11, x0) ∈ ids) (hx1 : (2, x1) ∈ ids) {z : St} {H : Heap} {locs : List Loc} {ls : Array Slot} (hr : zRep D cy B ids A s.heap z H locs) (hl : lv_has ls 6 [(0, .ref (B 11 x0)), (1, .ref (B 2 x1)), (2, .int x2)]), K5 x0 x1 x2 z = some (r, z') → W p l e rmX11_nextWritten s m args below meth c H locs 0 0 Q (F0 m 5 ls [])) (x0 : Nat) (x1 : Nat) (x2 : Int32) (hx0 : (11, x0) ∈ ids) (hx1 : (2, x1) ∈ ids) {z : St} {H : Heap} {locs : List Loc} {ls : Array Slot} (hr : zRep D cy B ids A s.heap z H locs) (hl : lv_has ls 6 [(0, .ref (B 11 x0)), (1, .ref (B 2 x1)), (2, .int x2)]) (h : fX11_nextWritten_31 N K5 x0 x1 x2 z = some (r, z')) : W p l e rmX11_nextWritten s m args below meth c H locs 0 0 Q (F0 m 31 ls []) := by
  unfold fX11_nextWritten_31 at h
  refine lv_aload_n F.1 F.2.1 dX11_nextWritten_31 rfl (lv_at hl 0 rfl) ?_
  refine gf11_42 F hx0 hr dX11_nextWritten_32 ?_
  refine lv_iload_n F.1 F.2.1 dX11_nextWritten_35 rfl (lv_at hl 2 rfl) ?_
  replace h := zk_some h
  obtain ⟨c1, h⟩ := h
  refine zr_iald (k := 144) (by decide) rfl (by decide) F (zal_a F hx0 (j := 17) rfl) hr dX11_nextWritten_36 c1 ?_
  refine lv_sipush (v := (4095 : Int32)) F.1 F.2.1 dX11_nextWritten_37 (by decide) ?_
  refine lv_iand F.1 F.2.1 dX11_nextWritten_40 ?_
  refine lv_topi (fun v2 ev2 => ?_)
  replace h := zl_sub ev2 h
  refine lv_istore_n (lv' := [(3, .int v2), (0, .ref (B 11 x0)), (1, .ref (B 2 x1)), (2, .int x2)]) F.1 F.2.1 dX11_nextWritten_41 rfl hl (by decide) rfl (fun ls hl => ?_)
  refine lv_aload_n F.1 F.2.1 dX11_nextWritten_42 rfl (lv_at hl 1 rfl) ?_
  refine gf11_38 F hx0 hr dX11_nextWritten_43 ?_
  refine lv_iload_n F.1 F.2.1 dX11_nextWritten_46 rfl (lv_at hl 3 rfl) ?_
  replace h := zk_some h
  obtain ⟨c3, h⟩ := h
  refine zr_iald (k := 143) (by decide) rfl (by decide) F (zal_a F hx0 (j := 16) rfl) hr dX11_nextWritten_47 c3 ?_
  refine lv_aload_n F.1 F.2.1 dX11_nextWritten_48 rfl (lv_at hl 2 rfl) ?_
  refine gf11_253 F hx1 hr dX11_nextWritten_49 (fun y4 ey4 => ?_)
  replace h := zl_sub ey4 h
  have hy4 := zal_g hr hx1 (j := 12) rfl ey4
  clear ey4
  replace h := zd_some h
  obtain ⟨a5, rfl, h⟩ := h
  refine gf11_913 F (hy4 _ rfl) hr dX11_nextWritten_52 ?_
  refine lv_icmp_ne (tgt := 153) F.1 F.2.1 dX11_nextWritten_55 (by decide) (fun c6 => ?_) (fun c6 => ?_)
  · replace h := zi_t c6 h
    exact bX11_nextWritten_153 hst F hA E hK5 x0 x1 x2 hx0 hx1 hr (lv_sub hl [1, 2, 3] rfl) h
  · replace h := zi_f (fun q => q c6) h
    refine lv_aload_n F.1 F.2.1 dX11_nextWritten_58 rfl (lv_at hl 2 rfl) ?_
    refine gf11_910 F hx1 hr dX11_nextWritten_59 ?_
    refine lv_iload_n F.1 F.2.1 dX11_nextWritten_62 rfl (lv_at hl 0 rfl) ?_
    refine lv_icmp_lt (tgt := 69) F.1 F.2.1 dX11_nextWritten_63 (by decide) (fun c7 => ?_) (fun c7 => ?_)
    · replace h := zi_t c7 h
      refine lv_aload_n F.1 F.2.1 dX11_nextWritten_69 rfl (lv_at hl 2 rfl) ?_
      refine gf11_910 F hx1 hr dX11_nextWritten_70 ?_
      refine lv_topi (fun v8 ev8 => ?_)
      replace h := zl_sub ev8 h
      refine lv_istore (lv' := [(4, .int v8), (3, .int v2), (0, .ref (B 11 x0)), (1, .ref (B 2 x1)), (2, .int x2)]) F.1 F.2.1 dX11_nextWritten_73 hl (by decide) rfl (fun ls hl => ?_)
      refine lv_aload_n F.1 F.2.1 dX11_nextWritten_75 rfl (lv_at hl 3 rfl) ?_
      refine lv_dup F.1 F.2.1 dX11_nextWritten_76 rfl ?_
      refine gf11_910 F hx1 hr dX11_nextWritten_77 ?_
      refine lv_iconst (v := (1 : Int32)) F.1 F.2.1 dX11_nextWritten_80 (by decide) ?_
      refine lv_iadd F.1 F.2.1 dX11_nextWritten_81 ?_
      refine pf11_910 F hx1 hr dX11_nextWritten_82 ((zgI z 2 11 x1) + (1 : Int32)) (fun H locs z9 ez9 hr => ?_)
      replace h := zl_sub ez9 h
      clear ez9
      refine lv_aload_n F.1 F.2.1 dX11_nextWritten_85 rfl (lv_at hl 2 rfl) ?_
      refine gf11_42 F hx0 hr dX11_nextWritten_86 ?_
      refine lv_iload_n F.1 F.2.1 dX11_nextWritten_89 rfl (lv_at hl 4 rfl) ?_
      replace h := zk_some h
      obtain ⟨c10, h⟩ := h
      refine zr_iald (k := 144) (by decide) rfl (by decide) F (zal_a F hx0 (j := 17) rfl) hr dX11_nextWritten_90 c10 ?_
      refine lv_sipush (v := (4096 : Int32)) F.1 F.2.1 dX11_nextWritten_91 (by decide) ?_
      refine lv_icmp_ge (tgt := 119) F.1 F.2.1 dX11_nextWritten_94 (by decide) (fun c11 => ?_) (fun c11 => ?_)
      · replace h := zi_t c11 h
        refine lv_aload_n F.1 F.2.1 dX11_nextWritten_119 rfl (lv_at hl 2 rfl) ?_
        refine gf11_45 F hx0 hr dX11_nextWritten_120 ?_
        refine lv_iload_n F.1 F.2.1 dX11_nextWritten_123 rfl (lv_at hl 4 rfl) ?_
        replace h := zk_some h
        obtain ⟨c12, h⟩ := h
        refine zr_lald (k := 145) (by decide) rfl (by decide) F (zal_a F hx0 (j := 18) rfl) hr dX11_nextWritten_124 c12 ?_
        refine lv_bipush (v := (8 : Int32)) F.1 F.2.1 dX11_nextWritten_125 (by decide) ?_
        refine lv_lushr F.1 F.2.1 dX11_nextWritten_127 rfl ?_
        refine lv_l2i F.1 F.2.1 dX11_nextWritten_128 rfl ?_
        refine lv_sipush (v := (255 : Int32)) F.1 F.2.1 dX11_nextWritten_129 (by decide) ?_
        refine lv_iand F.1 F.2.1 dX11_nextWritten_132 ?_
        refine lv_topi (fun v13 ev13 => ?_)
        replace h := zl_sub ev13 h
        refine lv_istore (lv' := [(5, .int v13), (4, .int v8), (3, .int v2), (0, .ref (B 11 x0)), (1, .ref (B 2 x1)), (2, .int x2)]) F.1 F.2.1 dX11_nextWritten_133 hl (by decide) rfl (fun ls hl => ?_)
        refine lv_aload_n F.1 F.2.1 dX11_nextWritten_135 rfl (lv_at hl 3 rfl) ?_
        refine gf11_45 F hx0 hr dX11_nextWritten_136 ?_
        refine lv_iload_n F.1 F.2.1 dX11_nextWritten_139 rfl (lv_at hl 5 rfl) ?_
        replace h := zk_some h
        obtain ⟨c14, h⟩ := h
        refine zr_lald (k := 145) (by decide) rfl (by decide) F (zal_a F hx0 (j := 18) rfl) hr dX11_nextWritten_140 c14 ?_
        refine lv_l2i F.1 F.2.1 dX11_nextWritten_141 rfl ?_
        refine lv_iload F.1 F.2.1 dX11_nextWritten_142 (lv_at hl 1 rfl) ?_
        refine lv_iload F.1 F.2.1 dX11_nextWritten_144 (lv_at hl 0 rfl) ?_
        refine lv_imul F.1 F.2.1 dX11_nextWritten_146 ?_
        refine lv_iadd F.1 F.2.1 dX11_nextWritten_147 ?_
        refine lv_sipush (v := (255 : Int32)) F.1 F.2.1 dX11_nextWritten_148 (by decide) ?_
        refine lv_iand F.1 F.2.1 dX11_nextWritten_151 ?_
        obtain ⟨rfl, rfl⟩ := zret h
        exact E _ _ _ _ dX11_nextWritten_152 trivial hr
      · replace h := zi_f c11 h
        refine lv_aload_n F.1 F.2.1 dX11_nextWritten_97 rfl (lv_at hl 2 rfl) ?_
        refine gf11_45 F hx0 hr dX11_nextWritten_98 ?_
        refine lv_iload_n F.1 F.2.1 dX11_nextWritten_101 rfl (lv_at hl 4 rfl) ?_
        replace h := zk_some h
        obtain ⟨c15, h⟩ := h
        refine zr_lald (k := 145) (by decide) rfl (by decide) F (zal_a F hx0 (j := 18) rfl) hr dX11_nextWritten_102 c15 ?_
        refine lv_bipush (v := (8 : Int32)) F.1 F.2.1 dX11_nextWritten_103 (by decide) ?_
        refine lv_iload_n F.1 F.2.1 dX11_nextWritten_105 rfl (lv_at hl 1 rfl) ?_
        refine lv_iconst (v := (1 : Int32)) F.1 F.2.1 dX11_nextWritten_106 (by decide) ?_
        refine lv_isub F.1 F.2.1 dX11_nextWritten_107 ?_
        refine lv_iload F.1 F.2.1 dX11_nextWritten_108 (lv_at hl 0 rfl) ?_
        refine lv_isub F.1 F.2.1 dX11_nextWritten_110 ?_
        refine lv_imul F.1 F.2.1 dX11_nextWritten_111 ?_
        refine lv_lushr F.1 F.2.1 dX11_nextWritten_112 rfl ?_
        refine lv_l2i F.1 F.2.1 dX11_nextWritten_113 rfl ?_
        refine lv_sipush (v := (255 : Int32)) F.1 F.2.1 dX11_nextWritten_114 (by decide) ?_
        refine lv_iand F.1 F.2.1 dX11_nextWritten_117 ?_
        obtain ⟨rfl, rfl⟩ := zret h
        exact E _ _ _ _ dX11_nextWritten_118 trivial hr
    · replace h := zi_f c7 h
      refine lv_goto (tgt := 153) F.1 F.2.1 dX11_nextWritten_66 (by decide) ?_
      exact bX11_nextWritten_153 hst F hA E hK5 x0 x1 x2 hx0 hx1 hr (lv_sub hl [1, 2, 3] rfl) h
def fX11_nextWritten_5b (N : Nat) (K5 : Nat → Nat → Int32 → St → Option (Int32 × St)) (x0 : Nat) (x1 : Nat) (x2 : Int32) (z : St) : Option (Int32 × St) := if (zgI z 11 19 x0) ≤ x2 then (some ((-1 : Int32), z)) else (if x2 = (zgI z 2 10 x1) then (fX11_nextWritten_31 N K5 x0 x1 x2 z) else (zl (zsI z 2 10 x1 x2) fun z3 => zl (zsI z3 2 11 x1 (0 : Int32)) fun z4 => fX11_nextWritten_31 N K5 x0 x1 x2 z4))
def fX11_nextWritten_5 (N : Nat)  : Nat → Nat → Nat → Int32 → St → Option (Int32 × St)
  | 0 => fun _ _ _ _ => none
  | n + 1 => fX11_nextWritten_5b N (fX11_nextWritten_5 N  n)
set_option maxHeartbeats 4000000 in
set_option maxRecDepth 100000 in
theorem bX11_nextWritten_5 (hst : zSt B ids) (F : zFx p m c cX11_nextWritten 6 s args RX11 D cy B ids A) (hA : ∀ q : Nat, s.heap.size ≤ q → A q) {r : Int32} {z' : St} (E : zEnd p l e rmX11_nextWritten s m args below meth c cX11_nextWritten D cy B ids A Q (some (.int r)) z' .ireturn True) {N : Nat} {K5 : Nat → Nat → Int32 → St → Option (Int32 × St)} (hK5 : ∀ (x0 : Nat) (x1 : Nat) (x2 : Int32) (hx0 : (11, x0) ∈ ids) (hx1 : (2, x1) ∈ ids) {z : St} {H : Heap} {locs : List Loc} {ls : Array Slot} (hr : zRep D cy B ids A s.heap z H locs) (hl : lv_has ls 6 [(0, .ref (B 11 x0)), (1, .ref (B 2 x1)), (2, .int x2)]), K5 x0 x1 x2 z = some (r, z') → W p l e rmX11_nextWritten s m args below meth c H locs 0 0 Q (F0 m 5 ls [])) (x0 : Nat) (x1 : Nat) (x2 : Int32) (hx0 : (11, x0) ∈ ids) (hx1 : (2, x1) ∈ ids) {z : St} {H : Heap} {locs : List Loc} {ls : Array Slot} (hr : zRep D cy B ids A s.heap z H locs) (hl : lv_has ls 6 [(0, .ref (B 11 x0)), (1, .ref (B 2 x1)), (2, .int x2)]) (h : fX11_nextWritten_5b N K5 x0 x1 x2 z = some (r, z')) : W p l e rmX11_nextWritten s m args below meth c H locs 0 0 Q (F0 m 5 ls []) := by
  unfold fX11_nextWritten_5b at h
  refine lv_iload_n F.1 F.2.1 dX11_nextWritten_5 rfl (lv_at hl 2 rfl) ?_
  refine lv_aload_n F.1 F.2.1 dX11_nextWritten_6 rfl (lv_at hl 0 rfl) ?_
  refine gf11_899 F hx0 hr dX11_nextWritten_7 ?_
  refine lv_icmp_ge (tgt := 159) F.1 F.2.1 dX11_nextWritten_10 (by decide) (fun c1 => ?_) (fun c1 => ?_)
  · replace h := zi_t c1 h
    refine lv_iconst (v := (-1 : Int32)) F.1 F.2.1 dX11_nextWritten_159 (by decide) ?_
    obtain ⟨rfl, rfl⟩ := zret h
    exact E _ _ _ _ dX11_nextWritten_160 trivial hr
  · replace h := zi_f c1 h
    refine lv_iload_n F.1 F.2.1 dX11_nextWritten_13 rfl (lv_at hl 2 rfl) ?_
    refine lv_aload_n F.1 F.2.1 dX11_nextWritten_14 rfl (lv_at hl 1 rfl) ?_
    refine gf11_907 F hx1 hr dX11_nextWritten_15 ?_
    refine lv_icmp_eq (tgt := 31) F.1 F.2.1 dX11_nextWritten_18 (by decide) (fun c2 => ?_) (fun c2 => ?_)
    · replace h := zi_t c2 h
      exact bX11_nextWritten_31 hst F hA E hK5 x0 x1 x2 hx0 hx1 hr (lv_sub hl [0, 1, 2] rfl) h
    · replace h := zi_f c2 h
      refine lv_aload_n F.1 F.2.1 dX11_nextWritten_21 rfl (lv_at hl 1 rfl) ?_
      refine lv_iload_n F.1 F.2.1 dX11_nextWritten_22 rfl (lv_at hl 2 rfl) ?_
      refine pf11_907 F hx1 hr dX11_nextWritten_23 x2 (fun H locs z3 ez3 hr => ?_)
      replace h := zl_sub ez3 h
      clear ez3
      refine lv_aload_n F.1 F.2.1 dX11_nextWritten_26 rfl (lv_at hl 1 rfl) ?_
      refine lv_iconst (v := (0 : Int32)) F.1 F.2.1 dX11_nextWritten_27 (by decide) ?_
      refine pf11_910 F hx1 hr dX11_nextWritten_28 (0 : Int32) (fun H locs z4 ez4 hr => ?_)
      replace h := zl_sub ez4 h
      clear ez4
      exact bX11_nextWritten_31 hst F hA E hK5 x0 x1 x2 hx0 hx1 hr (lv_sub hl [0, 1, 2] rfl) h
theorem lX11_nextWritten_5 (hst : zSt B ids) (F : zFx p m c cX11_nextWritten 6 s args RX11 D cy B ids A) (hA : ∀ q : Nat, s.heap.size ≤ q → A q) {r : Int32} {z' : St} (E : zEnd p l e rmX11_nextWritten s m args below meth c cX11_nextWritten D cy B ids A Q (some (.int r)) z' .ireturn True) {N : Nat}  : ∀ (n : Nat) (x0 : Nat) (x1 : Nat) (x2 : Int32) (hx0 : (11, x0) ∈ ids) (hx1 : (2, x1) ∈ ids) {z : St} {H : Heap} {locs : List Loc} {ls : Array Slot} (hr : zRep D cy B ids A s.heap z H locs) (hl : lv_has ls 6 [(0, .ref (B 11 x0)), (1, .ref (B 2 x1)), (2, .int x2)]), fX11_nextWritten_5 N  n x0 x1 x2 z = some (r, z') → W p l e rmX11_nextWritten s m args below meth c H locs 0 0 Q (F0 m 5 ls []) := by
  intro n
  induction n with
  | zero => intro x0 x1 x2 hx0 hx1 z H locs ls hr hl h; cases h
  | succ n ih => intro x0 x1 x2 hx0 hx1 z H locs ls hr hl h; exact bX11_nextWritten_5 hst F hA E ih x0 x1 x2 hx0 hx1 hr hl h
def fX11_nextWritten (N : Nat)  (x0 : Nat) (x1 : Nat) (z : St) : Option (Int32 × St) := zl (zgI z 2 10 x1) fun v1 => fX11_nextWritten_5 N N x0 x1 v1 z
set_option maxHeartbeats 4000000 in
set_option maxRecDepth 100000 in
theorem bX11_nextWritten_0 (hst : zSt B ids) (F : zFx p m c cX11_nextWritten 6 s args RX11 D cy B ids A) (hA : ∀ q : Nat, s.heap.size ≤ q → A q) {r : Int32} {z' : St} (E : zEnd p l e rmX11_nextWritten s m args below meth c cX11_nextWritten D cy B ids A Q (some (.int r)) z' .ireturn True) {N : Nat}  (x0 : Nat) (x1 : Nat) (hx0 : (11, x0) ∈ ids) (hx1 : (2, x1) ∈ ids) {z : St} {H : Heap} {locs : List Loc} {ls : Array Slot} (hr : zRep D cy B ids A s.heap z H locs) (hl : lv_has ls 6 [(0, .ref (B 11 x0)), (1, .ref (B 2 x1))]) (h : fX11_nextWritten N x0 x1 z = some (r, z')) : W p l e rmX11_nextWritten s m args below meth c H locs 0 0 Q (F0 m 0 ls []) := by
  unfold fX11_nextWritten at h
  refine lv_aload_n F.1 F.2.1 dX11_nextWritten_0 rfl (lv_at hl 1 rfl) ?_
  refine gf11_907 F hx1 hr dX11_nextWritten_1 ?_
  refine lv_topi (fun v1 ev1 => ?_)
  replace h := zl_sub ev1 h
  refine lv_istore_n (lv' := [(2, .int v1), (0, .ref (B 11 x0)), (1, .ref (B 2 x1))]) F.1 F.2.1 dX11_nextWritten_4 rfl hl (by decide) rfl (fun ls hl => ?_)
  exact lX11_nextWritten_5 hst F hA E  _ x0 x1 v1 hx0 hx1 hr (lv_sub hl [1, 2, 0] rfl) h
end SX11_nextWritten
set_option maxRecDepth 100000 in
theorem okX11_nextWritten (l : Launch) (D : va_G) (cy : Nat → ClassId) (B : Nat → Nat → Nat) (ids : List (Nat × Nat)) (hst : zSt B ids) (N : Nat) (x0 : Nat) (hx0 : (11, x0) ∈ ids) (x1 : Nat) (hx1 : (2, x1) ∈ ids) {z : St} {r : Int32} {z' : St} (hW : zWf ids z) (h : fX11_nextWritten N x0 x1 z = some (r, z')) : zM l yX11_nextWritten (zws yX11_nextWritten cX11_nextWritten 6 (some .int)) rmX11_nextWritten D cy B ids [.ref (B 11 x0), .ref (B 2 x1)] (some (.int r)) True z z' :=
  zM_of hst hW (by decide +kernel) (Nat.le_of_ble_eq_true rfl) (fun p e s m args below meth c A ls F hA hret hlocks hr hl => bX11_nextWritten_0 hst F hA (zEnd_i F hret hlocks) x0 x1 hx0 hx1 hr hl h)
abbrev rmX11_takeByte : Room := { frames := 2, cells := 0, slots := 0, locals := 83 }
theorem hdX11_takeByte : yX11_takeByte.cls ≠ "java/lang/invoke/MethodHandle" ∧ yX11_takeByte.cls ≠ "java/lang/invoke/VarHandle" ∧ (parseMethodDescriptor yX11_takeByte.desc).map (fun d => d.parameters.length) = some 1 := by decide +kernel
theorem hroX11_takeByte_X11_nextWritten : rmX11_nextWritten.frames + 1 ≤ rmX11_takeByte.frames ∧ 8 + (6 + 11) + rmX11_nextWritten.locals ≤ rmX11_takeByte.locals := by decide
theorem hroX11_takeByte_X3_takeByte : rmX3_takeByte.frames + 1 ≤ rmX11_takeByte.frames ∧ 8 + (4 + 11) + rmX3_takeByte.locals ≤ rmX11_takeByte.locals := by decide
section SX11_takeByte
variable {p : Program} {l : Launch} {e : Env} {s : State} {m : MethodId} {args : Array Value} {below : List Frame} {meth : Method} {c : Code} {Q : State → Prop} {D : va_G} {cy : Nat → ClassId} {B : Nat → Nat → Nat} {ids : List (Nat × Nat)} {A : Nat → Prop}
def fX11_takeByte (N : Nat)  (x0 : Nat) (x1 : Nat) (z : St) : Option (Int32 × St) := zl (zgR z 2 12 x1) fun y1 => zd y1 fun a2 => zc (fX3_takeByte N a2 z) fun r3 z4 => zc (fX11_nextWritten N x0 x1 z4) fun r7 z8 => if r3 = r7 then (some (r3, z8)) else (zl (zsI z8 11 8 x0 ((zgI z8 11 8 x0) + (1 : Int32))) fun z12 => some (r3, z12))
set_option maxHeartbeats 4000000 in
set_option maxRecDepth 100000 in
theorem bX11_takeByte_0 (hst : zSt B ids) (F : zFx p m c cX11_takeByte 3 s args RX11 D cy B ids A) (hA : ∀ q : Nat, s.heap.size ≤ q → A q) {r : Int32} {z' : St} (E : zEnd p l e rmX11_takeByte s m args below meth c cX11_takeByte D cy B ids A Q (some (.int r)) z' .ireturn True) {N : Nat}  (x0 : Nat) (x1 : Nat) (hx0 : (11, x0) ∈ ids) (hx1 : (2, x1) ∈ ids) {z : St} {H : Heap} {locs : List Loc} {ls : Array Slot} (hr : zRep D cy B ids A s.heap z H locs) (hl : lv_has ls 3 [(0, .ref (B 11 x0)), (1, .ref (B 2 x1))]) (h : fX11_takeByte N x0 x1 z = some (r, z')) : W p l e rmX11_takeByte s m args below meth c H locs 0 0 Q (F0 m 0 ls []) := by
  unfold fX11_takeByte at h
  refine lv_aload_n F.1 F.2.1 dX11_takeByte_0 rfl (lv_at hl 1 rfl) ?_
  refine gf11_253 F hx1 hr dX11_takeByte_1 (fun y1 ey1 => ?_)
  replace h := zl_sub ey1 h
  have hy1 := zal_g hr hx1 (j := 12) rfl ey1
  clear ey1
  replace h := zd_some h
  obtain ⟨a2, rfl, h⟩ := h
  replace h := zc_some h
  obtain ⟨r3, z4, hc5, h⟩ := h
  refine zr_calli (zrun_VN (As := []) (rest := []) zn_1656 zq_1658 zs_X3_takeByte zq_1659 zq_13 hdX3_takeByte (by decide) (T := TX3) (N := 19) rfl (okX3_takeByte l D cy B ids hst N a2 (hy1 _ rfl) hr.2.2 hc5) F hr (hy1 _ rfl) hl.1 rfl (by decide) dX11_takeByte_4 rfl rfl hroX11_takeByte_X3_takeByte ⟨Nat.zero_le _, Nat.zero_le _⟩) F hA hr (fun H locs hw6 hr => ?_)
  clear hc5
  refine lv_istore_n (lv' := [(2, .int r3), (0, .ref (B 11 x0)), (1, .ref (B 2 x1))]) F.1 F.2.1 dX11_takeByte_7 rfl hl (by decide) rfl (fun ls hl => ?_)
  refine lv_iload_n F.1 F.2.1 dX11_takeByte_8 rfl (lv_at hl 0 rfl) ?_
  refine lv_aload_n F.1 F.2.1 dX11_takeByte_9 rfl (lv_at hl 1 rfl) ?_
  refine lv_aload_n F.1 F.2.1 dX11_takeByte_10 rfl (lv_at hl 2 rfl) ?_
  replace h := zc_some h
  obtain ⟨r7, z8, hc9, h⟩ := h
  refine zr_calli (zrun_V (As := [.ref (B 2 x1)]) (rest := [.int r3]) zq_1664 zq_1666 zs_X11_nextWritten zq_1667 zq_1 hdX11_nextWritten (by decide) (T := TX11) (N := 21) rfl (okX11_nextWritten l D cy B ids hst N x0 hx0 x1 hx1 hr.2.2 hc9) F hr hx0 hl.1 rfl (Nat.le_of_ble_eq_true rfl) dX11_takeByte_11 rfl rfl hroX11_takeByte_X11_nextWritten ⟨Nat.zero_le _, Nat.zero_le _⟩) F hA hr (fun H locs hw10 hr => ?_)
  clear hc9
  refine lv_icmp_eq (tgt := 27) F.1 F.2.1 dX11_takeByte_14 (by decide) (fun c11 => ?_) (fun c11 => ?_)
  · replace h := zi_t c11 h
    refine lv_iload_n F.1 F.2.1 dX11_takeByte_27 rfl (lv_at hl 0 rfl) ?_
    obtain ⟨rfl, rfl⟩ := zret h
    exact E _ _ _ _ dX11_takeByte_28 trivial hr
  · replace h := zi_f c11 h
    refine lv_aload_n F.1 F.2.1 dX11_takeByte_17 rfl (lv_at hl 1 rfl) ?_
    refine lv_dup F.1 F.2.1 dX11_takeByte_18 rfl ?_
    refine gf11_452 F hx0 hr dX11_takeByte_19 ?_
    refine lv_iconst (v := (1 : Int32)) F.1 F.2.1 dX11_takeByte_22 (by decide) ?_
    refine lv_iadd F.1 F.2.1 dX11_takeByte_23 ?_
    refine pf11_452 F hx0 hr dX11_takeByte_24 ((zgI z8 11 8 x0) + (1 : Int32)) (fun H locs z12 ez12 hr => ?_)
    replace h := zl_sub ez12 h
    clear ez12
    refine lv_iload_n F.1 F.2.1 dX11_takeByte_27 rfl (lv_at hl 0 rfl) ?_
    obtain ⟨rfl, rfl⟩ := zret h
    exact E _ _ _ _ dX11_takeByte_28 trivial hr
end SX11_takeByte
set_option maxRecDepth 100000 in
theorem okX11_takeByte (l : Launch) (D : va_G) (cy : Nat → ClassId) (B : Nat → Nat → Nat) (ids : List (Nat × Nat)) (hst : zSt B ids) (N : Nat) (x0 : Nat) (hx0 : (11, x0) ∈ ids) (x1 : Nat) (hx1 : (2, x1) ∈ ids) {z : St} {r : Int32} {z' : St} (hW : zWf ids z) (h : fX11_takeByte N x0 x1 z = some (r, z')) : zM l yX11_takeByte (zws yX11_takeByte cX11_takeByte 3 (some .int)) rmX11_takeByte D cy B ids [.ref (B 11 x0), .ref (B 2 x1)] (some (.int r)) True z z' :=
  zM_of hst hW (by decide +kernel) (Nat.le_of_ble_eq_true rfl) (fun p e s m args below meth c A ls F hA hret hlocks hr hl => bX11_takeByte_0 hst F hA (zEnd_i F hret hlocks) x0 x1 hx0 hx1 hr hl h)
abbrev rmX11_settle : Room := { frames := 3, cells := 0, slots := 0, locals := 105 }
theorem hdX11_settle : yX11_settle.cls ≠ "java/lang/invoke/MethodHandle" ∧ yX11_settle.cls ≠ "java/lang/invoke/VarHandle" ∧ (parseMethodDescriptor yX11_settle.desc).map (fun d => d.parameters.length) = some 1 := by decide +kernel
theorem hroX11_settle_X11_stir : rmX11_stir.frames + 1 ≤ rmX11_settle.frames ∧ 8 + (1 + 11) + rmX11_stir.locals ≤ rmX11_settle.locals := by decide
theorem hroX11_settle_X11_takeByte : rmX11_takeByte.frames + 1 ≤ rmX11_settle.frames ∧ 8 + (3 + 11) + rmX11_takeByte.locals ≤ rmX11_settle.locals := by decide
theorem hroX11_settle_X2_setUnused : rmX2_setUnused.frames + 1 ≤ rmX11_settle.frames ∧ 8 + (1 + 11) + rmX2_setUnused.locals ≤ rmX11_settle.locals := by decide
theorem hroX11_settle_X3_armProbe : rmX3_armProbe.frames + 1 ≤ rmX11_settle.frames ∧ 8 + (2 + 11) + rmX3_armProbe.locals ≤ rmX11_settle.locals := by decide
theorem hroX11_settle_X3_isDead : rmX3_isDead.frames + 1 ≤ rmX11_settle.frames ∧ 8 + (1 + 11) + rmX3_isDead.locals ≤ rmX11_settle.locals := by decide
section SX11_settle
variable {p : Program} {l : Launch} {e : Env} {s : State} {m : MethodId} {args : Array Value} {below : List Frame} {meth : Method} {c : Code} {Q : State → Prop} {D : va_G} {cy : Nat → ClassId} {B : Nat → Nat → Nat} {ids : List (Nat × Nat)} {A : Nat → Prop}
def fX11_settle_106 (N : Nat)  (x1 : Nat) (z : St) : Option (Int32 × St) := zc (fX2_setUnused N x1 z) fun _ z2 => some (0, z2)
set_option maxHeartbeats 4000000 in
set_option maxRecDepth 100000 in
theorem bX11_settle_106 (hst : zSt B ids) (F : zFx p m c cX11_settle 4 s args RX11 D cy B ids A) (hA : ∀ q : Nat, s.heap.size ≤ q → A q) {r : Int32} {z' : St} (E : zEnd p l e rmX11_settle s m args below meth c cX11_settle D cy B ids A Q none z' .return_ True) {N : Nat}  (x1 : Nat) (hx1 : (2, x1) ∈ ids) {z : St} {H : Heap} {locs : List Loc} {ls : Array Slot} (hr : zRep D cy B ids A s.heap z H locs) (hl : lv_has ls 4 [(1, .ref (B 2 x1))]) (h : fX11_settle_106 N x1 z = some (r, z')) : W p l e rmX11_settle s m args below meth c H locs 0 0 Q (F0 m 106 ls []) := by
  unfold fX11_settle_106 at h
  refine lv_aload_n F.1 F.2.1 dX11_settle_106 rfl (lv_at hl 0 rfl) ?_
  replace h := zc_some h
  obtain ⟨r1, z2, hc3, h⟩ := h
  refine zr_callv (zrun_VN (As := []) (rest := []) zn_1673 zq_1675 zs_X2_setUnused zq_1676 zq_12 hdX2_setUnused (by decide) (T := TX2) (N := 13) rfl (okX2_setUnused l D cy B ids hst N x1 hx1 hr.2.2 hc3) F hr hx1 hl.1 rfl (by decide) dX11_settle_107 rfl rfl hroX11_settle_X2_setUnused ⟨Nat.zero_le _, Nat.zero_le _⟩) F hA hr (fun H locs hw4 hr => ?_)
  clear hc3
  obtain ⟨rfl, rfl⟩ := zret h
  exact E _ _ _ _ dX11_settle_110 trivial hr
def fX11_settle_68 (N : Nat)  (x0 : Nat) (x1 : Nat) (x2 : Nat) (z : St) : Option (Int32 × St) := zc (fX3_armProbe N x2 (zgI z 11 4 x0) z) fun _ z2 => if ¬ (zgI z2 2 6 x1) = 0 then (if (zgI z2 3 0 x2) = (1 : Int32) then (fX11_settle_106 N x1 z2) else (zc (fX3_isDead N x2 z2) fun r7 z8 => if r7 = 0 then (some (0, z8)) else (if ¬ (zgI z8 2 7 x1) = 0 then (some (0, z8)) else (fX11_settle_106 N x1 z8)))) else (some (0, z2))
set_option maxHeartbeats 4000000 in
set_option maxRecDepth 100000 in
theorem bX11_settle_68 (hst : zSt B ids) (F : zFx p m c cX11_settle 4 s args RX11 D cy B ids A) (hA : ∀ q : Nat, s.heap.size ≤ q → A q) {r : Int32} {z' : St} (E : zEnd p l e rmX11_settle s m args below meth c cX11_settle D cy B ids A Q none z' .return_ True) {N : Nat}  (x0 : Nat) (x1 : Nat) (x2 : Nat) (hx0 : (11, x0) ∈ ids) (hx1 : (2, x1) ∈ ids) (hx2 : (3, x2) ∈ ids) {z : St} {H : Heap} {locs : List Loc} {ls : Array Slot} (hr : zRep D cy B ids A s.heap z H locs) (hl : lv_has ls 4 [(0, .ref (B 11 x0)), (1, .ref (B 2 x1)), (2, .ref (B 3 x2))]) (h : fX11_settle_68 N x0 x1 x2 z = some (r, z')) : W p l e rmX11_settle s m args below meth c H locs 0 0 Q (F0 m 68 ls []) := by
  unfold fX11_settle_68 at h
  refine lv_aload_n F.1 F.2.1 dX11_settle_68 rfl (lv_at hl 2 rfl) ?_
  refine lv_aload_n F.1 F.2.1 dX11_settle_69 rfl (lv_at hl 0 rfl) ?_
  refine gf11_176 F hx0 hr dX11_settle_70 ?_
  replace h := zc_some h
  obtain ⟨r1, z2, hc3, h⟩ := h
  refine zr_callv (zrun_VN (As := [.int (zgI z 11 4 x0)]) (rest := []) zn_1668 zq_1670 zs_X3_armProbe zq_1671 zq_13 hdX3_armProbe (by decide) (T := TX3) (N := 19) rfl (okX3_armProbe l D cy B ids hst N x2 hx2 (zgI z 11 4 x0)  hr.2.2 hc3) F hr hx2 hl.1 rfl (by decide) dX11_settle_73 rfl rfl hroX11_settle_X3_armProbe ⟨Nat.zero_le _, Nat.zero_le _⟩) F hA hr (fun H locs hw4 hr => ?_)
  clear hc3
  refine lv_aload_n F.1 F.2.1 dX11_settle_76 rfl (lv_at hl 1 rfl) ?_
  refine gf11_851 F hx1 hr dX11_settle_77 ?_
  refine lv_if_ne (tgt := 84) F.1 F.2.1 dX11_settle_80 (by decide) (fun c5 => ?_) (fun c5 => ?_)
  · replace h := zi_t c5 h
    refine lv_aload_n F.1 F.2.1 dX11_settle_84 rfl (lv_at hl 2 rfl) ?_
    refine gf11_290 F hx2 hr dX11_settle_85 ?_
    refine lv_iconst (v := (1 : Int32)) F.1 F.2.1 dX11_settle_88 (by decide) ?_
    refine lv_icmp_eq (tgt := 106) F.1 F.2.1 dX11_settle_89 (by decide) (fun c6 => ?_) (fun c6 => ?_)
    · replace h := zi_t c6 h
      exact bX11_settle_106 hst F hA E  x1 hx1 hr (lv_sub hl [1] rfl) h
    · replace h := zi_f c6 h
      refine lv_aload_n F.1 F.2.1 dX11_settle_92 rfl (lv_at hl 2 rfl) ?_
      replace h := zc_some h
      obtain ⟨r7, z8, hc9, h⟩ := h
      refine zr_calli (zrun_VN (As := []) (rest := []) zn_1672 zq_1227 zs_X3_isDead zq_1228 zq_13 hdX3_isDead (by decide) (T := TX3) (N := 19) rfl (okX3_isDead l D cy B ids hst N x2 hx2 hr.2.2 hc9) F hr hx2 hl.1 rfl (by decide) dX11_settle_93 rfl rfl hroX11_settle_X3_isDead ⟨Nat.zero_le _, Nat.zero_le _⟩) F hA hr (fun H locs hw10 hr => ?_)
      clear hc9
      refine lv_if_eq (tgt := 110) F.1 F.2.1 dX11_settle_96 (by decide) (fun c11 => ?_) (fun c11 => ?_)
      · replace h := zi_t c11 h
        obtain ⟨rfl, rfl⟩ := zret h
        exact E _ _ _ _ dX11_settle_110 trivial hr
      · replace h := zi_f c11 h
        refine lv_aload_n F.1 F.2.1 dX11_settle_99 rfl (lv_at hl 1 rfl) ?_
        refine gf11_287 F hx1 hr dX11_settle_100 ?_
        refine lv_if_ne (tgt := 110) F.1 F.2.1 dX11_settle_103 (by decide) (fun c12 => ?_) (fun c12 => ?_)
        · replace h := zi_t c12 h
          obtain ⟨rfl, rfl⟩ := zret h
          exact E _ _ _ _ dX11_settle_110 trivial hr
        · replace h := zi_f (fun q => q c12) h
          exact bX11_settle_106 hst F hA E  x1 hx1 hr (lv_sub hl [1] rfl) h
  · replace h := zi_f (fun q => q c5) h
    obtain ⟨rfl, rfl⟩ := zret h
    exact E _ _ _ _ dX11_settle_83 trivial hr
def fX11_settle_54 (N : Nat)  (x0 : Nat) (x1 : Nat) (x2 : Option Nat) (z : St) : Option (Int32 × St) := zd x2 fun a1 => zl (zgR z 3 17 a1) fun y2 => zd y2 fun a3 => if (zgI z 4 3 a3) ≤ 0 then (fX11_settle_68 N x0 x1 a1 z) else (zc (fX11_stir N x0 z) fun _ z6 => fX11_settle_68 N x0 x1 a1 z6)
set_option maxHeartbeats 4000000 in
set_option maxRecDepth 100000 in
theorem bX11_settle_54 (hst : zSt B ids) (F : zFx p m c cX11_settle 4 s args RX11 D cy B ids A) (hA : ∀ q : Nat, s.heap.size ≤ q → A q) {r : Int32} {z' : St} (E : zEnd p l e rmX11_settle s m args below meth c cX11_settle D cy B ids A Q none z' .return_ True) {N : Nat}  (x0 : Nat) (x1 : Nat) (x2 : Option Nat) (hx0 : (11, x0) ∈ ids) (hx1 : (2, x1) ∈ ids) (hx2 : ∀ t, x2 = some t → (3, t) ∈ ids) {z : St} {H : Heap} {locs : List Loc} {ls : Array Slot} (hr : zRep D cy B ids A s.heap z H locs) (hl : lv_has ls 4 [(0, .ref (B 11 x0)), (1, .ref (B 2 x1)), (2, va_rf (Option.map (B 3) x2))]) (h : fX11_settle_54 N x0 x1 x2 z = some (r, z')) : W p l e rmX11_settle s m args below meth c H locs 0 0 Q (F0 m 54 ls []) := by
  unfold fX11_settle_54 at h
  refine zr_aload_n F.1 F.2.1 dX11_settle_54 rfl (lv_at hl 2 rfl) ?_
  replace h := zd_some h
  obtain ⟨a1, rfl, h⟩ := h
  refine gf11_332 F (hx2 _ rfl) hr dX11_settle_55 (fun y2 ey2 => ?_)
  replace h := zl_sub ey2 h
  have hy2 := zal_g hr (hx2 _ rfl) (j := 17) rfl ey2
  clear ey2
  replace h := zd_some h
  obtain ⟨a3, rfl, h⟩ := h
  refine gf11_336 F (hy2 _ rfl) hr dX11_settle_58 ?_
  refine lv_if_le (tgt := 68) F.1 F.2.1 dX11_settle_61 (by decide) (fun c4 => ?_) (fun c4 => ?_)
  · replace h := zi_t c4 h
    exact bX11_settle_68 hst F hA E  x0 x1 a1 hx0 hx1 (hx2 _ rfl) hr (lv_sub hl [0, 1, 2] rfl) h
  · replace h := zi_f c4 h
    refine lv_aload_n F.1 F.2.1 dX11_settle_64 rfl (lv_at hl 0 rfl) ?_
    replace h := zc_some h
    obtain ⟨r5, z6, hc7, h⟩ := h
    refine zr_callv (zrun_V (As := []) (rest := []) zq_858 zq_860 zs_X11_stir zq_861 zq_1 hdX11_stir (by decide) (T := TX11) (N := 21) rfl (okX11_stir l D cy B ids hst N x0 hx0 hr.2.2 hc7) F hr hx0 hl.1 rfl (by decide) dX11_settle_65 rfl rfl hroX11_settle_X11_stir ⟨Nat.zero_le _, Nat.zero_le _⟩) F hA hr (fun H locs hw8 hr => ?_)
    clear hc7
    exact bX11_settle_68 hst F hA E  x0 x1 a1 hx0 hx1 (hx2 _ rfl) hr (lv_sub hl [0, 1, 2] rfl) h
def fX11_settle_14b (N : Nat) (K14 : Nat → Nat → Option Nat → Int32 → St → Option (Int32 × St)) (x0 : Nat) (x1 : Nat) (x2 : Option Nat) (x3 : Int32) (z : St) : Option (Int32 × St) := if (2048 : Int32) ≤ x3 then (fX11_settle_54 N x0 x1 x2 z) else (zd x2 fun a2 => zl (zgR z 3 17 a2) fun y3 => zd y3 fun a4 => if (zgI z 4 3 a4) ≤ 0 then (fX11_settle_54 N x0 x1 (some a2) z) else (zc (fX11_takeByte N x0 x1 z) fun r6 z7 => zl (zsI z7 2 9 x1 (((31 : Int32) * (zgI z 2 9 x1)) + r6)) fun z10 => zl (x3 + 1) fun v11 => K14 x0 x1 (some a2) v11 z10))
def fX11_settle_14 (N : Nat)  : Nat → Nat → Nat → Option Nat → Int32 → St → Option (Int32 × St)
  | 0 => fun _ _ _ _ _ => none
  | n + 1 => fX11_settle_14b N (fX11_settle_14 N  n)
set_option maxHeartbeats 4000000 in
set_option maxRecDepth 100000 in
theorem bX11_settle_14 (hst : zSt B ids) (F : zFx p m c cX11_settle 4 s args RX11 D cy B ids A) (hA : ∀ q : Nat, s.heap.size ≤ q → A q) {r : Int32} {z' : St} (E : zEnd p l e rmX11_settle s m args below meth c cX11_settle D cy B ids A Q none z' .return_ True) {N : Nat} {K14 : Nat → Nat → Option Nat → Int32 → St → Option (Int32 × St)} (hK14 : ∀ (x0 : Nat) (x1 : Nat) (x2 : Option Nat) (x3 : Int32) (hx0 : (11, x0) ∈ ids) (hx1 : (2, x1) ∈ ids) (hx2 : ∀ t, x2 = some t → (3, t) ∈ ids) {z : St} {H : Heap} {locs : List Loc} {ls : Array Slot} (hr : zRep D cy B ids A s.heap z H locs) (hl : lv_has ls 4 [(0, .ref (B 11 x0)), (1, .ref (B 2 x1)), (2, va_rf (Option.map (B 3) x2)), (3, .int x3)]), K14 x0 x1 x2 x3 z = some (r, z') → W p l e rmX11_settle s m args below meth c H locs 0 0 Q (F0 m 14 ls [])) (x0 : Nat) (x1 : Nat) (x2 : Option Nat) (x3 : Int32) (hx0 : (11, x0) ∈ ids) (hx1 : (2, x1) ∈ ids) (hx2 : ∀ t, x2 = some t → (3, t) ∈ ids) {z : St} {H : Heap} {locs : List Loc} {ls : Array Slot} (hr : zRep D cy B ids A s.heap z H locs) (hl : lv_has ls 4 [(0, .ref (B 11 x0)), (1, .ref (B 2 x1)), (2, va_rf (Option.map (B 3) x2)), (3, .int x3)]) (h : fX11_settle_14b N K14 x0 x1 x2 x3 z = some (r, z')) : W p l e rmX11_settle s m args below meth c H locs 0 0 Q (F0 m 14 ls []) := by
  unfold fX11_settle_14b at h
  refine lv_iload_n F.1 F.2.1 dX11_settle_14 rfl (lv_at hl 3 rfl) ?_
  refine lv_sipush (v := (2048 : Int32)) F.1 F.2.1 dX11_settle_15 (by decide) ?_
  refine lv_icmp_ge (tgt := 54) F.1 F.2.1 dX11_settle_18 (by decide) (fun c1 => ?_) (fun c1 => ?_)
  · replace h := zi_t c1 h
    exact bX11_settle_54 hst F hA E  x0 x1 x2 hx0 hx1 hx2 hr (lv_sub hl [0, 1, 2] rfl) h
  · replace h := zi_f c1 h
    refine zr_aload_n F.1 F.2.1 dX11_settle_21 rfl (lv_at hl 2 rfl) ?_
    replace h := zd_some h
    obtain ⟨a2, rfl, h⟩ := h
    refine gf11_332 F (hx2 _ rfl) hr dX11_settle_22 (fun y3 ey3 => ?_)
    replace h := zl_sub ey3 h
    have hy3 := zal_g hr (hx2 _ rfl) (j := 17) rfl ey3
    clear ey3
    replace h := zd_some h
    obtain ⟨a4, rfl, h⟩ := h
    refine gf11_336 F (hy3 _ rfl) hr dX11_settle_25 ?_
    refine lv_if_le (tgt := 54) F.1 F.2.1 dX11_settle_28 (by decide) (fun c5 => ?_) (fun c5 => ?_)
    · replace h := zi_t c5 h
      exact bX11_settle_54 hst F hA E  x0 x1 (some a2) hx0 hx1 (zal_s (hx2 _ rfl)) hr (lv_sub hl [0, 1, 2] rfl) h
    · replace h := zi_f c5 h
      refine lv_aload_n F.1 F.2.1 dX11_settle_31 rfl (lv_at hl 1 rfl) ?_
      refine lv_bipush (v := (31 : Int32)) F.1 F.2.1 dX11_settle_32 (by decide) ?_
      refine lv_aload_n F.1 F.2.1 dX11_settle_34 rfl (lv_at hl 1 rfl) ?_
      refine gf11_390 F hx1 hr dX11_settle_35 ?_
      refine lv_imul F.1 F.2.1 dX11_settle_38 ?_
      refine lv_aload_n F.1 F.2.1 dX11_settle_39 rfl (lv_at hl 0 rfl) ?_
      refine lv_aload_n F.1 F.2.1 dX11_settle_40 rfl (lv_at hl 1 rfl) ?_
      replace h := zc_some h
      obtain ⟨r6, z7, hc8, h⟩ := h
      refine zr_calli (zrun_V (As := [.ref (B 2 x1)]) (rest := [.int ((31 : Int32) * (zgI z 2 9 x1)), .ref (B 2 x1)]) zq_1652 zq_1654 zs_X11_takeByte zq_1655 zq_1 hdX11_takeByte (by decide) (T := TX11) (N := 21) rfl (okX11_takeByte l D cy B ids hst N x0 hx0 x1 hx1 hr.2.2 hc8) F hr hx0 hl.1 rfl (Nat.le_of_ble_eq_true rfl) dX11_settle_41 rfl rfl hroX11_settle_X11_takeByte ⟨Nat.zero_le _, Nat.zero_le _⟩) F hA hr (fun H locs hw9 hr => ?_)
      clear hc8
      refine lv_iadd F.1 F.2.1 dX11_settle_44 ?_
      refine pf11_390 F hx1 hr dX11_settle_45 (((31 : Int32) * (zgI z 2 9 x1)) + r6) (fun H locs z10 ez10 hr => ?_)
      replace h := zl_sub ez10 h
      clear ez10
      obtain ⟨v11, ev11⟩ : ∃ y : Int32, y = (x3 + 1) := ⟨_, rfl⟩
      replace h := zl_sub ev11 h
      refine lv_iinc (v := v11) (lv' := [(3, .int v11), (0, .ref (B 11 x0)), (1, .ref (B 2 x1)), (2, .ref (B 3 a2))]) F.1 F.2.1 dX11_settle_48 hl (k := 3) rfl (by rw [ev11]; rfl) (by decide) rfl (fun ls hl => ?_)
      refine lv_goto (tgt := 14) F.1 F.2.1 dX11_settle_51 (by decide) ?_
      exact hK14 x0 x1 (some a2) v11 hx0 hx1 (zal_s (hx2 _ rfl)) hr (lv_sub hl [1, 2, 3, 0] rfl) h
theorem lX11_settle_14 (hst : zSt B ids) (F : zFx p m c cX11_settle 4 s args RX11 D cy B ids A) (hA : ∀ q : Nat, s.heap.size ≤ q → A q) {r : Int32} {z' : St} (E : zEnd p l e rmX11_settle s m args below meth c cX11_settle D cy B ids A Q none z' .return_ True) {N : Nat}  : ∀ (n : Nat) (x0 : Nat) (x1 : Nat) (x2 : Option Nat) (x3 : Int32) (hx0 : (11, x0) ∈ ids) (hx1 : (2, x1) ∈ ids) (hx2 : ∀ t, x2 = some t → (3, t) ∈ ids) {z : St} {H : Heap} {locs : List Loc} {ls : Array Slot} (hr : zRep D cy B ids A s.heap z H locs) (hl : lv_has ls 4 [(0, .ref (B 11 x0)), (1, .ref (B 2 x1)), (2, va_rf (Option.map (B 3) x2)), (3, .int x3)]), fX11_settle_14 N  n x0 x1 x2 x3 z = some (r, z') → W p l e rmX11_settle s m args below meth c H locs 0 0 Q (F0 m 14 ls []) := by
  intro n
  induction n with
  | zero => intro x0 x1 x2 x3 hx0 hx1 hx2 z H locs ls hr hl h; cases h
  | succ n ih => intro x0 x1 x2 x3 hx0 hx1 hx2 z H locs ls hr hl h; exact bX11_settle_14 hst F hA E ih x0 x1 x2 x3 hx0 hx1 hx2 hr hl h
def fX11_settle (N : Nat)  (x0 : Nat) (x1 : Nat) (z : St) : Option (Int32 × St) := zl (zgR z 2 12 x1) fun y1 => if (zgI z 2 8 x1) = 0 then (fX11_settle_54 N x0 x1 y1 z) else (fX11_settle_14 N N x0 x1 y1 (0 : Int32) z)
set_option maxHeartbeats 4000000 in
set_option maxRecDepth 100000 in
theorem bX11_settle_0 (hst : zSt B ids) (F : zFx p m c cX11_settle 4 s args RX11 D cy B ids A) (hA : ∀ q : Nat, s.heap.size ≤ q → A q) {r : Int32} {z' : St} (E : zEnd p l e rmX11_settle s m args below meth c cX11_settle D cy B ids A Q none z' .return_ True) {N : Nat}  (x0 : Nat) (x1 : Nat) (hx0 : (11, x0) ∈ ids) (hx1 : (2, x1) ∈ ids) {z : St} {H : Heap} {locs : List Loc} {ls : Array Slot} (hr : zRep D cy B ids A s.heap z H locs) (hl : lv_has ls 4 [(0, .ref (B 11 x0)), (1, .ref (B 2 x1))]) (h : fX11_settle N x0 x1 z = some (r, z')) : W p l e rmX11_settle s m args below meth c H locs 0 0 Q (F0 m 0 ls []) := by
  unfold fX11_settle at h
  refine lv_aload_n F.1 F.2.1 dX11_settle_0 rfl (lv_at hl 1 rfl) ?_
  refine gf11_253 F hx1 hr dX11_settle_1 (fun y1 ey1 => ?_)
  replace h := zl_sub ey1 h
  have hy1 := zal_g hr hx1 (j := 12) rfl ey1
  clear ey1
  refine zr_astore_n (lv' := [(2, va_rf (Option.map (B 3) y1)), (0, .ref (B 11 x0)), (1, .ref (B 2 x1))]) F.1 F.2.1 dX11_settle_4 rfl hl (by decide) rfl (fun ls hl => ?_)
  refine lv_aload_n F.1 F.2.1 dX11_settle_5 rfl (lv_at hl 2 rfl) ?_
  refine gf11_387 F hx1 hr dX11_settle_6 ?_
  refine lv_if_eq (tgt := 54) F.1 F.2.1 dX11_settle_9 (by decide) (fun c2 => ?_) (fun c2 => ?_)
  · replace h := zi_t c2 h
    exact bX11_settle_54 hst F hA E  x0 x1 y1 hx0 hx1 hy1 hr (lv_sub hl [1, 2, 0] rfl) h
  · replace h := zi_f c2 h
    refine lv_iconst (v := (0 : Int32)) F.1 F.2.1 dX11_settle_12 (by decide) ?_
    refine lv_istore_n (lv' := [(3, .int (0 : Int32)), (2, va_rf (Option.map (B 3) y1)), (0, .ref (B 11 x0)), (1, .ref (B 2 x1))]) F.1 F.2.1 dX11_settle_13 rfl hl (by decide) (by simp only [List.filter, zrf_cat]; rfl) (fun ls hl => ?_)
    exact lX11_settle_14 hst F hA E  _ x0 x1 y1 (0 : Int32) hx0 hx1 hy1 hr (lv_sub hl [2, 3, 1, 0] rfl) h
end SX11_settle
set_option maxRecDepth 100000 in
theorem okX11_settle (l : Launch) (D : va_G) (cy : Nat → ClassId) (B : Nat → Nat → Nat) (ids : List (Nat × Nat)) (hst : zSt B ids) (N : Nat) (x0 : Nat) (hx0 : (11, x0) ∈ ids) (x1 : Nat) (hx1 : (2, x1) ∈ ids) {z : St} {r : Int32} {z' : St} (hW : zWf ids z) (h : fX11_settle N x0 x1 z = some (r, z')) : zM l yX11_settle (zws yX11_settle cX11_settle 4 none) rmX11_settle D cy B ids [.ref (B 11 x0), .ref (B 2 x1)] none True z z' :=
  zM_of hst hW (by decide +kernel) (Nat.le_of_ble_eq_true rfl) (fun p e s m args below meth c A ls F hA hret hlocks hr hl => bX11_settle_0 hst F hA (zEnd_v F hret hlocks) x0 x1 hx0 hx1 hr hl h)
