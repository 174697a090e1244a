abbrev rmX11_routeFromRouter : Room := { frames := 2, cells := 0, slots := 0, locals := 43 }
theorem hdX11_routeFromRouter : yX11_routeFromRouter.cls ≠ "java/lang/invoke/MethodHandle" ∧ yX11_routeFromRouter.cls ≠ "java/lang/invoke/VarHandle" ∧ (parseMethodDescriptor yX11_routeFromRouter.desc).map (fun d => d.parameters.length) = some 2 := by decide +kernel
theorem hroX11_routeFromRouter_X11_isNetAddress : rmX11_isNetAddress.frames + 1 ≤ rmX11_routeFromRouter.frames ∧ 8 + (3 + 11) + rmX11_isNetAddress.locals ≤ rmX11_routeFromRouter.locals := by decide
theorem hroX11_routeFromRouter_X11_routerOf : rmX11_routerOf.frames + 1 ≤ rmX11_routeFromRouter.frames ∧ 8 + (3 + 11) + rmX11_routerOf.locals ≤ rmX11_routeFromRouter.locals := by decide
theorem hroX11_routeFromRouter_X1_portOn : rmX1_portOn.frames + 1 ≤ rmX11_routeFromRouter.frames ∧ 8 + (3 + 11) + rmX1_portOn.locals ≤ rmX11_routeFromRouter.locals := by decide
section SX11_routeFromRouter
variable {p : Program} {l : Launch} {e : Env} {s : State} {m : MethodId} {args : Array Value} {below : List Frame} {meth : Method} {c : Code} {Q : State → Prop} {D : va_G} {cy : Nat → ClassId} {B : Nat → Nat → Nat} {ids : List (Nat × Nat)} {A : Nat → Prop}
def fX11_routeFromRouter_125 (N : Nat)  (x5 : Nat) (s0 : Option Nat) (z : St) : Option (Int32 × St) := zo s0 (some ((-1 : Int32), z)) fun a2 => some ((((zgI z 8 2 x5) * (8 : Int32)) + (zgI z 8 3 a2)), z)
set_option maxHeartbeats 4000000 in
set_option maxRecDepth 100000 in
theorem bX11_routeFromRouter_125 (hst : zSt B ids) (F : zFx p m c cX11_routeFromRouter 8 s args RX11 D cy B ids A) (hA : ∀ q : Nat, s.heap.size ≤ q → A q) {r : Int32} {z' : St} (E : zEnd p l e rmX11_routeFromRouter s m args below meth c cX11_routeFromRouter D cy B ids A Q (some (.int r)) z' .ireturn True) {N : Nat}  (x5 : Nat) (s0 : Option Nat) (hx5 : (8, x5) ∈ ids) (hs0 : ∀ t, s0 = some t → (8, t) ∈ ids) {z : St} {H : Heap} {locs : List Loc} {ls : Array Slot} (hr : zRep D cy B ids A s.heap z H locs) (hl : lv_has ls 8 [(5, .ref (B 8 x5))]) (h : fX11_routeFromRouter_125 N x5 s0 z = some (r, z')) : W p l e rmX11_routeFromRouter s m args below meth c H locs 0 0 Q (F0 m 125 ls [va_rf (Option.map (B 8) s0)]) := by
  unfold fX11_routeFromRouter_125 at h
  refine zr_astore (lv' := [(7, va_rf (Option.map (B 8) s0)), (5, .ref (B 8 x5))]) F.1 F.2.1 dX11_routeFromRouter_125 hl (by decide) rfl (fun ls hl => ?_)
  refine zr_aload F.1 F.2.1 dX11_routeFromRouter_127 (lv_at hl 0 rfl) ?_
  refine zr_ifnonnull (tgt := 136) F.1 F.2.1 dX11_routeFromRouter_129 (by decide) (fun e1 => ?_) (fun a2 e1 => ?_)
  · replace h := zo_n e1 h
    subst e1
    refine lv_iconst (v := (-1 : Int32)) F.1 F.2.1 dX11_routeFromRouter_132 (by decide) ?_
    refine lv_goto (tgt := 150) F.1 F.2.1 dX11_routeFromRouter_133 (by decide) ?_
    obtain ⟨rfl, rfl⟩ := zret h
    exact E _ _ _ _ dX11_routeFromRouter_150 trivial hr
  · replace h := zo_s e1 h
    subst e1
    refine lv_aload F.1 F.2.1 dX11_routeFromRouter_136 (lv_at hl 1 rfl) ?_
    refine gf11_494 F hx5 hr dX11_routeFromRouter_138 ?_
    refine lv_bipush (v := (8 : Int32)) F.1 F.2.1 dX11_routeFromRouter_141 (by decide) ?_
    refine lv_imul F.1 F.2.1 dX11_routeFromRouter_143 ?_
    refine lv_aload F.1 F.2.1 dX11_routeFromRouter_144 (lv_at hl 0 rfl) ?_
    refine gf11_519 F (hs0 _ rfl) hr dX11_routeFromRouter_146 ?_
    refine lv_iadd F.1 F.2.1 dX11_routeFromRouter_149 ?_
    obtain ⟨rfl, rfl⟩ := zret h
    exact E _ _ _ _ dX11_routeFromRouter_150 trivial hr
def fX11_routeFromRouter (N : Nat)  (x0 : Nat) (x1 : Nat) (x2 : Int32) (z : St) : Option (Int32 × St) := zc (fX11_isNetAddress N x0 x2 z) fun r1 z2 => if ¬ r1 = 0 then (zl ((((x2).toUInt32 >>> (((16 : Int32)).toUInt32 &&& Int32.toUInt32 31)).toInt32) &&& (255 : Int32)) fun v6 => zl (zgR z2 1 10 x1) fun y7 => zd y7 fun a8 => zl (zgR z2 9 12 a8) fun y9 => zd y9 fun a10 => zk v6 24 <| if ¬ (zgA z2 106 a10 (Int32.toNatClampNeg v6)) = (-1 : Int32) then (zk v6 24 <| zc (fX1_portOn N x1 (zgA z2 108 a10 (Int32.toNatClampNeg v6)) z2) fun r14 z15 => zo r14 (some ((-1 : Int32), z15)) fun a19 => zk v6 24 <| if ¬ (zgA z15 107 a10 (Int32.toNatClampNeg v6)) = (zgI z15 1 0 x1) then (zk v6 24 <| zc (fX11_routerOf N x0 (zgA z15 107 a10 (Int32.toNatClampNeg v6)) z15) fun r23 z24 => zo r23 (fX11_routeFromRouter_125 N a19 none z24) fun a28 => zk v6 24 <| zc (fX1_portOn N a28 (zgA z24 108 a10 (Int32.toNatClampNeg v6)) z24) fun r30 z31 => fX11_routeFromRouter_125 N a19 r30 z31) else (some (((((zgI z15 8 2 a19) * (8 : Int32)) + (x2 &&& (65535 : Int32))) - (1 : Int32)), z15))) else (some ((-1 : Int32), z2))) else (some ((-1 : Int32), z2))
set_option maxHeartbeats 4000000 in
set_option maxRecDepth 100000 in
theorem bX11_routeFromRouter_0 (hst : zSt B ids) (F : zFx p m c cX11_routeFromRouter 8 s args RX11 D cy B ids A) (hA : ∀ q : Nat, s.heap.size ≤ q → A q) {r : Int32} {z' : St} (E : zEnd p l e rmX11_routeFromRouter s m args below meth c cX11_routeFromRouter D cy B ids A Q (some (.int r)) z' .ireturn True) {N : Nat}  (x0 : Nat) (x1 : Nat) (x2 : Int32) (hx0 : (11, x0) ∈ ids) (hx1 : (1, x1) ∈ ids) {z : St} {H : Heap} {locs : List Loc} {ls : Array Slot} (hr : zRep D cy B ids A s.heap z H locs) (hl : lv_has ls 8 [(0, .ref (B 11 x0)), (1, .ref (B 1 x1)), (2, .int x2)]) (h : fX11_routeFromRouter N x0 x1 x2 z = some (r, z')) : W p l e rmX11_routeFromRouter s m args below meth c H locs 0 0 Q (F0 m 0 ls []) := by
  unfold fX11_routeFromRouter at h
  refine lv_aload_n F.1 F.2.1 dX11_routeFromRouter_0 rfl (lv_at hl 0 rfl) ?_
  refine lv_iload_n F.1 F.2.1 dX11_routeFromRouter_1 rfl (lv_at hl 2 rfl) ?_
  replace h := zc_some h
  obtain ⟨r1, z2, hc3, h⟩ := h
  refine zr_calli (zrun_V (As := [.int x2]) (rest := []) zq_318 zq_320 zs_X11_isNetAddress zq_321 zq_1 hdX11_isNetAddress (by decide) (T := TX11) (N := 21) rfl (okX11_isNetAddress l D cy B ids hst N x0 hx0 x2  hr.2.2 hc3) F hr hx0 hl.1 rfl (by decide) dX11_routeFromRouter_2 rfl rfl hroX11_routeFromRouter_X11_isNetAddress ⟨Nat.zero_le _, Nat.zero_le _⟩) F hA hr (fun H locs hw4 hr => ?_)
  clear hc3
  refine lv_if_ne (tgt := 10) F.1 F.2.1 dX11_routeFromRouter_5 (by decide) (fun c5 => ?_) (fun c5 => ?_)
  · replace h := zi_t c5 h
    refine lv_iload_n F.1 F.2.1 dX11_routeFromRouter_10 rfl (lv_at hl 2 rfl) ?_
    refine lv_bipush (v := (16 : Int32)) F.1 F.2.1 dX11_routeFromRouter_11 (by decide) ?_
    refine lv_iushr F.1 F.2.1 dX11_routeFromRouter_13 rfl ?_
    refine lv_sipush (v := (255 : Int32)) F.1 F.2.1 dX11_routeFromRouter_14 (by decide) ?_
    refine lv_iand F.1 F.2.1 dX11_routeFromRouter_17 ?_
    refine lv_topi (fun v6 ev6 => ?_)
    replace h := zl_sub ev6 h
    refine lv_istore_n (lv' := [(3, .int v6), (0, .ref (B 11 x0)), (1, .ref (B 1 x1)), (2, .int x2)]) F.1 F.2.1 dX11_routeFromRouter_18 rfl hl (by decide) rfl (fun ls hl => ?_)
    refine lv_aload_n F.1 F.2.1 dX11_routeFromRouter_19 rfl (lv_at hl 2 rfl) ?_
    refine gf11_395 F hx1 hr dX11_routeFromRouter_20 (fun y7 ey7 => ?_)
    replace h := zl_sub ey7 h
    have hy7 := zal_g hr hx1 (j := 10) rfl ey7
    clear ey7
    replace h := zd_some h
    obtain ⟨a8, rfl, h⟩ := h
    refine gf11_399 F (hy7 _ rfl) hr dX11_routeFromRouter_23 (fun y9 ey9 => ?_)
    replace h := zl_sub ey9 h
    have hy9 := zal_g hr (hy7 _ rfl) (j := 12) rfl ey9
    clear ey9
    refine zr_astore (lv' := [(4, va_rf (Option.map (B 0) y9)), (3, .int v6), (0, .ref (B 11 x0)), (1, .ref (B 1 x1)), (2, .int x2)]) F.1 F.2.1 dX11_routeFromRouter_26 hl (by decide) rfl (fun ls hl => ?_)
    refine zr_aload F.1 F.2.1 dX11_routeFromRouter_28 (lv_at hl 0 rfl) ?_
    replace h := zd_some h
    obtain ⟨a10, rfl, h⟩ := h
    refine gf11_405 F (hy9 _ rfl) hr dX11_routeFromRouter_30 ?_
    refine lv_iload_n F.1 F.2.1 dX11_routeFromRouter_33 rfl (lv_at hl 1 rfl) ?_
    replace h := zk_some h
    obtain ⟨c11, h⟩ := h
    refine zr_iald (k := 106) (by decide) rfl (by decide) F (zal_a F (hy9 _ rfl) (j := 10) rfl) hr dX11_routeFromRouter_34 c11 ?_
    refine lv_iconst (v := (-1 : Int32)) F.1 F.2.1 dX11_routeFromRouter_35 (by decide) ?_
    refine lv_icmp_ne (tgt := 41) F.1 F.2.1 dX11_routeFromRouter_36 (by decide) (fun c12 => ?_) (fun c12 => ?_)
    · replace h := zi_t c12 h
      refine lv_aload_n F.1 F.2.1 dX11_routeFromRouter_41 rfl (lv_at hl 3 rfl) ?_
      refine lv_aload F.1 F.2.1 dX11_routeFromRouter_42 (lv_at hl 0 rfl) ?_
      refine gf11_413 F (hy9 _ rfl) hr dX11_routeFromRouter_44 ?_
      refine lv_iload_n F.1 F.2.1 dX11_routeFromRouter_47 rfl (lv_at hl 1 rfl) ?_
      replace h := zk_some h
      obtain ⟨c13, h⟩ := h
      refine zr_iald (k := 108) (by decide) rfl (by decide) F (zal_a F (hy9 _ rfl) (j := 12) rfl) hr dX11_routeFromRouter_48 c13 ?_
      replace h := zc_some h
      obtain ⟨r14, z15, hc16, h⟩ := h
      refine zr_callr (zrun_VN (As := [.int (zgA z2 108 a10 (Int32.toNatClampNeg v6))]) (rest := []) zn_293 zq_295 zs_X1_portOn zq_297 zq_9 hdX1_portOn (by decide) (T := TX1) (N := 13) rfl (okX1_portOn l D cy B ids hst N x1 hx1 (zgA z2 108 a10 (Int32.toNatClampNeg v6))  hr.2.2 hc16) F hr hx1 hl.1 rfl (by decide) dX11_routeFromRouter_49 rfl rfl hroX11_routeFromRouter_X1_portOn ⟨Nat.zero_le _, Nat.zero_le _⟩) F hA hr (fun H locs hw17 hr => ?_)
      clear hc16
      refine zr_astore (lv' := [(5, va_rf (Option.map (B 8) r14)), (4, .ref (B 0 a10)), (3, .int v6), (0, .ref (B 11 x0)), (1, .ref (B 1 x1)), (2, .int x2)]) F.1 F.2.1 dX11_routeFromRouter_52 hl (by decide) rfl (fun ls hl => ?_)
      refine zr_aload F.1 F.2.1 dX11_routeFromRouter_54 (lv_at hl 0 rfl) ?_
      refine zr_ifnonnull (tgt := 61) F.1 F.2.1 dX11_routeFromRouter_56 (by decide) (fun e18 => ?_) (fun a19 e18 => ?_)
      · replace h := zo_n e18 h
        subst e18
        refine lv_iconst (v := (-1 : Int32)) F.1 F.2.1 dX11_routeFromRouter_59 (by decide) ?_
        obtain ⟨rfl, rfl⟩ := zret h
        exact E _ _ _ _ dX11_routeFromRouter_60 trivial hr
      · replace h := zo_s e18 h
        subst e18
        refine lv_aload F.1 F.2.1 dX11_routeFromRouter_61 (lv_at hl 1 rfl) ?_
        refine gf11_410 F (hy9 _ rfl) hr dX11_routeFromRouter_63 ?_
        refine lv_iload_n F.1 F.2.1 dX11_routeFromRouter_66 rfl (lv_at hl 2 rfl) ?_
        replace h := zk_some h
        obtain ⟨c20, h⟩ := h
        refine zr_iald (k := 107) (by decide) rfl (by decide) F (zal_a F (hy9 _ rfl) (j := 11) rfl) hr dX11_routeFromRouter_67 c20 ?_
        refine lv_aload_n F.1 F.2.1 dX11_routeFromRouter_68 rfl (lv_at hl 4 rfl) ?_
        refine gf11_484 F hx1 hr dX11_routeFromRouter_69 ?_
        refine lv_icmp_ne (tgt := 91) F.1 F.2.1 dX11_routeFromRouter_72 (by decide) (fun c21 => ?_) (fun c21 => ?_)
        · replace h := zi_t c21 h
          refine lv_aload_n F.1 F.2.1 dX11_routeFromRouter_91 rfl (lv_at hl 3 rfl) ?_
          refine lv_aload F.1 F.2.1 dX11_routeFromRouter_92 (lv_at hl 1 rfl) ?_
          refine gf11_410 F (hy9 _ rfl) hr dX11_routeFromRouter_94 ?_
          refine lv_iload_n F.1 F.2.1 dX11_routeFromRouter_97 rfl (lv_at hl 2 rfl) ?_
          replace h := zk_some h
          obtain ⟨c22, h⟩ := h
          refine zr_iald (k := 107) (by decide) rfl (by decide) F (zal_a F (hy9 _ rfl) (j := 11) rfl) hr dX11_routeFromRouter_98 c22 ?_
          replace h := zc_some h
          obtain ⟨r23, z24, hc25, h⟩ := h
          refine zr_callr (zrun_V (As := [.int (zgA z15 107 a10 (Int32.toNatClampNeg v6))]) (rest := []) zq_985 zq_987 zs_X11_routerOf zq_988 zq_1 hdX11_routerOf (by decide) (T := TX11) (N := 21) rfl (okX11_routerOf l D cy B ids hst N x0 hx0 (zgA z15 107 a10 (Int32.toNatClampNeg v6))  hr.2.2 hc25) F hr hx0 hl.1 rfl (by decide) dX11_routeFromRouter_99 rfl rfl hroX11_routeFromRouter_X11_routerOf ⟨Nat.zero_le _, Nat.zero_le _⟩) F hA hr (fun H locs hw26 hr => ?_)
          clear hc25
          refine zr_astore (lv' := [(6, va_rf (Option.map (B 1) r23)), (5, .ref (B 8 a19)), (4, .ref (B 0 a10)), (3, .int v6), (0, .ref (B 11 x0)), (1, .ref (B 1 x1)), (2, .int x2)]) F.1 F.2.1 dX11_routeFromRouter_102 hl (by decide) rfl (fun ls hl => ?_)
          refine zr_aload F.1 F.2.1 dX11_routeFromRouter_104 (lv_at hl 0 rfl) ?_
          refine zr_ifnonnull (tgt := 113) F.1 F.2.1 dX11_routeFromRouter_106 (by decide) (fun e27 => ?_) (fun a28 e27 => ?_)
          · replace h := zo_n e27 h
            subst e27
            refine lv_null F.1 F.2.1 dX11_routeFromRouter_109 ?_
            refine lv_goto (tgt := 125) F.1 F.2.1 dX11_routeFromRouter_110 (by decide) ?_
            exact bX11_routeFromRouter_125 hst F hA E  a19 none (hw17 _ rfl) zal_0 hr (lv_sub hl [1] rfl) h
          · replace h := zo_s e27 h
            subst e27
            refine lv_aload F.1 F.2.1 dX11_routeFromRouter_113 (lv_at hl 0 rfl) ?_
            refine lv_aload F.1 F.2.1 dX11_routeFromRouter_115 (lv_at hl 2 rfl) ?_
            refine gf11_413 F (hy9 _ rfl) hr dX11_routeFromRouter_117 ?_
            refine lv_iload_n F.1 F.2.1 dX11_routeFromRouter_120 rfl (lv_at hl 3 rfl) ?_
            replace h := zk_some h
            obtain ⟨c29, h⟩ := h
            refine zr_iald (k := 108) (by decide) rfl (by decide) F (zal_a F (hy9 _ rfl) (j := 12) rfl) hr dX11_routeFromRouter_121 c29 ?_
            replace h := zc_some h
            obtain ⟨r30, z31, hc32, h⟩ := h
            refine zr_callr (zrun_VN (As := [.int (zgA z24 108 a10 (Int32.toNatClampNeg v6))]) (rest := []) zn_293 zq_295 zs_X1_portOn zq_297 zq_9 hdX1_portOn (by decide) (T := TX1) (N := 13) rfl (okX1_portOn l D cy B ids hst N a28 (hw26 _ rfl) (zgA z24 108 a10 (Int32.toNatClampNeg v6))  hr.2.2 hc32) F hr (hw26 _ rfl) hl.1 rfl (by decide) dX11_routeFromRouter_122 rfl rfl hroX11_routeFromRouter_X1_portOn ⟨Nat.zero_le _, Nat.zero_le _⟩) F hA hr (fun H locs hw33 hr => ?_)
            clear hc32
            exact bX11_routeFromRouter_125 hst F hA E  a19 r30 (hw17 _ rfl) hw33 hr (lv_sub hl [1] rfl) h
        · replace h := zi_f (fun q => q c21) h
          refine lv_aload F.1 F.2.1 dX11_routeFromRouter_75 (lv_at hl 0 rfl) ?_
          refine gf11_494 F (hw17 _ rfl) hr dX11_routeFromRouter_77 ?_
          refine lv_bipush (v := (8 : Int32)) F.1 F.2.1 dX11_routeFromRouter_80 (by decide) ?_
          refine lv_imul F.1 F.2.1 dX11_routeFromRouter_82 ?_
          refine lv_iload_n F.1 F.2.1 dX11_routeFromRouter_83 rfl (lv_at hl 5 rfl) ?_
          refine lv_ldc (v := (65535)) F.1 F.2.1 F.2.2.2.1 (F.2.2.2.2.1 _ zq_322) dX11_routeFromRouter_84 ?_
          refine lv_iand F.1 F.2.1 dX11_routeFromRouter_86 ?_
          refine lv_iadd F.1 F.2.1 dX11_routeFromRouter_87 ?_
          refine lv_iconst (v := (1 : Int32)) F.1 F.2.1 dX11_routeFromRouter_88 (by decide) ?_
          refine lv_isub F.1 F.2.1 dX11_routeFromRouter_89 ?_
          obtain ⟨rfl, rfl⟩ := zret h
          exact E _ _ _ _ dX11_routeFromRouter_90 trivial hr
    · replace h := zi_f (fun q => q c12) h
      refine lv_iconst (v := (-1 : Int32)) F.1 F.2.1 dX11_routeFromRouter_39 (by decide) ?_
      obtain ⟨rfl, rfl⟩ := zret h
      exact E _ _ _ _ dX11_routeFromRouter_40 trivial hr
  · replace h := zi_f (fun q => q c5) h
    refine lv_iconst (v := (-1 : Int32)) F.1 F.2.1 dX11_routeFromRouter_8 (by decide) ?_
    obtain ⟨rfl, rfl⟩ := zret h
    exact E _ _ _ _ dX11_routeFromRouter_9 trivial hr
end SX11_routeFromRouter
set_option maxRecDepth 100000 in
theorem okX11_routeFromRouter (l : Launch) (D : va_G) (cy : Nat → ClassId) (B : Nat → Nat → Nat) (ids : List (Nat × Nat)) (hst : zSt B ids) (N : Nat) (x0 : Nat) (hx0 : (11, x0) ∈ ids) (x1 : Nat) (hx1 : (1, x1) ∈ ids) (x2 : Int32) {z : St} {r : Int32} {z' : St} (hW : zWf ids z) (h : fX11_routeFromRouter N x0 x1 x2 z = some (r, z')) : zM l yX11_routeFromRouter (zws yX11_routeFromRouter cX11_routeFromRouter 8 (some .int)) rmX11_routeFromRouter D cy B ids [.ref (B 11 x0), .ref (B 1 x1), .int x2] (some (.int r)) True z z' :=
  zM_of hst hW (by decide +kernel) (Nat.le_of_ble_eq_true rfl) (fun p e s m args below meth c A ls F hA hret hlocks hr hl => bX11_routeFromRouter_0 hst F hA (zEnd_i F hret hlocks) x0 x1 x2 hx0 hx1 hr hl h)
abbrev rmX11_forward : Room := { frames := 5, cells := 0, slots := 0, locals := 164 }
theorem hdX11_forward : yX11_forward.cls ≠ "java/lang/invoke/MethodHandle" ∧ yX11_forward.cls ≠ "java/lang/invoke/VarHandle" ∧ (parseMethodDescriptor yX11_forward.desc).map (fun d => d.parameters.length) = some 2 := by decide +kernel
theorem hroX11_forward_X11_comeBack : rmX11_comeBack.frames + 1 ≤ rmX11_forward.frames ∧ 8 + (5 + 11) + rmX11_comeBack.locals ≤ rmX11_forward.locals := by decide
theorem hroX11_forward_X11_hand : rmX11_hand.frames + 1 ≤ rmX11_forward.frames ∧ 8 + (5 + 11) + rmX11_hand.locals ≤ rmX11_forward.locals := by decide
theorem hroX11_forward_X11_routeFromRouter : rmX11_routeFromRouter.frames + 1 ≤ rmX11_forward.frames ∧ 8 + (8 + 11) + rmX11_routeFromRouter.locals ≤ rmX11_forward.locals := by decide
section SX11_forward
variable {p : Program} {l : Launch} {e : Env} {s : State} {m : MethodId} {args : Array Value} {below : List Frame} {meth : Method} {c : Code} {Q : State → Prop} {D : va_G} {cy : Nat → ClassId} {B : Nat → Nat → Nat} {ids : List (Nat × Nat)} {A : Nat → Prop}
def fX11_forward (N : Nat)  (x0 : Nat) (x1 : Nat) (x2 : Nat) (z : St) : Option (Int32 × St) := zl (zgR z 8 0 x1) fun y1 => zl (zsI z 7 10 x2 (zgI z 8 2 x1)) fun z2 => zl (zsI z2 7 4 x2 ((zgI z2 7 4 x2) - (1 : Int32))) fun z3 => if 0 < (zgI z3 7 4 x2) then (zd y1 fun a5 => zc (fX11_routeFromRouter N x0 a5 (zgI z3 7 1 x2) z3) fun r6 z7 => if 0 ≤ r6 then (zk (4 : Int32) 8 <| zk (4 : Int32) 8 <| zl (zsA z7 113 a5 (Int32.toNatClampNeg (4 : Int32)) ((zgA z7 113 a5 (Int32.toNatClampNeg (4 : Int32))) + (1 : Int32))) fun z13 => zk (r6 >>> ((3 : Int32) &&& 31)) 6 <| zl (zgQ z13 112 a5 (Int32.toNatClampNeg (r6 >>> ((3 : Int32) &&& 31)))) fun y15 => zd y15 fun a16 => zc (fX11_hand N x0 a16 (r6 &&& (7 : Int32)) x2 z13) fun _ z18 => some (0, z18)) else (zc (fX11_comeBack N x0 a5 x2 (1 : Int32) z7) fun _ z22 => some (0, z22))) else (zd y1 fun a25 => zc (fX11_comeBack N x0 a25 x2 (2 : Int32) z3) fun _ z27 => some (0, z27))
set_option maxHeartbeats 4000000 in
set_option maxRecDepth 100000 in
theorem bX11_forward_0 (hst : zSt B ids) (F : zFx p m c cX11_forward 5 s args RX11 D cy B ids A) (hA : ∀ q : Nat, s.heap.size ≤ q → A q) {r : Int32} {z' : St} (E : zEnd p l e rmX11_forward s m args below meth c cX11_forward D cy B ids A Q none z' .return_ True) {N : Nat}  (x0 : Nat) (x1 : Nat) (x2 : Nat) (hx0 : (11, x0) ∈ ids) (hx1 : (8, x1) ∈ ids) (hx2 : (7, x2) ∈ ids) {z : St} {H : Heap} {locs : List Loc} {ls : Array Slot} (hr : zRep D cy B ids A s.heap z H locs) (hl : lv_has ls 5 [(0, .ref (B 11 x0)), (1, .ref (B 8 x1)), (2, .ref (B 7 x2))]) (h : fX11_forward N x0 x1 x2 z = some (r, z')) : W p l e rmX11_forward s m args below meth c H locs 0 0 Q (F0 m 0 ls []) := by
  unfold fX11_forward at h
  refine lv_aload_n F.1 F.2.1 dX11_forward_0 rfl (lv_at hl 1 rfl) ?_
  refine gf11_474 F hx1 hr dX11_forward_1 (fun y1 ey1 => ?_)
  replace h := zl_sub ey1 h
  have hy1 := zal_g hr hx1 (j := 0) rfl ey1
  clear ey1
  refine zr_astore_n (lv' := [(3, va_rf (Option.map (B 1) y1)), (0, .ref (B 11 x0)), (1, .ref (B 8 x1)), (2, .ref (B 7 x2))]) F.1 F.2.1 dX11_forward_4 rfl hl (by decide) rfl (fun ls hl => ?_)
  refine lv_aload_n F.1 F.2.1 dX11_forward_5 rfl (lv_at hl 3 rfl) ?_
  refine lv_aload_n F.1 F.2.1 dX11_forward_6 rfl (lv_at hl 2 rfl) ?_
  refine gf11_494 F hx1 hr dX11_forward_7 ?_
  refine pf11_655 F hx2 hr dX11_forward_10 (zgI z 8 2 x1) (fun H locs z2 ez2 hr => ?_)
  replace h := zl_sub ez2 h
  clear ez2
  refine lv_aload_n F.1 F.2.1 dX11_forward_13 rfl (lv_at hl 3 rfl) ?_
  refine lv_dup F.1 F.2.1 dX11_forward_14 rfl ?_
  refine gf11_658 F hx2 hr dX11_forward_15 ?_
  refine lv_iconst (v := (1 : Int32)) F.1 F.2.1 dX11_forward_18 (by decide) ?_
  refine lv_isub F.1 F.2.1 dX11_forward_19 ?_
  refine pf11_658 F hx2 hr dX11_forward_20 ((zgI z2 7 4 x2) - (1 : Int32)) (fun H locs z3 ez3 hr => ?_)
  replace h := zl_sub ez3 h
  clear ez3
  refine lv_aload_n F.1 F.2.1 dX11_forward_23 rfl (lv_at hl 3 rfl) ?_
  refine gf11_658 F hx2 hr dX11_forward_24 ?_
  refine lv_if_gt (tgt := 38) F.1 F.2.1 dX11_forward_27 (by decide) (fun c4 => ?_) (fun c4 => ?_)
  · replace h := zi_t c4 h
    refine lv_aload_n F.1 F.2.1 dX11_forward_38 rfl (lv_at hl 1 rfl) ?_
    refine zr_aload_n F.1 F.2.1 dX11_forward_39 rfl (lv_at hl 0 rfl) ?_
    refine lv_aload_n F.1 F.2.1 dX11_forward_40 rfl (lv_at hl 3 rfl) ?_
    refine gf11_538 F hx2 hr dX11_forward_41 ?_
    replace h := zd_some h
    obtain ⟨a5, rfl, h⟩ := h
    replace h := zc_some h
    obtain ⟨r6, z7, hc8, h⟩ := h
    refine zr_calli (zrun_V (As := [.ref (B 1 a5), .int (zgI z3 7 1 x2)]) (rest := []) zq_1427 zq_1429 zs_X11_routeFromRouter zq_1430 zq_1 hdX11_routeFromRouter (by decide) (T := TX11) (N := 21) rfl (okX11_routeFromRouter l D cy B ids hst N x0 hx0 a5 (hy1 _ rfl) (zgI z3 7 1 x2)  hr.2.2 hc8) F hr hx0 hl.1 rfl (by decide) dX11_forward_44 rfl rfl hroX11_forward_X11_routeFromRouter ⟨Nat.zero_le _, Nat.zero_le _⟩) F hA hr (fun H locs hw9 hr => ?_)
    clear hc8
    refine lv_istore (lv' := [(4, .int r6), (3, .ref (B 1 a5)), (0, .ref (B 11 x0)), (1, .ref (B 8 x1)), (2, .ref (B 7 x2))]) F.1 F.2.1 dX11_forward_47 hl (by decide) rfl (fun ls hl => ?_)
    refine lv_iload F.1 F.2.1 dX11_forward_49 (lv_at hl 0 rfl) ?_
    refine lv_if_ge (tgt := 62) F.1 F.2.1 dX11_forward_51 (by decide) (fun c10 => ?_) (fun c10 => ?_)
    · replace h := zi_t c10 h
      refine lv_aload_n F.1 F.2.1 dX11_forward_62 rfl (lv_at hl 1 rfl) ?_
      refine gf11_439 F (hy1 _ rfl) hr dX11_forward_63 ?_
      refine lv_iconst (v := (4 : Int32)) F.1 F.2.1 dX11_forward_66 (by decide) ?_
      refine lv_dup2_11 F.1 F.2.1 dX11_forward_67 rfl rfl ?_
      replace h := zk_some h
      obtain ⟨c11, h⟩ := h
      refine zr_iald (k := 113) (by decide) rfl (by decide) F (zal_a F (hy1 _ rfl) (j := 4) rfl) hr dX11_forward_68 c11 ?_
      refine lv_iconst (v := (1 : Int32)) F.1 F.2.1 dX11_forward_69 (by decide) ?_
      refine lv_iadd F.1 F.2.1 dX11_forward_70 ?_
      replace h := zk_some h
      obtain ⟨c12, h⟩ := h
      refine zr_iast (k := 113) (by decide) rfl (by decide) F (zal_a F (hy1 _ rfl) (j := 4) rfl) hr dX11_forward_71 c12 (fun H locs z13 ez13 hr => ?_)
      replace h := zl_sub ez13 h
      clear ez13
      refine lv_aload_n F.1 F.2.1 dX11_forward_72 rfl (lv_at hl 2 rfl) ?_
      refine lv_aload_n F.1 F.2.1 dX11_forward_73 rfl (lv_at hl 1 rfl) ?_
      refine gf11_134 F (hy1 _ rfl) hr dX11_forward_74 ?_
      refine lv_iload F.1 F.2.1 dX11_forward_77 (lv_at hl 0 rfl) ?_
      refine lv_iconst (v := (3 : Int32)) F.1 F.2.1 dX11_forward_79 (by decide) ?_
      refine lv_ishr F.1 F.2.1 dX11_forward_80 ?_
      replace h := zk_some h
      obtain ⟨c14, h⟩ := h
      refine zr_aaldv (k := 112) (by decide) rfl rfl (zlen_d (by decide)) F (zal_a F (hy1 _ rfl) (j := 2) rfl) hr dX11_forward_81 c14 (fun y15 ey15 => ?_)
      replace h := zl_sub ey15 h
      have hy15 := zal_q hr (zal_a F (hy1 _ rfl) (j := 2) rfl) rfl ey15
      clear ey15
      refine lv_iload F.1 F.2.1 dX11_forward_82 (lv_at hl 0 rfl) ?_
      refine lv_bipush (v := (7 : Int32)) F.1 F.2.1 dX11_forward_84 (by decide) ?_
      refine lv_iand F.1 F.2.1 dX11_forward_86 ?_
      refine lv_aload_n F.1 F.2.1 dX11_forward_87 rfl (lv_at hl 4 rfl) ?_
      replace h := zd_some h
      obtain ⟨a16, rfl, h⟩ := h
      replace h := zc_some h
      obtain ⟨r17, z18, hc19, h⟩ := h
      refine zr_callv (zrun_V (As := [.ref (B 8 a16), .int (r6 &&& (7 : Int32)), .ref (B 7 x2)]) (rest := []) zq_1431 zq_1433 zs_X11_hand zq_1434 zq_1 hdX11_hand (by decide) (T := TX11) (N := 21) rfl (okX11_hand l D cy B ids hst N x0 hx0 a16 (hy15 _ rfl) (r6 &&& (7 : Int32))  x2 hx2 hr.2.2 hc19) F hr hx0 hl.1 rfl (by decide) dX11_forward_88 rfl rfl hroX11_forward_X11_hand ⟨Nat.zero_le _, Nat.zero_le _⟩) F hA hr (fun H locs hw20 hr => ?_)
      clear hc19
      obtain ⟨rfl, rfl⟩ := zret h
      exact E _ _ _ _ dX11_forward_91 trivial hr
    · replace h := zi_f c10 h
      refine lv_aload_n F.1 F.2.1 dX11_forward_54 rfl (lv_at hl 2 rfl) ?_
      refine lv_aload_n F.1 F.2.1 dX11_forward_55 rfl (lv_at hl 1 rfl) ?_
      refine lv_aload_n F.1 F.2.1 dX11_forward_56 rfl (lv_at hl 4 rfl) ?_
      refine lv_iconst (v := (1 : Int32)) F.1 F.2.1 dX11_forward_57 (by decide) ?_
      replace h := zc_some h
      obtain ⟨r21, z22, hc23, h⟩ := h
      refine zr_callv (zrun_V (As := [.ref (B 1 a5), .ref (B 7 x2), .int (1 : Int32)]) (rest := []) zq_1422 zq_1424 zs_X11_comeBack zq_1425 zq_1 hdX11_comeBack (by decide) (T := TX11) (N := 21) rfl (okX11_comeBack l D cy B ids hst N x0 hx0 a5 (hy1 _ rfl) x2 hx2 (1 : Int32)  hr.2.2 hc23) F hr hx0 hl.1 rfl (by decide) dX11_forward_58 rfl rfl hroX11_forward_X11_comeBack ⟨Nat.zero_le _, Nat.zero_le _⟩) F hA hr (fun H locs hw24 hr => ?_)
      clear hc23
      obtain ⟨rfl, rfl⟩ := zret h
      exact E _ _ _ _ dX11_forward_61 trivial hr
  · replace h := zi_f c4 h
    refine lv_aload_n F.1 F.2.1 dX11_forward_30 rfl (lv_at hl 1 rfl) ?_
    refine zr_aload_n F.1 F.2.1 dX11_forward_31 rfl (lv_at hl 0 rfl) ?_
    refine lv_aload_n F.1 F.2.1 dX11_forward_32 rfl (lv_at hl 3 rfl) ?_
    refine lv_iconst (v := (2 : Int32)) F.1 F.2.1 dX11_forward_33 (by decide) ?_
    replace h := zd_some h
    obtain ⟨a25, rfl, h⟩ := h
    replace h := zc_some h
    obtain ⟨r26, z27, hc28, h⟩ := h
    refine zr_callv (zrun_V (As := [.ref (B 1 a25), .ref (B 7 x2), .int (2 : Int32)]) (rest := []) zq_1422 zq_1424 zs_X11_comeBack zq_1425 zq_1 hdX11_comeBack (by decide) (T := TX11) (N := 21) rfl (okX11_comeBack l D cy B ids hst N x0 hx0 a25 (hy1 _ rfl) x2 hx2 (2 : Int32)  hr.2.2 hc28) F hr hx0 hl.1 rfl (by decide) dX11_forward_34 rfl rfl hroX11_forward_X11_comeBack ⟨Nat.zero_le _, Nat.zero_le _⟩) F hA hr (fun H locs hw29 hr => ?_)
    clear hc28
    obtain ⟨rfl, rfl⟩ := zret h
    exact E _ _ _ _ dX11_forward_37 trivial hr
end SX11_forward
set_option maxRecDepth 100000 in
theorem okX11_forward (l : Launch) (D : va_G) (cy : Nat → ClassId) (B : Nat → Nat → Nat) (ids : List (Nat × Nat)) (hst : zSt B ids) (N : Nat) (x0 : Nat) (hx0 : (11, x0) ∈ ids) (x1 : Nat) (hx1 : (8, x1) ∈ ids) (x2 : Nat) (hx2 : (7, x2) ∈ ids) {z : St} {r : Int32} {z' : St} (hW : zWf ids z) (h : fX11_forward N x0 x1 x2 z = some (r, z')) : zM l yX11_forward (zws yX11_forward cX11_forward 5 none) rmX11_forward D cy B ids [.ref (B 11 x0), .ref (B 8 x1), .ref (B 7 x2)] none True z z' :=
  zM_of hst hW (by decide +kernel) (Nat.le_of_ble_eq_true rfl) (fun p e s m args below meth c A ls F hA hret hlocks hr hl => bX11_forward_0 hst F hA (zEnd_v F hret hlocks) x0 x1 x2 hx0 hx1 hx2 hr hl h)
abbrev rmX11_routeFromHost : Room := { frames := 1, cells := 0, slots := 0, locals := 22 }
theorem hdX11_routeFromHost : yX11_routeFromHost.cls ≠ "java/lang/invoke/MethodHandle" ∧ yX11_routeFromHost.cls ≠ "java/lang/invoke/VarHandle" ∧ (parseMethodDescriptor yX11_routeFromHost.desc).map (fun d => d.parameters.length) = some 2 := by decide +kernel
theorem hroX11_routeFromHost_X11_isNetAddress : rmX11_isNetAddress.frames + 1 ≤ rmX11_routeFromHost.frames ∧ 8 + (3 + 11) + rmX11_isNetAddress.locals ≤ rmX11_routeFromHost.locals := by decide
theorem hroX11_routeFromHost_X5_leastRouter : rmX5_leastRouter.frames + 1 ≤ rmX11_routeFromHost.frames ∧ 8 + (2 + 11) + rmX5_leastRouter.locals ≤ rmX11_routeFromHost.locals := by decide
section SX11_routeFromHost
variable {p : Program} {l : Launch} {e : Env} {s : State} {m : MethodId} {args : Array Value} {below : List Frame} {meth : Method} {c : Code} {Q : State → Prop} {D : va_G} {cy : Nat → ClassId} {B : Nat → Nat → Nat} {ids : List (Nat × Nat)} {A : Nat → Prop}
def fX11_routeFromHost (N : Nat)  (x0 : Nat) (x1 : Nat) (x2 : Int32) (z : St) : Option (Int32 × St) := zk (0 : Int32) 6 <| zl (zgQ z 112 x1 (Int32.toNatClampNeg (0 : Int32))) fun y2 => zo y2 (some ((-1 : Int32), z)) fun a4 => if (((x2).toUInt32 >>> (((16 : Int32)).toUInt32 &&& Int32.toUInt32 31)).toInt32) = ((((zgI z 8 4 a4)).toUInt32 >>> (((16 : Int32)).toUInt32 &&& Int32.toUInt32 31)).toInt32) then (zc (fX11_isNetAddress N x0 x2 z) fun r6 z7 => if r6 = 0 then (some ((-1 : Int32), z7)) else (some (((x2 &&& (65535 : Int32)) - (1 : Int32)), z7))) else (zl (zgR z 8 1 a4) fun y11 => zd y11 fun a12 => zc (fX5_leastRouter N a12 z) fun r13 z14 => some (r13, z14))
set_option maxHeartbeats 4000000 in
set_option maxRecDepth 100000 in
theorem bX11_routeFromHost_0 (hst : zSt B ids) (F : zFx p m c cX11_routeFromHost 4 s args RX11 D cy B ids A) (hA : ∀ q : Nat, s.heap.size ≤ q → A q) {r : Int32} {z' : St} (E : zEnd p l e rmX11_routeFromHost s m args below meth c cX11_routeFromHost D cy B ids A Q (some (.int r)) z' .ireturn True) {N : Nat}  (x0 : Nat) (x1 : Nat) (x2 : Int32) (hx0 : (11, x0) ∈ ids) (hx1 : (1, x1) ∈ ids) {z : St} {H : Heap} {locs : List Loc} {ls : Array Slot} (hr : zRep D cy B ids A s.heap z H locs) (hl : lv_has ls 4 [(0, .ref (B 11 x0)), (1, .ref (B 1 x1)), (2, .int x2)]) (h : fX11_routeFromHost N x0 x1 x2 z = some (r, z')) : W p l e rmX11_routeFromHost s m args below meth c H locs 0 0 Q (F0 m 0 ls []) := by
  unfold fX11_routeFromHost at h
  refine lv_aload_n F.1 F.2.1 dX11_routeFromHost_0 rfl (lv_at hl 1 rfl) ?_
  refine gf11_134 F hx1 hr dX11_routeFromHost_1 ?_
  refine lv_iconst (v := (0 : Int32)) F.1 F.2.1 dX11_routeFromHost_4 (by decide) ?_
  replace h := zk_some h
  obtain ⟨c1, h⟩ := h
  refine zr_aaldv (k := 112) (by decide) rfl rfl (zlen_d (by decide)) F (zal_a F hx1 (j := 2) rfl) hr dX11_routeFromHost_5 c1 (fun y2 ey2 => ?_)
  replace h := zl_sub ey2 h
  have hy2 := zal_q hr (zal_a F hx1 (j := 2) rfl) rfl ey2
  clear ey2
  refine zr_astore_n (lv' := [(3, va_rf (Option.map (B 8) y2)), (0, .ref (B 11 x0)), (1, .ref (B 1 x1)), (2, .int x2)]) F.1 F.2.1 dX11_routeFromHost_6 rfl hl (by decide) rfl (fun ls hl => ?_)
  refine zr_aload_n F.1 F.2.1 dX11_routeFromHost_7 rfl (lv_at hl 0 rfl) ?_
  refine zr_ifnonnull (tgt := 13) F.1 F.2.1 dX11_routeFromHost_8 (by decide) (fun e3 => ?_) (fun a4 e3 => ?_)
  · replace h := zo_n e3 h
    subst e3
    refine lv_iconst (v := (-1 : Int32)) F.1 F.2.1 dX11_routeFromHost_11 (by decide) ?_
    obtain ⟨rfl, rfl⟩ := zret h
    exact E _ _ _ _ dX11_routeFromHost_12 trivial hr
  · replace h := zo_s e3 h
    subst e3
    refine lv_iload_n F.1 F.2.1 dX11_routeFromHost_13 rfl (lv_at hl 3 rfl) ?_
    refine lv_bipush (v := (16 : Int32)) F.1 F.2.1 dX11_routeFromHost_14 (by decide) ?_
    refine lv_iushr F.1 F.2.1 dX11_routeFromHost_16 rfl ?_
    refine lv_aload_n F.1 F.2.1 dX11_routeFromHost_17 rfl (lv_at hl 0 rfl) ?_
    refine gf11_141 F (hy2 _ rfl) hr dX11_routeFromHost_18 ?_
    refine lv_bipush (v := (16 : Int32)) F.1 F.2.1 dX11_routeFromHost_21 (by decide) ?_
    refine lv_iushr F.1 F.2.1 dX11_routeFromHost_23 rfl ?_
    refine lv_icmp_eq (tgt := 35) F.1 F.2.1 dX11_routeFromHost_24 (by decide) (fun c5 => ?_) (fun c5 => ?_)
    · replace h := zi_t c5 h
      refine lv_aload_n F.1 F.2.1 dX11_routeFromHost_35 rfl (lv_at hl 1 rfl) ?_
      refine lv_iload_n F.1 F.2.1 dX11_routeFromHost_36 rfl (lv_at hl 3 rfl) ?_
      replace h := zc_some h
      obtain ⟨r6, z7, hc8, h⟩ := h
      refine zr_calli (zrun_V (As := [.int x2]) (rest := []) zq_318 zq_320 zs_X11_isNetAddress zq_321 zq_1 hdX11_isNetAddress (by decide) (T := TX11) (N := 21) rfl (okX11_isNetAddress l D cy B ids hst N x0 hx0 x2  hr.2.2 hc8) F hr hx0 hl.1 rfl (by decide) dX11_routeFromHost_37 rfl rfl hroX11_routeFromHost_X11_isNetAddress ⟨Nat.zero_le _, Nat.zero_le _⟩) F hA hr (fun H locs hw9 hr => ?_)
      clear hc8
      refine lv_if_eq (tgt := 52) F.1 F.2.1 dX11_routeFromHost_40 (by decide) (fun c10 => ?_) (fun c10 => ?_)
      · replace h := zi_t c10 h
        refine lv_iconst (v := (-1 : Int32)) F.1 F.2.1 dX11_routeFromHost_52 (by decide) ?_
        obtain ⟨rfl, rfl⟩ := zret h
        exact E _ _ _ _ dX11_routeFromHost_53 trivial hr
      · replace h := zi_f c10 h
        refine lv_iload_n F.1 F.2.1 dX11_routeFromHost_43 rfl (lv_at hl 3 rfl) ?_
        refine lv_ldc (v := (65535)) F.1 F.2.1 F.2.2.2.1 (F.2.2.2.2.1 _ zq_322) dX11_routeFromHost_44 ?_
        refine lv_iand F.1 F.2.1 dX11_routeFromHost_46 ?_
        refine lv_iconst (v := (1 : Int32)) F.1 F.2.1 dX11_routeFromHost_47 (by decide) ?_
        refine lv_isub F.1 F.2.1 dX11_routeFromHost_48 ?_
        refine lv_goto (tgt := 53) F.1 F.2.1 dX11_routeFromHost_49 (by decide) ?_
        obtain ⟨rfl, rfl⟩ := zret h
        exact E _ _ _ _ dX11_routeFromHost_53 trivial hr
    · replace h := zi_f c5 h
      refine lv_aload_n F.1 F.2.1 dX11_routeFromHost_27 rfl (lv_at hl 0 rfl) ?_
      refine gf11_261 F (hy2 _ rfl) hr dX11_routeFromHost_28 (fun y11 ey11 => ?_)
      replace h := zl_sub ey11 h
      have hy11 := zal_g hr (hy2 _ rfl) (j := 1) rfl ey11
      clear ey11
      replace h := zd_some h
      obtain ⟨a12, rfl, h⟩ := h
      replace h := zc_some h
      obtain ⟨r13, z14, hc15, h⟩ := h
      refine zr_calli (zrun_VN (As := []) (rest := []) zn_1461 zq_1463 zs_X5_leastRouter zq_1464 zq_3 hdX5_leastRouter (by decide) (T := TX5) (N := 11) rfl (okX5_leastRouter l D cy B ids hst N a12 (hy11 _ rfl) hr.2.2 hc15) F hr (hy11 _ rfl) hl.1 rfl (by decide) dX11_routeFromHost_31 rfl rfl hroX11_routeFromHost_X5_leastRouter ⟨Nat.zero_le _, Nat.zero_le _⟩) F hA hr (fun H locs hw16 hr => ?_)
      clear hc15
      obtain ⟨rfl, rfl⟩ := zret h
      exact E _ _ _ _ dX11_routeFromHost_34 trivial hr
end SX11_routeFromHost
set_option maxRecDepth 100000 in
theorem okX11_routeFromHost (l : Launch) (D : va_G) (cy : Nat → ClassId) (B : Nat → Nat → Nat) (ids : List (Nat × Nat)) (hst : zSt B ids) (N : Nat) (x0 : Nat) (hx0 : (11, x0) ∈ ids) (x1 : Nat) (hx1 : (1, x1) ∈ ids) (x2 : Int32) {z : St} {r : Int32} {z' : St} (hW : zWf ids z) (h : fX11_routeFromHost N x0 x1 x2 z = some (r, z')) : zM l yX11_routeFromHost (zws yX11_routeFromHost cX11_routeFromHost 4 (some .int)) rmX11_routeFromHost D cy B ids [.ref (B 11 x0), .ref (B 1 x1), .int x2] (some (.int r)) True z z' :=
  zM_of hst hW (by decide +kernel) (Nat.le_of_ble_eq_true rfl) (fun p e s m args below meth c A ls F hA hret hlocks hr hl => bX11_routeFromHost_0 hst F hA (zEnd_i F hret hlocks) x0 x1 x2 hx0 hx1 hr hl h)
abbrev rmX11_sendOff : Room := { frames := 5, cells := 0, slots := 0, locals := 164 }
theorem hdX11_sendOff : yX11_sendOff.cls ≠ "java/lang/invoke/MethodHandle" ∧ yX11_sendOff.cls ≠ "java/lang/invoke/VarHandle" ∧ (parseMethodDescriptor yX11_sendOff.desc).map (fun d => d.parameters.length) = some 2 := by decide +kernel
theorem hroX11_sendOff_X11_comeBack : rmX11_comeBack.frames + 1 ≤ rmX11_sendOff.frames ∧ 8 + (5 + 11) + rmX11_comeBack.locals ≤ rmX11_sendOff.locals := by decide
theorem hroX11_sendOff_X11_hand : rmX11_hand.frames + 1 ≤ rmX11_sendOff.frames ∧ 8 + (5 + 11) + rmX11_hand.locals ≤ rmX11_sendOff.locals := by decide
theorem hroX11_sendOff_X11_routeFromHost : rmX11_routeFromHost.frames + 1 ≤ rmX11_sendOff.frames ∧ 8 + (4 + 11) + rmX11_routeFromHost.locals ≤ rmX11_sendOff.locals := by decide
theorem hroX11_sendOff_X11_routeFromRouter : rmX11_routeFromRouter.frames + 1 ≤ rmX11_sendOff.frames ∧ 8 + (8 + 11) + rmX11_routeFromRouter.locals ≤ rmX11_sendOff.locals := by decide
section SX11_sendOff
variable {p : Program} {l : Launch} {e : Env} {s : State} {m : MethodId} {args : Array Value} {below : List Frame} {meth : Method} {c : Code} {Q : State → Prop} {D : va_G} {cy : Nat → ClassId} {B : Nat → Nat → Nat} {ids : List (Nat × Nat)} {A : Nat → Prop}
def fX11_sendOff_28 (N : Nat)  (x0 : Nat) (x1 : Nat) (x2 : Nat) (s0 : Int32) (z : St) : Option (Int32 × St) := if 0 ≤ s0 then (zk (s0 >>> ((3 : Int32) &&& 31)) 6 <| zl (zgQ z 112 x1 (Int32.toNatClampNeg (s0 >>> ((3 : Int32) &&& 31)))) fun y3 => zd y3 fun a4 => zc (fX11_hand N x0 a4 (s0 &&& (7 : Int32)) x2 z) fun _ z6 => some (0, z6)) else (zc (fX11_comeBack N x0 x1 x2 (1 : Int32) z) fun _ z10 => some (0, z10))
set_option maxHeartbeats 4000000 in
set_option maxRecDepth 100000 in
theorem bX11_sendOff_28 (hst : zSt B ids) (F : zFx p m c cX11_sendOff 4 s args RX11 D cy B ids A) (hA : ∀ q : Nat, s.heap.size ≤ q → A q) {r : Int32} {z' : St} (E : zEnd p l e rmX11_sendOff s m args below meth c cX11_sendOff D cy B ids A Q none z' .return_ True) {N : Nat}  (x0 : Nat) (x1 : Nat) (x2 : Nat) (s0 : Int32) (hx0 : (11, x0) ∈ ids) (hx1 : (1, x1) ∈ ids) (hx2 : (7, x2) ∈ ids) {z : St} {H : Heap} {locs : List Loc} {ls : Array Slot} (hr : zRep D cy B ids A s.heap z H locs) (hl : lv_has ls 4 [(0, .ref (B 11 x0)), (1, .ref (B 1 x1)), (2, .ref (B 7 x2))]) (h : fX11_sendOff_28 N x0 x1 x2 s0 z = some (r, z')) : W p l e rmX11_sendOff s m args below meth c H locs 0 0 Q (F0 m 28 ls [.int s0]) := by
  unfold fX11_sendOff_28 at h
  refine lv_istore_n (lv' := [(3, .int s0), (0, .ref (B 11 x0)), (1, .ref (B 1 x1)), (2, .ref (B 7 x2))]) F.1 F.2.1 dX11_sendOff_28 rfl hl (by decide) rfl (fun ls hl => ?_)
  refine lv_iload_n F.1 F.2.1 dX11_sendOff_29 rfl (lv_at hl 0 rfl) ?_
  refine lv_if_ge (tgt := 43) F.1 F.2.1 dX11_sendOff_30 (by decide) (fun c1 => ?_) (fun c1 => ?_)
  · replace h := zi_t c1 h
    refine lv_aload_n F.1 F.2.1 dX11_sendOff_43 rfl (lv_at hl 1 rfl) ?_
    refine lv_aload_n F.1 F.2.1 dX11_sendOff_44 rfl (lv_at hl 2 rfl) ?_
    refine gf11_134 F hx1 hr dX11_sendOff_45 ?_
    refine lv_iload_n F.1 F.2.1 dX11_sendOff_48 rfl (lv_at hl 0 rfl) ?_
    refine lv_iconst (v := (3 : Int32)) F.1 F.2.1 dX11_sendOff_49 (by decide) ?_
    refine lv_ishr F.1 F.2.1 dX11_sendOff_50 ?_
    replace h := zk_some h
    obtain ⟨c2, h⟩ := h
    refine zr_aaldv (k := 112) (by decide) rfl rfl (zlen_d (by decide)) F (zal_a F hx1 (j := 2) rfl) hr dX11_sendOff_51 c2 (fun y3 ey3 => ?_)
    replace h := zl_sub ey3 h
    have hy3 := zal_q hr (zal_a F hx1 (j := 2) rfl) rfl ey3
    clear ey3
    refine lv_iload_n F.1 F.2.1 dX11_sendOff_52 rfl (lv_at hl 0 rfl) ?_
    refine lv_bipush (v := (7 : Int32)) F.1 F.2.1 dX11_sendOff_53 (by decide) ?_
    refine lv_iand F.1 F.2.1 dX11_sendOff_55 ?_
    refine lv_aload_n F.1 F.2.1 dX11_sendOff_56 rfl (lv_at hl 3 rfl) ?_
    replace h := zd_some h
    obtain ⟨a4, rfl, h⟩ := h
    replace h := zc_some h
    obtain ⟨r5, z6, hc7, h⟩ := h
    refine zr_callv (zrun_V (As := [.ref (B 8 a4), .int (s0 &&& (7 : Int32)), .ref (B 7 x2)]) (rest := []) zq_1431 zq_1433 zs_X11_hand zq_1434 zq_1 hdX11_hand (by decide) (T := TX11) (N := 21) rfl (okX11_hand l D cy B ids hst N x0 hx0 a4 (hy3 _ rfl) (s0 &&& (7 : Int32))  x2 hx2 hr.2.2 hc7) F hr hx0 hl.1 rfl (by decide) dX11_sendOff_57 rfl rfl hroX11_sendOff_X11_hand ⟨Nat.zero_le _, Nat.zero_le _⟩) F hA hr (fun H locs hw8 hr => ?_)
    clear hc7
    obtain ⟨rfl, rfl⟩ := zret h
    exact E _ _ _ _ dX11_sendOff_60 trivial hr
  · replace h := zi_f c1 h
    refine lv_aload_n F.1 F.2.1 dX11_sendOff_33 rfl (lv_at hl 1 rfl) ?_
    refine lv_aload_n F.1 F.2.1 dX11_sendOff_34 rfl (lv_at hl 2 rfl) ?_
    refine lv_aload_n F.1 F.2.1 dX11_sendOff_35 rfl (lv_at hl 3 rfl) ?_
    refine lv_iconst (v := (1 : Int32)) F.1 F.2.1 dX11_sendOff_36 (by decide) ?_
    replace h := zc_some h
    obtain ⟨r9, z10, hc11, h⟩ := h
    refine zr_callv (zrun_V (As := [.ref (B 1 x1), .ref (B 7 x2), .int (1 : Int32)]) (rest := []) zq_1422 zq_1424 zs_X11_comeBack zq_1425 zq_1 hdX11_comeBack (by decide) (T := TX11) (N := 21) rfl (okX11_comeBack l D cy B ids hst N x0 hx0 x1 hx1 x2 hx2 (1 : Int32)  hr.2.2 hc11) F hr hx0 hl.1 rfl (by decide) dX11_sendOff_37 rfl rfl hroX11_sendOff_X11_comeBack ⟨Nat.zero_le _, Nat.zero_le _⟩) F hA hr (fun H locs hw12 hr => ?_)
    clear hc11
    refine lv_goto (tgt := 60) F.1 F.2.1 dX11_sendOff_40 (by decide) ?_
    obtain ⟨rfl, rfl⟩ := zret h
    exact E _ _ _ _ dX11_sendOff_60 trivial hr
def fX11_sendOff (N : Nat)  (x0 : Nat) (x1 : Nat) (x2 : Nat) (z : St) : Option (Int32 × St) := if (zgI z 1 1 x1) = 0 then (zc (fX11_routeFromHost N x0 x1 (zgI z 7 1 x2) z) fun r2 z3 => fX11_sendOff_28 N x0 x1 x2 r2 z3) else (zc (fX11_routeFromRouter N x0 x1 (zgI z 7 1 x2) z) fun r6 z7 => fX11_sendOff_28 N x0 x1 x2 r6 z7)
set_option maxHeartbeats 4000000 in
set_option maxRecDepth 100000 in
theorem bX11_sendOff_0 (hst : zSt B ids) (F : zFx p m c cX11_sendOff 4 s args RX11 D cy B ids A) (hA : ∀ q : Nat, s.heap.size ≤ q → A q) {r : Int32} {z' : St} (E : zEnd p l e rmX11_sendOff s m args below meth c cX11_sendOff D cy B ids A Q none z' .return_ True) {N : Nat}  (x0 : Nat) (x1 : Nat) (x2 : Nat) (hx0 : (11, x0) ∈ ids) (hx1 : (1, x1) ∈ ids) (hx2 : (7, x2) ∈ ids) {z : St} {H : Heap} {locs : List Loc} {ls : Array Slot} (hr : zRep D cy B ids A s.heap z H locs) (hl : lv_has ls 4 [(0, .ref (B 11 x0)), (1, .ref (B 1 x1)), (2, .ref (B 7 x2))]) (h : fX11_sendOff N x0 x1 x2 z = some (r, z')) : W p l e rmX11_sendOff s m args below meth c H locs 0 0 Q (F0 m 0 ls []) := by
  unfold fX11_sendOff at h
  refine lv_aload_n F.1 F.2.1 dX11_sendOff_0 rfl (lv_at hl 1 rfl) ?_
  refine gf11_109 F hx1 hr dX11_sendOff_1 ?_
  refine lv_if_eq (tgt := 19) F.1 F.2.1 dX11_sendOff_4 (by decide) (fun c1 => ?_) (fun c1 => ?_)
  · replace h := zi_t c1 h
    refine lv_aload_n F.1 F.2.1 dX11_sendOff_19 rfl (lv_at hl 0 rfl) ?_
    refine lv_aload_n F.1 F.2.1 dX11_sendOff_20 rfl (lv_at hl 1 rfl) ?_
    refine lv_aload_n F.1 F.2.1 dX11_sendOff_21 rfl (lv_at hl 2 rfl) ?_
    refine gf11_538 F hx2 hr dX11_sendOff_22 ?_
    replace h := zc_some h
    obtain ⟨r2, z3, hc4, h⟩ := h
    refine zr_calli (zrun_V (As := [.ref (B 1 x1), .int (zgI z 7 1 x2)]) (rest := []) zq_1457 zq_1459 zs_X11_routeFromHost zq_1460 zq_1 hdX11_routeFromHost (by decide) (T := TX11) (N := 21) rfl (okX11_routeFromHost l D cy B ids hst N x0 hx0 x1 hx1 (zgI z 7 1 x2)  hr.2.2 hc4) F hr hx0 hl.1 rfl (by decide) dX11_sendOff_25 rfl rfl hroX11_sendOff_X11_routeFromHost ⟨Nat.zero_le _, Nat.zero_le _⟩) F hA hr (fun H locs hw5 hr => ?_)
    clear hc4
    exact bX11_sendOff_28 hst F hA E  x0 x1 x2 r2 hx0 hx1 hx2 hr (lv_sub hl [0, 1, 2] rfl) h
  · replace h := zi_f c1 h
    refine lv_aload_n F.1 F.2.1 dX11_sendOff_7 rfl (lv_at hl 0 rfl) ?_
    refine lv_aload_n F.1 F.2.1 dX11_sendOff_8 rfl (lv_at hl 1 rfl) ?_
    refine lv_aload_n F.1 F.2.1 dX11_sendOff_9 rfl (lv_at hl 2 rfl) ?_
    refine gf11_538 F hx2 hr dX11_sendOff_10 ?_
    replace h := zc_some h
    obtain ⟨r6, z7, hc8, h⟩ := h
    refine zr_calli (zrun_V (As := [.ref (B 1 x1), .int (zgI z 7 1 x2)]) (rest := []) zq_1427 zq_1429 zs_X11_routeFromRouter zq_1430 zq_1 hdX11_routeFromRouter (by decide) (T := TX11) (N := 21) rfl (okX11_routeFromRouter l D cy B ids hst N x0 hx0 x1 hx1 (zgI z 7 1 x2)  hr.2.2 hc8) F hr hx0 hl.1 rfl (by decide) dX11_sendOff_13 rfl rfl hroX11_sendOff_X11_routeFromRouter ⟨Nat.zero_le _, Nat.zero_le _⟩) F hA hr (fun H locs hw9 hr => ?_)
    clear hc8
    refine lv_goto (tgt := 28) F.1 F.2.1 dX11_sendOff_16 (by decide) ?_
    exact bX11_sendOff_28 hst F hA E  x0 x1 x2 r6 hx0 hx1 hx2 hr (lv_sub hl [0, 1, 2] rfl) h
end SX11_sendOff
set_option maxRecDepth 100000 in
theorem okX11_sendOff (l : Launch) (D : va_G) (cy : Nat → ClassId) (B : Nat → Nat → Nat) (ids : List (Nat × Nat)) (hst : zSt B ids) (N : Nat) (x0 : Nat) (hx0 : (11, x0) ∈ ids) (x1 : Nat) (hx1 : (1, x1) ∈ ids) (x2 : Nat) (hx2 : (7, x2) ∈ ids) {z : St} {r : Int32} {z' : St} (hW : zWf ids z) (h : fX11_sendOff N x0 x1 x2 z = some (r, z')) : zM l yX11_sendOff (zws yX11_sendOff cX11_sendOff 4 none) rmX11_sendOff D cy B ids [.ref (B 11 x0), .ref (B 1 x1), .ref (B 7 x2)] none True z z' :=
  zM_of hst hW (by decide +kernel) (Nat.le_of_ble_eq_true rfl) (fun p e s m args below meth c A ls F hA hret hlocks hr hl => bX11_sendOff_0 hst F hA (zEnd_v F hret hlocks) x0 x1 x2 hx0 hx1 hx2 hr hl h)
abbrev rmX11_letArrive : Room := { frames := 6, cells := 0, slots := 0, locals := 188 }
theorem hdX11_letArrive : yX11_letArrive.cls ≠ "java/lang/invoke/MethodHandle" ∧ yX11_letArrive.cls ≠ "java/lang/invoke/VarHandle" ∧ (parseMethodDescriptor yX11_letArrive.desc).map (fun d => d.parameters.length) = some 0 := by decide +kernel
theorem hroX11_letArrive_X11_arriveAt : rmX11_arriveAt.frames + 1 ≤ rmX11_letArrive.frames ∧ 8 + (5 + 11) + rmX11_arriveAt.locals ≤ rmX11_letArrive.locals := by decide
theorem hroX11_letArrive_X11_forward : rmX11_forward.frames + 1 ≤ rmX11_letArrive.frames ∧ 8 + (5 + 11) + rmX11_forward.locals ≤ rmX11_letArrive.locals := by decide
theorem hroX11_letArrive_X11_giveBack : rmX11_giveBack.frames + 1 ≤ rmX11_letArrive.frames ∧ 8 + (2 + 11) + rmX11_giveBack.locals ≤ rmX11_letArrive.locals := by decide
theorem hroX11_letArrive_X11_sendOff : rmX11_sendOff.frames + 1 ≤ rmX11_letArrive.frames ∧ 8 + (4 + 11) + rmX11_sendOff.locals ≤ rmX11_letArrive.locals := by decide
section SX11_letArrive
variable {p : Program} {l : Launch} {e : Env} {s : State} {m : MethodId} {args : Array Value} {below : List Frame} {meth : Method} {c : Code} {Q : State → Prop} {D : va_G} {cy : Nat → ClassId} {B : Nat → Nat → Nat} {ids : List (Nat × Nat)} {A : Nat → Prop}
def fX11_letArrive_173 (N : Nat) (K11 : Nat → Int32 → Int32 → St → Option (Int32 × St)) (K80 : Nat → Int32 → Int32 → Nat → Option Nat → Int32 → St → Option (Int32 × St)) (x0 : Nat) (x1 : Int32) (x2 : Int32) (x3 : Nat) (x4 : Nat) (x5 : Int32) (z : St) : Option (Int32 × St) := zl (x5 + 1) fun v1 => K80 x0 x1 x2 x3 (some x4) v1 z
set_option maxHeartbeats 4000000 in
set_option maxRecDepth 100000 in
theorem bX11_letArrive_173 (hst : zSt B ids) (F : zFx p m c cX11_letArrive 7 s args RX11 D cy B ids A) (hA : ∀ q : Nat, s.heap.size ≤ q → A q) {r : Int32} {z' : St} (E : zEnd p l e rmX11_letArrive s m args below meth c cX11_letArrive D cy B ids A Q none z' .return_ True) {N : Nat} {K11 : Nat → Int32 → Int32 → St → Option (Int32 × St)} {K80 : Nat → Int32 → Int32 → Nat → Option Nat → Int32 → St → Option (Int32 × St)} (hK11 : ∀ (x0 : Nat) (x1 : Int32) (x2 : Int32) (hx0 : (11, x0) ∈ ids) {z : St} {H : Heap} {locs : List Loc} {ls : Array Slot} (hr : zRep D cy B ids A s.heap z H locs) (hl : lv_has ls 7 [(0, .ref (B 11 x0)), (1, .int x1), (2, .int x2)]), K11 x0 x1 x2 z = some (r, z') → W p l e rmX11_letArrive s m args below meth c H locs 0 0 Q (F0 m 11 ls [])) (hK80 : ∀ (x0 : Nat) (x1 : Int32) (x2 : Int32) (x3 : Nat) (x4 : Option Nat) (x5 : Int32) (hx0 : (11, x0) ∈ ids) (hx3 : (7, x3) ∈ ids) (hx4 : ∀ t, x4 = some t → (5, t) ∈ ids) {z : St} {H : Heap} {locs : List Loc} {ls : Array Slot} (hr : zRep D cy B ids A s.heap z H locs) (hl : lv_has ls 7 [(0, .ref (B 11 x0)), (1, .int x1), (2, .int x2), (3, .ref (B 7 x3)), (4, va_rf (Option.map (B 5) x4)), (5, .int x5)]), K80 x0 x1 x2 x3 x4 x5 z = some (r, z') → W p l e rmX11_letArrive s m args below meth c H locs 0 0 Q (F0 m 80 ls [])) (x0 : Nat) (x1 : Int32) (x2 : Int32) (x3 : Nat) (x4 : Nat) (x5 : Int32) (hx0 : (11, x0) ∈ ids) (hx3 : (7, x3) ∈ ids) (hx4 : (5, x4) ∈ ids) {z : St} {H : Heap} {locs : List Loc} {ls : Array Slot} (hr : zRep D cy B ids A s.heap z H locs) (hl : lv_has ls 7 [(0, .ref (B 11 x0)), (1, .int x1), (2, .int x2), (3, .ref (B 7 x3)), (4, .ref (B 5 x4)), (5, .int x5)]) (h : fX11_letArrive_173 N K11 K80 x0 x1 x2 x3 x4 x5 z = some (r, z')) : W p l e rmX11_letArrive s m args below meth c H locs 0 0 Q (F0 m 173 ls []) := by
  unfold fX11_letArrive_173 at h
  obtain ⟨v1, ev1⟩ : ∃ y : Int32, y = (x5 + 1) := ⟨_, rfl⟩
  replace h := zl_sub ev1 h
  refine lv_iinc (v := v1) (lv' := [(5, .int v1), (0, .ref (B 11 x0)), (1, .int x1), (2, .int x2), (3, .ref (B 7 x3)), (4, .ref (B 5 x4))]) F.1 F.2.1 dX11_letArrive_173 hl (k := 5) rfl (by rw [ev1]; rfl) (by decide) rfl (fun ls hl => ?_)
  refine lv_goto (tgt := 80) F.1 F.2.1 dX11_letArrive_176 (by decide) ?_
  exact hK80 x0 x1 x2 x3 (some x4) v1 hx0 hx3 (zal_s hx4) hr (lv_sub hl [1, 2, 3, 4, 5, 0] rfl) h
def fX11_letArrive_148 (N : Nat) (K11 : Nat → Int32 → Int32 → St → Option (Int32 × St)) (K80 : Nat → Int32 → Int32 → Nat → Option Nat → Int32 → St → Option (Int32 × St)) (x0 : Nat) (x1 : Int32) (x2 : Int32) (x3 : Nat) (x4 : Nat) (x5 : Int32) (x6 : Nat) (z : St) : Option (Int32 × St) := if (zgI z 11 15 x0) = 0 then (fX11_letArrive_173 N K11 K80 x0 x1 x2 x3 x4 x5 z) else (zl (zsI z 11 15 x0 (0 : Int32)) fun z2 => zl (zgR z2 8 0 x6) fun y3 => zl (zgR z2 11 13 x0) fun y4 => zd y3 fun a5 => zd y4 fun a6 => zc (fX11_sendOff N x0 a5 a6 z2) fun _ z8 => fX11_letArrive_173 N K11 K80 x0 x1 x2 x3 x4 x5 z8)
set_option maxHeartbeats 4000000 in
set_option maxRecDepth 100000 in
theorem bX11_letArrive_148 (hst : zSt B ids) (F : zFx p m c cX11_letArrive 7 s args RX11 D cy B ids A) (hA : ∀ q : Nat, s.heap.size ≤ q → A q) {r : Int32} {z' : St} (E : zEnd p l e rmX11_letArrive s m args below meth c cX11_letArrive D cy B ids A Q none z' .return_ True) {N : Nat} {K11 : Nat → Int32 → Int32 → St → Option (Int32 × St)} {K80 : Nat → Int32 → Int32 → Nat → Option Nat → Int32 → St → Option (Int32 × St)} (hK11 : ∀ (x0 : Nat) (x1 : Int32) (x2 : Int32) (hx0 : (11, x0) ∈ ids) {z : St} {H : Heap} {locs : List Loc} {ls : Array Slot} (hr : zRep D cy B ids A s.heap z H locs) (hl : lv_has ls 7 [(0, .ref (B 11 x0)), (1, .int x1), (2, .int x2)]), K11 x0 x1 x2 z = some (r, z') → W p l e rmX11_letArrive s m args below meth c H locs 0 0 Q (F0 m 11 ls [])) (hK80 : ∀ (x0 : Nat) (x1 : Int32) (x2 : Int32) (x3 : Nat) (x4 : Option Nat) (x5 : Int32) (hx0 : (11, x0) ∈ ids) (hx3 : (7, x3) ∈ ids) (hx4 : ∀ t, x4 = some t → (5, t) ∈ ids) {z : St} {H : Heap} {locs : List Loc} {ls : Array Slot} (hr : zRep D cy B ids A s.heap z H locs) (hl : lv_has ls 7 [(0, .ref (B 11 x0)), (1, .int x1), (2, .int x2), (3, .ref (B 7 x3)), (4, va_rf (Option.map (B 5) x4)), (5, .int x5)]), K80 x0 x1 x2 x3 x4 x5 z = some (r, z') → W p l e rmX11_letArrive s m args below meth c H locs 0 0 Q (F0 m 80 ls [])) (x0 : Nat) (x1 : Int32) (x2 : Int32) (x3 : Nat) (x4 : Nat) (x5 : Int32) (x6 : Nat) (hx0 : (11, x0) ∈ ids) (hx3 : (7, x3) ∈ ids) (hx4 : (5, x4) ∈ ids) (hx6 : (8, x6) ∈ ids) {z : St} {H : Heap} {locs : List Loc} {ls : Array Slot} (hr : zRep D cy B ids A s.heap z H locs) (hl : lv_has ls 7 [(0, .ref (B 11 x0)), (1, .int x1), (2, .int x2), (3, .ref (B 7 x3)), (4, .ref (B 5 x4)), (5, .int x5), (6, .ref (B 8 x6))]) (h : fX11_letArrive_148 N K11 K80 x0 x1 x2 x3 x4 x5 x6 z = some (r, z')) : W p l e rmX11_letArrive s m args below meth c H locs 0 0 Q (F0 m 148 ls []) := by
  unfold fX11_letArrive_148 at h
  refine lv_aload_n F.1 F.2.1 dX11_letArrive_148 rfl (lv_at hl 0 rfl) ?_
  refine gf11_586 F hx0 hr dX11_letArrive_149 ?_
  refine lv_if_eq (tgt := 173) F.1 F.2.1 dX11_letArrive_152 (by decide) (fun c1 => ?_) (fun c1 => ?_)
  · replace h := zi_t c1 h
    exact bX11_letArrive_173 hst F hA E hK11 hK80 x0 x1 x2 x3 x4 x5 hx0 hx3 hx4 hr (lv_sub hl [0, 1, 2, 3, 4, 5] rfl) h
  · replace h := zi_f c1 h
    refine lv_aload_n F.1 F.2.1 dX11_letArrive_155 rfl (lv_at hl 0 rfl) ?_
    refine lv_iconst (v := (0 : Int32)) F.1 F.2.1 dX11_letArrive_156 (by decide) ?_
    refine pf11_586 F hx0 hr dX11_letArrive_157 (0 : Int32) (by decide) (fun H locs z2 ez2 hr => ?_)
    replace h := zl_sub ez2 h
    clear ez2
    refine lv_aload_n F.1 F.2.1 dX11_letArrive_160 rfl (lv_at hl 0 rfl) ?_
    refine lv_aload F.1 F.2.1 dX11_letArrive_161 (lv_at hl 6 rfl) ?_
    refine gf11_474 F hx6 hr dX11_letArrive_163 (fun y3 ey3 => ?_)
    replace h := zl_sub ey3 h
    have hy3 := zal_g hr hx6 (j := 0) rfl ey3
    clear ey3
    refine lv_aload_n F.1 F.2.1 dX11_letArrive_166 rfl (lv_at hl 0 rfl) ?_
    refine gf11_31 F hx0 hr dX11_letArrive_167 (fun y4 ey4 => ?_)
    replace h := zl_sub ey4 h
    have hy4 := zal_g hr hx0 (j := 13) rfl ey4
    clear ey4
    replace h := zd_some h
    obtain ⟨a5, rfl, h⟩ := h
    replace h := zd_some h
    obtain ⟨a6, rfl, h⟩ := h
    replace h := zc_some h
    obtain ⟨r7, z8, hc9, h⟩ := h
    refine zr_callv (zrun_V (As := [.ref (B 1 a5), .ref (B 7 a6)]) (rest := []) zq_1453 zq_1455 zs_X11_sendOff zq_1456 zq_1 hdX11_sendOff (by decide) (T := TX11) (N := 21) rfl (okX11_sendOff l D cy B ids hst N x0 hx0 a5 (hy3 _ rfl) a6 (hy4 _ rfl) hr.2.2 hc9) F hr hx0 hl.1 rfl (by decide) dX11_letArrive_170 rfl rfl hroX11_letArrive_X11_sendOff ⟨Nat.zero_le _, Nat.zero_le _⟩) F hA hr (fun H locs hw10 hr => ?_)
    clear hc9
    exact bX11_letArrive_173 hst F hA E hK11 hK80 x0 x1 x2 x3 x4 x5 hx0 hx3 hx4 hr (lv_sub hl [0, 1, 2, 3, 4, 5] rfl) h
def fX11_letArrive_121 (N : Nat) (K11 : Nat → Int32 → Int32 → St → Option (Int32 × St)) (K80 : Nat → Int32 → Int32 → Nat → Option Nat → Int32 → St → Option (Int32 × St)) (x0 : Nat) (x1 : Int32) (x2 : Int32) (x3 : Nat) (x4 : Nat) (x5 : Int32) (z : St) : Option (Int32 × St) := zk x5 8 <| zl (zgQ z 123 x4 (Int32.toNatClampNeg x5)) fun y2 => zd y2 fun a3 => zc (fX11_arriveAt N x0 a3 x3 z) fun r4 z5 => if r4 = 0 then (fX11_letArrive_148 N K11 K80 x0 x1 x2 x3 x4 x5 a3 z5) else (zc (fX11_forward N x0 a3 x3 z5) fun _ z10 => fX11_letArrive_148 N K11 K80 x0 x1 x2 x3 x4 x5 a3 z10)
set_option maxHeartbeats 4000000 in
set_option maxRecDepth 100000 in
theorem bX11_letArrive_121 (hst : zSt B ids) (F : zFx p m c cX11_letArrive 7 s args RX11 D cy B ids A) (hA : ∀ q : Nat, s.heap.size ≤ q → A q) {r : Int32} {z' : St} (E : zEnd p l e rmX11_letArrive s m args below meth c cX11_letArrive D cy B ids A Q none z' .return_ True) {N : Nat} {K11 : Nat → Int32 → Int32 → St → Option (Int32 × St)} {K80 : Nat → Int32 → Int32 → Nat → Option Nat → Int32 → St → Option (Int32 × St)} (hK11 : ∀ (x0 : Nat) (x1 : Int32) (x2 : Int32) (hx0 : (11, x0) ∈ ids) {z : St} {H : Heap} {locs : List Loc} {ls : Array Slot} (hr : zRep D cy B ids A s.heap z H locs) (hl : lv_has ls 7 [(0, .ref (B 11 x0)), (1, .int x1), (2, .int x2)]), K11 x0 x1 x2 z = some (r, z') → W p l e rmX11_letArrive s m args below meth c H locs 0 0 Q (F0 m 11 ls [])) (hK80 : ∀ (x0 : Nat) (x1 : Int32) (x2 : Int32) (x3 : Nat) (x4 : Option Nat) (x5 : Int32) (hx0 : (11, x0) ∈ ids) (hx3 : (7, x3) ∈ ids) (hx4 : ∀ t, x4 = some t → (5, t) ∈ ids) {z : St} {H : Heap} {locs : List Loc} {ls : Array Slot} (hr : zRep D cy B ids A s.heap z H locs) (hl : lv_has ls 7 [(0, .ref (B 11 x0)), (1, .int x1), (2, .int x2), (3, .ref (B 7 x3)), (4, va_rf (Option.map (B 5) x4)), (5, .int x5)]), K80 x0 x1 x2 x3 x4 x5 z = some (r, z') → W p l e rmX11_letArrive s m args below meth c H locs 0 0 Q (F0 m 80 ls [])) (x0 : Nat) (x1 : Int32) (x2 : Int32) (x3 : Nat) (x4 : Nat) (x5 : Int32) (hx0 : (11, x0) ∈ ids) (hx3 : (7, x3) ∈ ids) (hx4 : (5, x4) ∈ ids) {z : St} {H : Heap} {locs : List Loc} {ls : Array Slot} (hr : zRep D cy B ids A s.heap z H locs) (hl : lv_has ls 7 [(0, .ref (B 11 x0)), (1, .int x1), (2, .int x2), (3, .ref (B 7 x3)), (4, .ref (B 5 x4)), (5, .int x5)]) (h : fX11_letArrive_121 N K11 K80 x0 x1 x2 x3 x4 x5 z = some (r, z')) : W p l e rmX11_letArrive s m args below meth c H locs 0 0 Q (F0 m 121 ls []) := by
  unfold fX11_letArrive_121 at h
  refine lv_aload F.1 F.2.1 dX11_letArrive_121 (lv_at hl 4 rfl) ?_
  refine gf11_138 F hx4 hr dX11_letArrive_123 ?_
  refine lv_iload F.1 F.2.1 dX11_letArrive_126 (lv_at hl 5 rfl) ?_
  replace h := zk_some h
  obtain ⟨c1, h⟩ := h
  refine zr_aaldv (k := 123) (by decide) rfl rfl (zlen_d (by decide)) F (zal_a F hx4 (j := 7) rfl) hr dX11_letArrive_128 c1 (fun y2 ey2 => ?_)
  replace h := zl_sub ey2 h
  have hy2 := zal_q hr (zal_a F hx4 (j := 7) rfl) rfl ey2
  clear ey2
  refine zr_astore (lv' := [(6, va_rf (Option.map (B 8) y2)), (0, .ref (B 11 x0)), (1, .int x1), (2, .int x2), (3, .ref (B 7 x3)), (4, .ref (B 5 x4)), (5, .int x5)]) F.1 F.2.1 dX11_letArrive_129 hl (by decide) rfl (fun ls hl => ?_)
  refine lv_aload_n F.1 F.2.1 dX11_letArrive_131 rfl (lv_at hl 1 rfl) ?_
  refine zr_aload F.1 F.2.1 dX11_letArrive_132 (lv_at hl 0 rfl) ?_
  refine lv_aload_n F.1 F.2.1 dX11_letArrive_134 rfl (lv_at hl 4 rfl) ?_
  replace h := zd_some h
  obtain ⟨a3, rfl, h⟩ := h
  replace h := zc_some h
  obtain ⟨r4, z5, hc6, h⟩ := h
  refine zr_calli (zrun_V (As := [.ref (B 8 a3), .ref (B 7 x3)]) (rest := []) zq_1039 zq_1041 zs_X11_arriveAt zq_1042 zq_1 hdX11_arriveAt (by decide) (T := TX11) (N := 21) rfl (okX11_arriveAt l D cy B ids hst N x0 hx0 a3 (hy2 _ rfl) x3 hx3 hr.2.2 hc6) F hr hx0 hl.1 rfl (by decide) dX11_letArrive_135 rfl rfl hroX11_letArrive_X11_arriveAt ⟨Nat.zero_le _, Nat.zero_le _⟩) F hA hr (fun H locs hw7 hr => ?_)
  clear hc6
  refine lv_if_eq (tgt := 148) F.1 F.2.1 dX11_letArrive_138 (by decide) (fun c8 => ?_) (fun c8 => ?_)
  · replace h := zi_t c8 h
    exact bX11_letArrive_148 hst F hA E hK11 hK80 x0 x1 x2 x3 x4 x5 a3 hx0 hx3 hx4 (hy2 _ rfl) hr (lv_sub hl [1, 2, 3, 4, 5, 6, 0] rfl) h
  · replace h := zi_f c8 h
    refine lv_aload_n F.1 F.2.1 dX11_letArrive_141 rfl (lv_at hl 1 rfl) ?_
    refine lv_aload F.1 F.2.1 dX11_letArrive_142 (lv_at hl 0 rfl) ?_
    refine lv_aload_n F.1 F.2.1 dX11_letArrive_144 rfl (lv_at hl 4 rfl) ?_
    replace h := zc_some h
    obtain ⟨r9, z10, hc11, h⟩ := h
    refine zr_callv (zrun_V (As := [.ref (B 8 a3), .ref (B 7 x3)]) (rest := []) zq_1418 zq_1420 zs_X11_forward zq_1421 zq_1 hdX11_forward (by decide) (T := TX11) (N := 21) rfl (okX11_forward l D cy B ids hst N x0 hx0 a3 (hy2 _ rfl) x3 hx3 hr.2.2 hc11) F hr hx0 hl.1 rfl (by decide) dX11_letArrive_145 rfl rfl hroX11_letArrive_X11_forward ⟨Nat.zero_le _, Nat.zero_le _⟩) F hA hr (fun H locs hw12 hr => ?_)
    clear hc11
    exact bX11_letArrive_148 hst F hA E hK11 hK80 x0 x1 x2 x3 x4 x5 a3 hx0 hx3 hx4 (hy2 _ rfl) hr (lv_sub hl [1, 2, 3, 4, 5, 6, 0] rfl) h
def fX11_letArrive_80b (N : Nat) (K11 : Nat → Int32 → Int32 → St → Option (Int32 × St)) (K80 : Nat → Int32 → Int32 → Nat → Option Nat → Int32 → St → Option (Int32 × St)) (x0 : Nat) (x1 : Int32) (x2 : Int32) (x3 : Nat) (x4 : Option Nat) (x5 : Int32) (z : St) : Option (Int32 × St) := zd x4 fun a1 => if (zgI z 5 8 a1) ≤ x5 then (zc (fX11_giveBack N x0 x3 z) fun _ z4 => zl (x2 + 1) fun v7 => K11 x0 x1 v7 z4) else (if 0 ≤ (zgI z 7 11 x3) then (if x5 = (zgI z 7 11 x3) then (fX11_letArrive_121 N K11 K80 x0 x1 x2 x3 a1 x5 z) else (fX11_letArrive_173 N K11 K80 x0 x1 x2 x3 a1 x5 z)) else (if ¬ x5 = (zgI z 7 13 x3) then (fX11_letArrive_121 N K11 K80 x0 x1 x2 x3 a1 x5 z) else (fX11_letArrive_173 N K11 K80 x0 x1 x2 x3 a1 x5 z)))
def fX11_letArrive_80 (N : Nat) (K11 : Nat → Int32 → Int32 → St → Option (Int32 × St)) : Nat → Nat → Int32 → Int32 → Nat → Option Nat → Int32 → St → Option (Int32 × St)
  | 0 => fun _ _ _ _ _ _ _ => none
  | n + 1 => fX11_letArrive_80b N K11 (fX11_letArrive_80 N K11 n)
set_option maxHeartbeats 4000000 in
set_option maxRecDepth 100000 in
theorem bX11_letArrive_80 (hst : zSt B ids) (F : zFx p m c cX11_letArrive 7 s args RX11 D cy B ids A) (hA : ∀ q : Nat, s.heap.size ≤ q → A q) {r : Int32} {z' : St} (E : zEnd p l e rmX11_letArrive s m args below meth c cX11_letArrive D cy B ids A Q none z' .return_ True) {N : Nat} {K11 : Nat → Int32 → Int32 → St → Option (Int32 × St)} {K80 : Nat → Int32 → Int32 → Nat → Option Nat → Int32 → St → Option (Int32 × St)} (hK11 : ∀ (x0 : Nat) (x1 : Int32) (x2 : Int32) (hx0 : (11, x0) ∈ ids) {z : St} {H : Heap} {locs : List Loc} {ls : Array Slot} (hr : zRep D cy B ids A s.heap z H locs) (hl : lv_has ls 7 [(0, .ref (B 11 x0)), (1, .int x1), (2, .int x2)]), K11 x0 x1 x2 z = some (r, z') → W p l e rmX11_letArrive s m args below meth c H locs 0 0 Q (F0 m 11 ls [])) (hK80 : ∀ (x0 : Nat) (x1 : Int32) (x2 : Int32) (x3 : Nat) (x4 : Option Nat) (x5 : Int32) (hx0 : (11, x0) ∈ ids) (hx3 : (7, x3) ∈ ids) (hx4 : ∀ t, x4 = some t → (5, t) ∈ ids) {z : St} {H : Heap} {locs : List Loc} {ls : Array Slot} (hr : zRep D cy B ids A s.heap z H locs) (hl : lv_has ls 7 [(0, .ref (B 11 x0)), (1, .int x1), (2, .int x2), (3, .ref (B 7 x3)), (4, va_rf (Option.map (B 5) x4)), (5, .int x5)]), K80 x0 x1 x2 x3 x4 x5 z = some (r, z') → W p l e rmX11_letArrive s m args below meth c H locs 0 0 Q (F0 m 80 ls [])) (x0 : Nat) (x1 : Int32) (x2 : Int32) (x3 : Nat) (x4 : Option Nat) (x5 : Int32) (hx0 : (11, x0) ∈ ids) (hx3 : (7, x3) ∈ ids) (hx4 : ∀ t, x4 = some t → (5, t) ∈ ids) {z : St} {H : Heap} {locs : List Loc} {ls : Array Slot} (hr : zRep D cy B ids A s.heap z H locs) (hl : lv_has ls 7 [(0, .ref (B 11 x0)), (1, .int x1), (2, .int x2), (3, .ref (B 7 x3)), (4, va_rf (Option.map (B 5) x4)), (5, .int x5)]) (h : fX11_letArrive_80b N K11 K80 x0 x1 x2 x3 x4 x5 z = some (r, z')) : W p l e rmX11_letArrive s m args below meth c H locs 0 0 Q (F0 m 80 ls []) := by
  unfold fX11_letArrive_80b at h
  refine lv_iload F.1 F.2.1 dX11_letArrive_80 (lv_at hl 5 rfl) ?_
  refine zr_aload F.1 F.2.1 dX11_letArrive_82 (lv_at hl 4 rfl) ?_
  replace h := zd_some h
  obtain ⟨a1, rfl, h⟩ := h
  refine gf11_124 F (hx4 _ rfl) hr dX11_letArrive_84 ?_
  refine lv_icmp_ge (tgt := 179) F.1 F.2.1 dX11_letArrive_87 (by decide) (fun c2 => ?_) (fun c2 => ?_)
  · replace h := zi_t c2 h
    refine lv_aload_n F.1 F.2.1 dX11_letArrive_179 rfl (lv_at hl 0 rfl) ?_
    refine lv_aload_n F.1 F.2.1 dX11_letArrive_180 rfl (lv_at hl 3 rfl) ?_
    replace h := zc_some h
    obtain ⟨r3, z4, hc5, h⟩ := h
    refine zr_callv (zrun_V (As := [.ref (B 7 x3)]) (rest := []) zq_1004 zq_1006 zs_X11_giveBack zq_1007 zq_1 hdX11_giveBack (by decide) (T := TX11) (N := 21) rfl (okX11_giveBack l D cy B ids hst N x0 hx0 x3 hx3 hr.2.2 hc5) F hr hx0 hl.1 rfl (by decide) dX11_letArrive_181 rfl rfl hroX11_letArrive_X11_giveBack ⟨Nat.zero_le _, Nat.zero_le _⟩) F hA hr (fun H locs hw6 hr => ?_)
    clear hc5
    obtain ⟨v7, ev7⟩ : ∃ y : Int32, y = (x2 + 1) := ⟨_, rfl⟩
    replace h := zl_sub ev7 h
    refine lv_iinc (v := v7) (lv' := [(2, .int v7), (0, .ref (B 11 x0)), (1, .int x1), (3, .ref (B 7 x3)), (4, .ref (B 5 a1)), (5, .int x5)]) F.1 F.2.1 dX11_letArrive_184 hl (k := 2) rfl (by rw [ev7]; rfl) (by decide) rfl (fun ls hl => ?_)
    refine lv_goto (tgt := 11) F.1 F.2.1 dX11_letArrive_187 (by decide) ?_
    exact hK11 x0 x1 v7 hx0 hr (lv_sub hl [1, 2, 0] rfl) h
  · replace h := zi_f c2 h
    refine lv_aload_n F.1 F.2.1 dX11_letArrive_90 rfl (lv_at hl 3 rfl) ?_
    refine gf11_525 F hx3 hr dX11_letArrive_91 ?_
    refine lv_if_ge (tgt := 109) F.1 F.2.1 dX11_letArrive_94 (by decide) (fun c8 => ?_) (fun c8 => ?_)
    · replace h := zi_t c8 h
      refine lv_iload F.1 F.2.1 dX11_letArrive_109 (lv_at hl 5 rfl) ?_
      refine lv_aload_n F.1 F.2.1 dX11_letArrive_111 rfl (lv_at hl 3 rfl) ?_
      refine gf11_525 F hx3 hr dX11_letArrive_112 ?_
      refine lv_icmp_eq (tgt := 121) F.1 F.2.1 dX11_letArrive_115 (by decide) (fun c9 => ?_) (fun c9 => ?_)
      · replace h := zi_t c9 h
        exact bX11_letArrive_121 hst F hA E hK11 hK80 x0 x1 x2 x3 a1 x5 hx0 hx3 (hx4 _ rfl) hr (lv_sub hl [0, 1, 2, 3, 4, 5] rfl) h
      · replace h := zi_f c9 h
        refine lv_goto (tgt := 173) F.1 F.2.1 dX11_letArrive_118 (by decide) ?_
        exact bX11_letArrive_173 hst F hA E hK11 hK80 x0 x1 x2 x3 a1 x5 hx0 hx3 (hx4 _ rfl) hr (lv_sub hl [0, 1, 2, 3, 4, 5] rfl) h
    · replace h := zi_f c8 h
      refine lv_iload F.1 F.2.1 dX11_letArrive_97 (lv_at hl 5 rfl) ?_
      refine lv_aload_n F.1 F.2.1 dX11_letArrive_99 rfl (lv_at hl 3 rfl) ?_
      refine gf11_522 F hx3 hr dX11_letArrive_100 ?_
      refine lv_icmp_ne (tgt := 121) F.1 F.2.1 dX11_letArrive_103 (by decide) (fun c10 => ?_) (fun c10 => ?_)
      · replace h := zi_t c10 h
        exact bX11_letArrive_121 hst F hA E hK11 hK80 x0 x1 x2 x3 a1 x5 hx0 hx3 (hx4 _ rfl) hr (lv_sub hl [0, 1, 2, 3, 4, 5] rfl) h
      · replace h := zi_f (fun q => q c10) h
        refine lv_goto (tgt := 173) F.1 F.2.1 dX11_letArrive_106 (by decide) ?_
        exact bX11_letArrive_173 hst F hA E hK11 hK80 x0 x1 x2 x3 a1 x5 hx0 hx3 (hx4 _ rfl) hr (lv_sub hl [0, 1, 2, 3, 4, 5] rfl) h
theorem lX11_letArrive_80 (hst : zSt B ids) (F : zFx p m c cX11_letArrive 7 s args RX11 D cy B ids A) (hA : ∀ q : Nat, s.heap.size ≤ q → A q) {r : Int32} {z' : St} (E : zEnd p l e rmX11_letArrive s m args below meth c cX11_letArrive D cy B ids A Q none z' .return_ True) {N : Nat} {K11 : Nat → Int32 → Int32 → St → Option (Int32 × St)} (hK11 : ∀ (x0 : Nat) (x1 : Int32) (x2 : Int32) (hx0 : (11, x0) ∈ ids) {z : St} {H : Heap} {locs : List Loc} {ls : Array Slot} (hr : zRep D cy B ids A s.heap z H locs) (hl : lv_has ls 7 [(0, .ref (B 11 x0)), (1, .int x1), (2, .int x2)]), K11 x0 x1 x2 z = some (r, z') → W p l e rmX11_letArrive s m args below meth c H locs 0 0 Q (F0 m 11 ls [])) : ∀ (n : Nat) (x0 : Nat) (x1 : Int32) (x2 : Int32) (x3 : Nat) (x4 : Option Nat) (x5 : Int32) (hx0 : (11, x0) ∈ ids) (hx3 : (7, x3) ∈ ids) (hx4 : ∀ t, x4 = some t → (5, t) ∈ ids) {z : St} {H : Heap} {locs : List Loc} {ls : Array Slot} (hr : zRep D cy B ids A s.heap z H locs) (hl : lv_has ls 7 [(0, .ref (B 11 x0)), (1, .int x1), (2, .int x2), (3, .ref (B 7 x3)), (4, va_rf (Option.map (B 5) x4)), (5, .int x5)]), fX11_letArrive_80 N K11 n x0 x1 x2 x3 x4 x5 z = some (r, z') → W p l e rmX11_letArrive s m args below meth c H locs 0 0 Q (F0 m 80 ls []) := by
  intro n
  induction n with
  | zero => intro x0 x1 x2 x3 x4 x5 hx0 hx3 hx4 z H locs ls hr hl h; cases h
  | succ n ih => intro x0 x1 x2 x3 x4 x5 hx0 hx3 hx4 z H locs ls hr hl h; exact bX11_letArrive_80 hst F hA E hK11 ih x0 x1 x2 x3 x4 x5 hx0 hx3 hx4 hr hl h
def fX11_letArrive_56 (N : Nat) (K11 : Nat → Int32 → Int32 → St → Option (Int32 × St)) (x0 : Nat) (x1 : Int32) (x2 : Int32) (x3 : Nat) (z : St) : Option (Int32 × St) := zl (zsI z 11 12 x0 ((zgI z 11 12 x0) - (1 : Int32))) fun z1 => zk (zgI z1 7 12 x3) 24 <| zl (zgQ z1 139 x0 (Int32.toNatClampNeg (zgI z1 7 12 x3))) fun y3 => fX11_letArrive_80 N K11 N x0 x1 x2 x3 y3 (0 : Int32) z1
set_option maxHeartbeats 4000000 in
set_option maxRecDepth 100000 in
theorem bX11_letArrive_56 (hst : zSt B ids) (F : zFx p m c cX11_letArrive 7 s args RX11 D cy B ids A) (hA : ∀ q : Nat, s.heap.size ≤ q → A q) {r : Int32} {z' : St} (E : zEnd p l e rmX11_letArrive s m args below meth c cX11_letArrive D cy B ids A Q none z' .return_ True) {N : Nat} {K11 : Nat → Int32 → Int32 → St → Option (Int32 × St)} (hK11 : ∀ (x0 : Nat) (x1 : Int32) (x2 : Int32) (hx0 : (11, x0) ∈ ids) {z : St} {H : Heap} {locs : List Loc} {ls : Array Slot} (hr : zRep D cy B ids A s.heap z H locs) (hl : lv_has ls 7 [(0, .ref (B 11 x0)), (1, .int x1), (2, .int x2)]), K11 x0 x1 x2 z = some (r, z') → W p l e rmX11_letArrive s m args below meth c H locs 0 0 Q (F0 m 11 ls [])) (x0 : Nat) (x1 : Int32) (x2 : Int32) (x3 : Nat) (hx0 : (11, x0) ∈ ids) (hx3 : (7, x3) ∈ ids) {z : St} {H : Heap} {locs : List Loc} {ls : Array Slot} (hr : zRep D cy B ids A s.heap z H locs) (hl : lv_has ls 7 [(0, .ref (B 11 x0)), (1, .int x1), (2, .int x2), (3, .ref (B 7 x3))]) (h : fX11_letArrive_56 N K11 x0 x1 x2 x3 z = some (r, z')) : W p l e rmX11_letArrive s m args below meth c H locs 0 0 Q (F0 m 56 ls []) := by
  unfold fX11_letArrive_56 at h
  refine lv_aload_n F.1 F.2.1 dX11_letArrive_56 rfl (lv_at hl 0 rfl) ?_
  refine lv_dup F.1 F.2.1 dX11_letArrive_57 rfl ?_
  refine gf11_442 F hx0 hr dX11_letArrive_58 ?_
  refine lv_iconst (v := (1 : Int32)) F.1 F.2.1 dX11_letArrive_61 (by decide) ?_
  refine lv_isub F.1 F.2.1 dX11_letArrive_62 ?_
  refine pf11_442 F hx0 hr dX11_letArrive_63 ((zgI z 11 12 x0) - (1 : Int32)) (fun H locs z1 ez1 hr => ?_)
  replace h := zl_sub ez1 h
  clear ez1
  refine lv_aload_n F.1 F.2.1 dX11_letArrive_66 rfl (lv_at hl 0 rfl) ?_
  refine gf11_11 F hx0 hr dX11_letArrive_67 ?_
  refine lv_aload_n F.1 F.2.1 dX11_letArrive_70 rfl (lv_at hl 3 rfl) ?_
  refine gf11_501 F hx3 hr dX11_letArrive_71 ?_
  replace h := zk_some h
  obtain ⟨c2, h⟩ := h
  refine zr_aaldv (k := 139) (by decide) rfl rfl (zlen_d (by decide)) F (zal_a F hx0 (j := 0) rfl) hr dX11_letArrive_74 c2 (fun y3 ey3 => ?_)
  replace h := zl_sub ey3 h
  have hy3 := zal_q hr (zal_a F hx0 (j := 0) rfl) rfl ey3
  clear ey3
  refine zr_astore (lv' := [(4, va_rf (Option.map (B 5) y3)), (0, .ref (B 11 x0)), (1, .int x1), (2, .int x2), (3, .ref (B 7 x3))]) F.1 F.2.1 dX11_letArrive_75 hl (by decide) rfl (fun ls hl => ?_)
  refine lv_iconst (v := (0 : Int32)) F.1 F.2.1 dX11_letArrive_77 (by decide) ?_
  refine lv_istore (lv' := [(5, .int (0 : Int32)), (4, va_rf (Option.map (B 5) y3)), (0, .ref (B 11 x0)), (1, .int x1), (2, .int x2), (3, .ref (B 7 x3))]) F.1 F.2.1 dX11_letArrive_78 hl (by decide) (by simp only [List.filter, zrf_cat]; rfl) (fun ls hl => ?_)
  exact lX11_letArrive_80 hst F hA E hK11 _ x0 x1 x2 x3 y3 (0 : Int32) hx0 hx3 hy3 hr (lv_sub hl [2, 3, 4, 5, 1, 0] rfl) h
def fX11_letArrive_11b (N : Nat) (K11 : Nat → Int32 → Int32 → St → Option (Int32 × St)) (x0 : Nat) (x1 : Int32) (x2 : Int32) (z : St) : Option (Int32 × St) := if (512 : Int32) ≤ x2 then (some (0, z)) else (zk x1 256 <| zl (zgQ z 141 x0 (Int32.toNatClampNeg x1)) fun y3 => zo y3 (some (0, z)) fun a5 => zl (zgR z 7 14 a5) fun y6 => zk x1 256 <| zl (zsQ z 141 x0 (Int32.toNatClampNeg x1) y6) fun z8 => zl (zgR z8 7 14 a5) fun y9 => zo y9 (zk x1 256 <| zl (zsQ z8 142 x0 (Int32.toNatClampNeg x1) none) fun z13 => fX11_letArrive_56 N K11 x0 x1 x2 a5 z13) fun a11 => fX11_letArrive_56 N K11 x0 x1 x2 a5 z8)
def fX11_letArrive_11 (N : Nat)  : Nat → Nat → Int32 → Int32 → St → Option (Int32 × St)
  | 0 => fun _ _ _ _ => none
  | n + 1 => fX11_letArrive_11b N (fX11_letArrive_11 N  n)
set_option maxHeartbeats 4000000 in
set_option maxRecDepth 100000 in
theorem bX11_letArrive_11 (hst : zSt B ids) (F : zFx p m c cX11_letArrive 7 s args RX11 D cy B ids A) (hA : ∀ q : Nat, s.heap.size ≤ q → A q) {r : Int32} {z' : St} (E : zEnd p l e rmX11_letArrive s m args below meth c cX11_letArrive D cy B ids A Q none z' .return_ True) {N : Nat} {K11 : Nat → Int32 → Int32 → St → Option (Int32 × St)} (hK11 : ∀ (x0 : Nat) (x1 : Int32) (x2 : Int32) (hx0 : (11, x0) ∈ ids) {z : St} {H : Heap} {locs : List Loc} {ls : Array Slot} (hr : zRep D cy B ids A s.heap z H locs) (hl : lv_has ls 7 [(0, .ref (B 11 x0)), (1, .int x1), (2, .int x2)]), K11 x0 x1 x2 z = some (r, z') → W p l e rmX11_letArrive s m args below meth c H locs 0 0 Q (F0 m 11 ls [])) (x0 : Nat) (x1 : Int32) (x2 : Int32) (hx0 : (11, x0) ∈ ids) {z : St} {H : Heap} {locs : List Loc} {ls : Array Slot} (hr : zRep D cy B ids A s.heap z H locs) (hl : lv_has ls 7 [(0, .ref (B 11 x0)), (1, .int x1), (2, .int x2)]) (h : fX11_letArrive_11b N K11 x0 x1 x2 z = some (r, z')) : W p l e rmX11_letArrive s m args below meth c H locs 0 0 Q (F0 m 11 ls []) := by
  unfold fX11_letArrive_11b at h
  refine lv_iload_n F.1 F.2.1 dX11_letArrive_11 rfl (lv_at hl 2 rfl) ?_
  refine lv_sipush (v := (512 : Int32)) F.1 F.2.1 dX11_letArrive_12 (by decide) ?_
  refine lv_icmp_ge (tgt := 190) F.1 F.2.1 dX11_letArrive_15 (by decide) (fun c1 => ?_) (fun c1 => ?_)
  · replace h := zi_t c1 h
    obtain ⟨rfl, rfl⟩ := zret h
    exact E _ _ _ _ dX11_letArrive_190 trivial hr
  · replace h := zi_f c1 h
    refine lv_aload_n F.1 F.2.1 dX11_letArrive_18 rfl (lv_at hl 0 rfl) ?_
    refine gf11_23 F hx0 hr dX11_letArrive_19 ?_
    refine lv_iload_n F.1 F.2.1 dX11_letArrive_22 rfl (lv_at hl 1 rfl) ?_
    replace h := zk_some h
    obtain ⟨c2, h⟩ := h
    refine zr_aaldv (k := 141) (by decide) rfl rfl (zlen_d (by decide)) F (zal_a F hx0 (j := 9) rfl) hr dX11_letArrive_23 c2 (fun y3 ey3 => ?_)
    replace h := zl_sub ey3 h
    have hy3 := zal_q hr (zal_a F hx0 (j := 9) rfl) rfl ey3
    clear ey3
    refine zr_astore_n (lv' := [(3, va_rf (Option.map (B 7) y3)), (0, .ref (B 11 x0)), (1, .int x1), (2, .int x2)]) F.1 F.2.1 dX11_letArrive_24 rfl hl (by decide) rfl (fun ls hl => ?_)
    refine zr_aload_n F.1 F.2.1 dX11_letArrive_25 rfl (lv_at hl 0 rfl) ?_
    refine zr_ifnonnull (tgt := 32) F.1 F.2.1 dX11_letArrive_26 (by decide) (fun e4 => ?_) (fun a5 e4 => ?_)
    · replace h := zo_n e4 h
      subst e4
      refine lv_goto (tgt := 190) F.1 F.2.1 dX11_letArrive_29 (by decide) ?_
      obtain ⟨rfl, rfl⟩ := zret h
      exact E _ _ _ _ dX11_letArrive_190 trivial hr
    · replace h := zo_s e4 h
      subst e4
      refine lv_aload_n F.1 F.2.1 dX11_letArrive_32 rfl (lv_at hl 1 rfl) ?_
      refine gf11_23 F hx0 hr dX11_letArrive_33 ?_
      refine lv_iload_n F.1 F.2.1 dX11_letArrive_36 rfl (lv_at hl 2 rfl) ?_
      refine lv_aload_n F.1 F.2.1 dX11_letArrive_37 rfl (lv_at hl 0 rfl) ?_
      refine gf11_58 F (hy3 _ rfl) hr dX11_letArrive_38 (fun y6 ey6 => ?_)
      replace h := zl_sub ey6 h
      have hy6 := zal_g hr (hy3 _ rfl) (j := 14) rfl ey6
      clear ey6
      replace h := zk_some h
      obtain ⟨c7, h⟩ := h
      refine zr_aast (k := 141) (v := y6) (T := TX7) (N := 20) (by decide) rfl (by decide) rfl rfl F (zal_a F hx0 (j := 9) rfl) hr dX11_letArrive_41 (by rw [zlen_d (by decide)]; exact c7) hy6 (fun H locs z8 ez8 hr => ?_)
      replace h := zl_sub ez8 h
      clear ez8
      refine lv_aload_n F.1 F.2.1 dX11_letArrive_42 rfl (lv_at hl 0 rfl) ?_
      refine gf11_58 F (hy3 _ rfl) hr dX11_letArrive_43 (fun y9 ey9 => ?_)
      replace h := zl_sub ey9 h
      have hy9 := zal_g hr (hy3 _ rfl) (j := 14) rfl ey9
      clear ey9
      refine zr_ifnonnull (tgt := 56) F.1 F.2.1 dX11_letArrive_46 (by decide) (fun e10 => ?_) (fun a11 e10 => ?_)
      · replace h := zo_n e10 h
        subst e10
        refine lv_aload_n F.1 F.2.1 dX11_letArrive_49 rfl (lv_at hl 1 rfl) ?_
        refine gf11_27 F hx0 hr dX11_letArrive_50 ?_
        refine lv_iload_n F.1 F.2.1 dX11_letArrive_53 rfl (lv_at hl 2 rfl) ?_
        refine lv_null F.1 F.2.1 dX11_letArrive_54 ?_
        replace h := zk_some h
        obtain ⟨c12, h⟩ := h
        refine zr_aast (k := 142) (v := none) (T := TX7) (N := 20) (by decide) rfl (by decide) rfl rfl F (zal_a F hx0 (j := 10) rfl) hr dX11_letArrive_55 (by rw [zlen_d (by decide)]; exact c12) zal_0 (fun H locs z13 ez13 hr => ?_)
        replace h := zl_sub ez13 h
        clear ez13
        exact bX11_letArrive_56 hst F hA E hK11 x0 x1 x2 a5 hx0 (hy3 _ rfl) hr (lv_sub hl [1, 2, 3, 0] rfl) h
      · replace h := zo_s e10 h
        subst e10
        exact bX11_letArrive_56 hst F hA E hK11 x0 x1 x2 a5 hx0 (hy3 _ rfl) hr (lv_sub hl [1, 2, 3, 0] rfl) h
theorem lX11_letArrive_11 (hst : zSt B ids) (F : zFx p m c cX11_letArrive 7 s args RX11 D cy B ids A) (hA : ∀ q : Nat, s.heap.size ≤ q → A q) {r : Int32} {z' : St} (E : zEnd p l e rmX11_letArrive s m args below meth c cX11_letArrive D cy B ids A Q none z' .return_ True) {N : Nat}  : ∀ (n : Nat) (x0 : Nat) (x1 : Int32) (x2 : Int32) (hx0 : (11, x0) ∈ ids) {z : St} {H : Heap} {locs : List Loc} {ls : Array Slot} (hr : zRep D cy B ids A s.heap z H locs) (hl : lv_has ls 7 [(0, .ref (B 11 x0)), (1, .int x1), (2, .int x2)]), fX11_letArrive_11 N  n x0 x1 x2 z = some (r, z') → W p l e rmX11_letArrive s m args below meth c H locs 0 0 Q (F0 m 11 ls []) := by
  intro n
  induction n with
  | zero => intro x0 x1 x2 hx0 z H locs ls hr hl h; cases h
  | succ n ih => intro x0 x1 x2 hx0 z H locs ls hr hl h; exact bX11_letArrive_11 hst F hA E ih x0 x1 x2 hx0 hr hl h
def fX11_letArrive (N : Nat)  (x0 : Nat) (z : St) : Option (Int32 × St) := zl ((zgI z 11 4 x0) &&& (255 : Int32)) fun v1 => fX11_letArrive_11 N N x0 v1 (0 : Int32) z
set_option maxHeartbeats 4000000 in
set_option maxRecDepth 100000 in
theorem bX11_letArrive_0 (hst : zSt B ids) (F : zFx p m c cX11_letArrive 7 s args RX11 D cy B ids A) (hA : ∀ q : Nat, s.heap.size ≤ q → A q) {r : Int32} {z' : St} (E : zEnd p l e rmX11_letArrive s m args below meth c cX11_letArrive D cy B ids A Q none z' .return_ True) {N : Nat}  (x0 : Nat) (hx0 : (11, x0) ∈ ids) {z : St} {H : Heap} {locs : List Loc} {ls : Array Slot} (hr : zRep D cy B ids A s.heap z H locs) (hl : lv_has ls 7 [(0, .ref (B 11 x0))]) (h : fX11_letArrive N x0 z = some (r, z')) : W p l e rmX11_letArrive s m args below meth c H locs 0 0 Q (F0 m 0 ls []) := by
  unfold fX11_letArrive at h
  refine lv_aload_n F.1 F.2.1 dX11_letArrive_0 rfl (lv_at hl 0 rfl) ?_
  refine gf11_176 F hx0 hr dX11_letArrive_1 ?_
  refine lv_sipush (v := (255 : Int32)) F.1 F.2.1 dX11_letArrive_4 (by decide) ?_
  refine lv_iand F.1 F.2.1 dX11_letArrive_7 ?_
  refine lv_topi (fun v1 ev1 => ?_)
  replace h := zl_sub ev1 h
  refine lv_istore_n (lv' := [(1, .int v1), (0, .ref (B 11 x0))]) F.1 F.2.1 dX11_letArrive_8 rfl hl (by decide) rfl (fun ls hl => ?_)
  refine lv_iconst (v := (0 : Int32)) F.1 F.2.1 dX11_letArrive_9 (by decide) ?_
  refine lv_istore_n (lv' := [(2, .int (0 : Int32)), (1, .int v1), (0, .ref (B 11 x0))]) F.1 F.2.1 dX11_letArrive_10 rfl hl (by decide) rfl (fun ls hl => ?_)
  exact lX11_letArrive_11 hst F hA E  _ x0 v1 (0 : Int32) hx0 hr (lv_sub hl [2, 1, 0] rfl) h
end SX11_letArrive
set_option maxRecDepth 100000 in
theorem okX11_letArrive (l : Launch) (D : va_G) (cy : Nat → ClassId) (B : Nat → Nat → Nat) (ids : List (Nat × Nat)) (hst : zSt B ids) (N : Nat) (x0 : Nat) (hx0 : (11, x0) ∈ ids) {z : St} {r : Int32} {z' : St} (hW : zWf ids z) (h : fX11_letArrive N x0 z = some (r, z')) : zM l yX11_letArrive (zws yX11_letArrive cX11_letArrive 7 none) rmX11_letArrive D cy B ids [.ref (B 11 x0)] none True z z' :=
  zM_of hst hW (by decide +kernel) (Nat.le_of_ble_eq_true rfl) (fun p e s m args below meth c A ls F hA hret hlocks hr hl => bX11_letArrive_0 hst F hA (zEnd_v F hret hlocks) x0 hx0 hr hl h)
abbrev rmX11_givePartialUp : Room := { frames := 1, cells := 0, slots := 0, locals := 20 }
theorem hdX11_givePartialUp : yX11_givePartialUp.cls ≠ "java/lang/invoke/MethodHandle" ∧ yX11_givePartialUp.cls ≠ "java/lang/invoke/VarHandle" ∧ (parseMethodDescriptor yX11_givePartialUp.desc).map (fun d => d.parameters.length) = some 1 := by decide +kernel
theorem hroX11_givePartialUp_X11_stir : rmX11_stir.frames + 1 ≤ rmX11_givePartialUp.frames ∧ 8 + (1 + 11) + rmX11_stir.locals ≤ rmX11_givePartialUp.locals := by decide
section SX11_givePartialUp
variable {p : Program} {l : Launch} {e : Env} {s : State} {m : MethodId} {args : Array Value} {below : List Frame} {meth : Method} {c : Code} {Q : State → Prop} {D : va_G} {cy : Nat → ClassId} {B : Nat → Nat → Nat} {ids : List (Nat × Nat)} {A : Nat → Prop}
def fX11_givePartialUp_47 (N : Nat) (K2 : Nat → Nat → Int32 → St → Option (Int32 × St)) (x0 : Nat) (x1 : Nat) (x2 : Int32) (z : St) : Option (Int32 × St) := zl (x2 + 1) fun v1 => K2 x0 x1 v1 z
set_option maxHeartbeats 4000000 in
set_option maxRecDepth 100000 in
theorem bX11_givePartialUp_47 (hst : zSt B ids) (F : zFx p m c cX11_givePartialUp 3 s args RX11 D cy B ids A) (hA : ∀ q : Nat, s.heap.size ≤ q → A q) {r : Int32} {z' : St} (E : zEnd p l e rmX11_givePartialUp s m args below meth c cX11_givePartialUp D cy B ids A Q none z' .return_ True) {N : Nat} {K2 : Nat → Nat → Int32 → St → Option (Int32 × St)} (hK2 : ∀ (x0 : Nat) (x1 : Nat) (x2 : Int32) (hx0 : (11, x0) ∈ ids) (hx1 : (1, x1) ∈ ids) {z : St} {H : Heap} {locs : List Loc} {ls : Array Slot} (hr : zRep D cy B ids A s.heap z H locs) (hl : lv_has ls 3 [(0, .ref (B 11 x0)), (1, .ref (B 1 x1)), (2, .int x2)]), K2 x0 x1 x2 z = some (r, z') → W p l e rmX11_givePartialUp s m args below meth c H locs 0 0 Q (F0 m 2 ls [])) (x0 : Nat) (x1 : Nat) (x2 : Int32) (hx0 : (11, x0) ∈ ids) (hx1 : (1, x1) ∈ ids) {z : St} {H : Heap} {locs : List Loc} {ls : Array Slot} (hr : zRep D cy B ids A s.heap z H locs) (hl : lv_has ls 3 [(0, .ref (B 11 x0)), (1, .ref (B 1 x1)), (2, .int x2)]) (h : fX11_givePartialUp_47 N K2 x0 x1 x2 z = some (r, z')) : W p l e rmX11_givePartialUp s m args below meth c H locs 0 0 Q (F0 m 47 ls []) := by
  unfold fX11_givePartialUp_47 at h
  obtain ⟨v1, ev1⟩ : ∃ y : Int32, y = (x2 + 1) := ⟨_, rfl⟩
  replace h := zl_sub ev1 h
  refine lv_iinc (v := v1) (lv' := [(2, .int v1), (0, .ref (B 11 x0)), (1, .ref (B 1 x1))]) F.1 F.2.1 dX11_givePartialUp_47 hl (k := 2) rfl (by rw [ev1]; rfl) (by decide) rfl (fun ls hl => ?_)
  refine lv_goto (tgt := 2) F.1 F.2.1 dX11_givePartialUp_50 (by decide) ?_
  exact hK2 x0 x1 v1 hx0 hx1 hr (lv_sub hl [1, 2, 0] rfl) h
def fX11_givePartialUp_2b (N : Nat) (K2 : Nat → Nat → Int32 → St → Option (Int32 × St)) (x0 : Nat) (x1 : Nat) (x2 : Int32) (z : St) : Option (Int32 × St) := if (4 : Int32) ≤ x2 then (some (0, z)) else (zk x2 4 <| if (zgA z 118 x1 (Int32.toNatClampNeg x2)) = 0 then (fX11_givePartialUp_47 N K2 x0 x1 x2 z) else (zk x2 4 <| if (300 : Int32) ≤ ((zgI z 11 4 x0) - (zgA z 117 x1 (Int32.toNatClampNeg x2))) then (zk x2 4 <| zl (zsA z 118 x1 (Int32.toNatClampNeg x2) (0 : Int32)) fun z7 => zc (fX11_stir N x0 z7) fun _ z9 => fX11_givePartialUp_47 N K2 x0 x1 x2 z9) else (fX11_givePartialUp_47 N K2 x0 x1 x2 z)))
def fX11_givePartialUp_2 (N : Nat)  : Nat → Nat → Nat → Int32 → St → Option (Int32 × St)
  | 0 => fun _ _ _ _ => none
  | n + 1 => fX11_givePartialUp_2b N (fX11_givePartialUp_2 N  n)
set_option maxHeartbeats 4000000 in
set_option maxRecDepth 100000 in
theorem bX11_givePartialUp_2 (hst : zSt B ids) (F : zFx p m c cX11_givePartialUp 3 s args RX11 D cy B ids A) (hA : ∀ q : Nat, s.heap.size ≤ q → A q) {r : Int32} {z' : St} (E : zEnd p l e rmX11_givePartialUp s m args below meth c cX11_givePartialUp D cy B ids A Q none z' .return_ True) {N : Nat} {K2 : Nat → Nat → Int32 → St → Option (Int32 × St)} (hK2 : ∀ (x0 : Nat) (x1 : Nat) (x2 : Int32) (hx0 : (11, x0) ∈ ids) (hx1 : (1, x1) ∈ ids) {z : St} {H : Heap} {locs : List Loc} {ls : Array Slot} (hr : zRep D cy B ids A s.heap z H locs) (hl : lv_has ls 3 [(0, .ref (B 11 x0)), (1, .ref (B 1 x1)), (2, .int x2)]), K2 x0 x1 x2 z = some (r, z') → W p l e rmX11_givePartialUp s m args below meth c H locs 0 0 Q (F0 m 2 ls [])) (x0 : Nat) (x1 : Nat) (x2 : Int32) (hx0 : (11, x0) ∈ ids) (hx1 : (1, x1) ∈ ids) {z : St} {H : Heap} {locs : List Loc} {ls : Array Slot} (hr : zRep D cy B ids A s.heap z H locs) (hl : lv_has ls 3 [(0, .ref (B 11 x0)), (1, .ref (B 1 x1)), (2, .int x2)]) (h : fX11_givePartialUp_2b N K2 x0 x1 x2 z = some (r, z')) : W p l e rmX11_givePartialUp s m args below meth c H locs 0 0 Q (F0 m 2 ls []) := by
  unfold fX11_givePartialUp_2b at h
  refine lv_iload_n F.1 F.2.1 dX11_givePartialUp_2 rfl (lv_at hl 2 rfl) ?_
  refine lv_iconst (v := (4 : Int32)) F.1 F.2.1 dX11_givePartialUp_3 (by decide) ?_
  refine lv_icmp_ge (tgt := 53) F.1 F.2.1 dX11_givePartialUp_4 (by decide) (fun c1 => ?_) (fun c1 => ?_)
  · replace h := zi_t c1 h
    obtain ⟨rfl, rfl⟩ := zret h
    exact E _ _ _ _ dX11_givePartialUp_53 trivial hr
  · replace h := zi_f c1 h
    refine lv_aload_n F.1 F.2.1 dX11_givePartialUp_7 rfl (lv_at hl 1 rfl) ?_
    refine gf11_646 F hx1 hr dX11_givePartialUp_8 ?_
    refine lv_iload_n F.1 F.2.1 dX11_givePartialUp_11 rfl (lv_at hl 2 rfl) ?_
    replace h := zk_some h
    obtain ⟨c2, h⟩ := h
    refine zr_iald (k := 118) (by decide) rfl (by decide) F (zal_a F hx1 (j := 8) rfl) hr dX11_givePartialUp_12 c2 ?_
    refine lv_if_eq (tgt := 47) F.1 F.2.1 dX11_givePartialUp_13 (by decide) (fun c3 => ?_) (fun c3 => ?_)
    · replace h := zi_t c3 h
      exact bX11_givePartialUp_47 hst F hA E hK2 x0 x1 x2 hx0 hx1 hr (lv_sub hl [0, 1, 2] rfl) h
    · replace h := zi_f c3 h
      refine lv_aload_n F.1 F.2.1 dX11_givePartialUp_16 rfl (lv_at hl 0 rfl) ?_
      refine gf11_176 F hx0 hr dX11_givePartialUp_17 ?_
      refine lv_aload_n F.1 F.2.1 dX11_givePartialUp_20 rfl (lv_at hl 1 rfl) ?_
      refine gf11_652 F hx1 hr dX11_givePartialUp_21 ?_
      refine lv_iload_n F.1 F.2.1 dX11_givePartialUp_24 rfl (lv_at hl 2 rfl) ?_
      replace h := zk_some h
      obtain ⟨c4, h⟩ := h
      refine zr_iald (k := 117) (by decide) rfl (by decide) F (zal_a F hx1 (j := 7) rfl) hr dX11_givePartialUp_25 c4 ?_
      refine lv_isub F.1 F.2.1 dX11_givePartialUp_26 ?_
      refine lv_sipush (v := (300 : Int32)) F.1 F.2.1 dX11_givePartialUp_27 (by decide) ?_
      refine lv_icmp_ge (tgt := 36) F.1 F.2.1 dX11_givePartialUp_30 (by decide) (fun c5 => ?_) (fun c5 => ?_)
      · replace h := zi_t c5 h
        refine lv_aload_n F.1 F.2.1 dX11_givePartialUp_36 rfl (lv_at hl 1 rfl) ?_
        refine gf11_646 F hx1 hr dX11_givePartialUp_37 ?_
        refine lv_iload_n F.1 F.2.1 dX11_givePartialUp_40 rfl (lv_at hl 2 rfl) ?_
        refine lv_iconst (v := (0 : Int32)) F.1 F.2.1 dX11_givePartialUp_41 (by decide) ?_
        replace h := zk_some h
        obtain ⟨c6, h⟩ := h
        refine zr_iast (k := 118) (by decide) rfl (by decide) F (zal_a F hx1 (j := 8) rfl) hr dX11_givePartialUp_42 c6 (fun H locs z7 ez7 hr => ?_)
        replace h := zl_sub ez7 h
        clear ez7
        refine lv_aload_n F.1 F.2.1 dX11_givePartialUp_43 rfl (lv_at hl 0 rfl) ?_
        replace h := zc_some h
        obtain ⟨r8, z9, hc10, h⟩ := h
        refine zr_callv (zrun_V (As := []) (rest := []) zq_858 zq_860 zs_X11_stir zq_861 zq_1 hdX11_stir (by decide) (T := TX11) (N := 21) rfl (okX11_stir l D cy B ids hst N x0 hx0 hr.2.2 hc10) F hr hx0 hl.1 rfl (by decide) dX11_givePartialUp_44 rfl rfl hroX11_givePartialUp_X11_stir ⟨Nat.zero_le _, Nat.zero_le _⟩) F hA hr (fun H locs hw11 hr => ?_)
        clear hc10
        exact bX11_givePartialUp_47 hst F hA E hK2 x0 x1 x2 hx0 hx1 hr (lv_sub hl [0, 1, 2] rfl) h
      · replace h := zi_f c5 h
        refine lv_goto (tgt := 47) F.1 F.2.1 dX11_givePartialUp_33 (by decide) ?_
        exact bX11_givePartialUp_47 hst F hA E hK2 x0 x1 x2 hx0 hx1 hr (lv_sub hl [0, 1, 2] rfl) h
theorem lX11_givePartialUp_2 (hst : zSt B ids) (F : zFx p m c cX11_givePartialUp 3 s args RX11 D cy B ids A) (hA : ∀ q : Nat, s.heap.size ≤ q → A q) {r : Int32} {z' : St} (E : zEnd p l e rmX11_givePartialUp s m args below meth c cX11_givePartialUp D cy B ids A Q none z' .return_ True) {N : Nat}  : ∀ (n : Nat) (x0 : Nat) (x1 : Nat) (x2 : Int32) (hx0 : (11, x0) ∈ ids) (hx1 : (1, x1) ∈ ids) {z : St} {H : Heap} {locs : List Loc} {ls : Array Slot} (hr : zRep D cy B ids A s.heap z H locs) (hl : lv_has ls 3 [(0, .ref (B 11 x0)), (1, .ref (B 1 x1)), (2, .int x2)]), fX11_givePartialUp_2 N  n x0 x1 x2 z = some (r, z') → W p l e rmX11_givePartialUp s m args below meth c H locs 0 0 Q (F0 m 2 ls []) := by
  intro n
  induction n with
  | zero => intro x0 x1 x2 hx0 hx1 z H locs ls hr hl h; cases h
  | succ n ih => intro x0 x1 x2 hx0 hx1 z H locs ls hr hl h; exact bX11_givePartialUp_2 hst F hA E ih x0 x1 x2 hx0 hx1 hr hl h
def fX11_givePartialUp (N : Nat)  (x0 : Nat) (x1 : Nat) (z : St) : Option (Int32 × St) := fX11_givePartialUp_2 N N x0 x1 (0 : Int32) z
set_option maxHeartbeats 4000000 in
set_option maxRecDepth 100000 in
theorem bX11_givePartialUp_0 (hst : zSt B ids) (F : zFx p m c cX11_givePartialUp 3 s args RX11 D cy B ids A) (hA : ∀ q : Nat, s.heap.size ≤ q → A q) {r : Int32} {z' : St} (E : zEnd p l e rmX11_givePartialUp s m args below meth c cX11_givePartialUp D cy B ids A Q none z' .return_ True) {N : Nat}  (x0 : Nat) (x1 : Nat) (hx0 : (11, x0) ∈ ids) (hx1 : (1, x1) ∈ ids) {z : St} {H : Heap} {locs : List Loc} {ls : Array Slot} (hr : zRep D cy B ids A s.heap z H locs) (hl : lv_has ls 3 [(0, .ref (B 11 x0)), (1, .ref (B 1 x1))]) (h : fX11_givePartialUp N x0 x1 z = some (r, z')) : W p l e rmX11_givePartialUp s m args below meth c H locs 0 0 Q (F0 m 0 ls []) := by
  unfold fX11_givePartialUp at h
  refine lv_iconst (v := (0 : Int32)) F.1 F.2.1 dX11_givePartialUp_0 (by decide) ?_
  refine lv_istore_n (lv' := [(2, .int (0 : Int32)), (0, .ref (B 11 x0)), (1, .ref (B 1 x1))]) F.1 F.2.1 dX11_givePartialUp_1 rfl hl (by decide) rfl (fun ls hl => ?_)
  exact lX11_givePartialUp_2 hst F hA E  _ x0 x1 (0 : Int32) hx0 hx1 hr (lv_sub hl [1, 2, 0] rfl) h
end SX11_givePartialUp
set_option maxRecDepth 100000 in
theorem okX11_givePartialUp (l : Launch) (D : va_G) (cy : Nat → ClassId) (B : Nat → Nat → Nat) (ids : List (Nat × Nat)) (hst : zSt B ids) (N : Nat) (x0 : Nat) (hx0 : (11, x0) ∈ ids) (x1 : Nat) (hx1 : (1, x1) ∈ ids) {z : St} {r : Int32} {z' : St} (hW : zWf ids z) (h : fX11_givePartialUp N x0 x1 z = some (r, z')) : zM l yX11_givePartialUp (zws yX11_givePartialUp cX11_givePartialUp 3 none) rmX11_givePartialUp D cy B ids [.ref (B 11 x0), .ref (B 1 x1)] none True z z' :=
  zM_of hst hW (by decide +kernel) (Nat.le_of_ble_eq_true rfl) (fun p e s m args below meth c A ls F hA hret hlocks hr hl => bX11_givePartialUp_0 hst F hA (zEnd_v F hret hlocks) x0 x1 hx0 hx1 hr hl h)
abbrev rmX11_doAskings : Room := { frames := 6, cells := 0, slots := 0, locals := 187 }
theorem hdX11_doAskings : yX11_doAskings.cls ≠ "java/lang/invoke/MethodHandle" ∧ yX11_doAskings.cls ≠ "java/lang/invoke/VarHandle" ∧ (parseMethodDescriptor yX11_doAskings.desc).map (fun d => d.parameters.length) = some 1 := by decide +kernel
theorem hroX11_doAskings_X11_comeBack : rmX11_comeBack.frames + 1 ≤ rmX11_doAskings.frames ∧ 8 + (5 + 11) + rmX11_comeBack.locals ≤ rmX11_doAskings.locals := by decide
theorem hroX11_doAskings_X11_putNote : rmX11_putNote.frames + 1 ≤ rmX11_doAskings.frames ∧ 8 + (5 + 11) + rmX11_putNote.locals ≤ rmX11_doAskings.locals := by decide
theorem hroX11_doAskings_X11_sendOff : rmX11_sendOff.frames + 1 ≤ rmX11_doAskings.frames ∧ 8 + (4 + 11) + rmX11_sendOff.locals ≤ rmX11_doAskings.locals := by decide
theorem hroX11_doAskings_X5_addressOf : rmX5_addressOf.frames + 1 ≤ rmX11_doAskings.frames ∧ 8 + (2 + 11) + rmX5_addressOf.locals ≤ rmX11_doAskings.locals := by decide
theorem hroX11_doAskings_X8_countWaitingFor : rmX8_countWaitingFor.frames + 1 ≤ rmX11_doAskings.frames ∧ 8 + (4 + 11) + rmX8_countWaitingFor.locals ≤ rmX11_doAskings.locals := by decide
theorem hroX11_doAskings_X8_endAsking : rmX8_endAsking.frames + 1 ≤ rmX11_doAskings.frames ∧ 8 + (4 + 11) + rmX8_endAsking.locals ≤ rmX11_doAskings.locals := by decide
theorem hroX11_doAskings_X8_firstWaitingFor : rmX8_firstWaitingFor.frames + 1 ≤ rmX11_doAskings.frames ∧ 8 + (3 + 11) + rmX8_firstWaitingFor.locals ≤ rmX11_doAskings.locals := by decide
theorem hroX11_doAskings_X8_isAsked : rmX8_isAsked.frames + 1 ≤ rmX11_doAskings.frames ∧ 8 + (2 + 11) + rmX8_isAsked.locals ≤ rmX11_doAskings.locals := by decide
theorem hroX11_doAskings_X8_rememberAsked : rmX8_rememberAsked.frames + 1 ≤ rmX11_doAskings.frames ∧ 8 + (2 + 11) + rmX8_rememberAsked.locals ≤ rmX11_doAskings.locals := by decide
theorem hroX11_doAskings_X8_takeWaiting : rmX8_takeWaiting.frames + 1 ≤ rmX11_doAskings.frames ∧ 8 + (4 + 11) + rmX8_takeWaiting.locals ≤ rmX11_doAskings.locals := by decide
section SX11_doAskings
variable {p : Program} {l : Launch} {e : Env} {s : State} {m : MethodId} {args : Array Value} {below : List Frame} {meth : Method} {c : Code} {Q : State → Prop} {D : va_G} {cy : Nat → ClassId} {B : Nat → Nat → Nat} {ids : List (Nat × Nat)} {A : Nat → Prop}
def fX11_doAskings_185 (N : Nat) (K2 : Nat → Nat → Int32 → St → Option (Int32 × St)) (K26 : Nat → Nat → Int32 → Nat → Int32 → Int32 → St → Option (Int32 × St)) (K126 : Nat → Nat → Int32 → Nat → Int32 → Int32 → Int32 → Int32 → Int32 → St → Option (Int32 × St)) (x0 : Nat) (x1 : Nat) (x2 : Int32) (x3 : Nat) (x4 : Int32) (x5 : Int32) (x6 : Int32) (x8 : Int32) (x9 : Int32) (z : St) : Option (Int32 × St) := zl (x9 + 1) fun v1 => K126 x0 x1 x2 x3 x4 x5 x6 x8 v1 z
set_option maxHeartbeats 4000000 in
set_option maxRecDepth 100000 in
theorem bX11_doAskings_185 (hst : zSt B ids) (F : zFx p m c cX11_doAskings 11 s args RX11 D cy B ids A) (hA : ∀ q : Nat, s.heap.size ≤ q → A q) {r : Int32} {z' : St} (E : zEnd p l e rmX11_doAskings s m args below meth c cX11_doAskings D cy B ids A Q none z' .return_ True) {N : Nat} {K2 : Nat → Nat → Int32 → St → Option (Int32 × St)} {K26 : Nat → Nat → Int32 → Nat → Int32 → Int32 → St → Option (Int32 × St)} {K126 : Nat → Nat → Int32 → Nat → Int32 → Int32 → Int32 → Int32 → Int32 → St → Option (Int32 × St)} (hK2 : ∀ (x0 : Nat) (x1 : Nat) (x2 : Int32) (hx0 : (11, x0) ∈ ids) (hx1 : (1, x1) ∈ ids) {z : St} {H : Heap} {locs : List Loc} {ls : Array Slot} (hr : zRep D cy B ids A s.heap z H locs) (hl : lv_has ls 11 [(0, .ref (B 11 x0)), (1, .ref (B 1 x1)), (2, .int x2)]), K2 x0 x1 x2 z = some (r, z') → W p l e rmX11_doAskings s m args below meth c H locs 0 0 Q (F0 m 2 ls [])) (hK26 : ∀ (x0 : Nat) (x1 : Nat) (x2 : Int32) (x3 : Nat) (x4 : Int32) (x5 : Int32) (hx0 : (11, x0) ∈ ids) (hx1 : (1, x1) ∈ ids) (hx3 : (8, x3) ∈ ids) {z : St} {H : Heap} {locs : List Loc} {ls : Array Slot} (hr : zRep D cy B ids A s.heap z H locs) (hl : lv_has ls 11 [(0, .ref (B 11 x0)), (1, .ref (B 1 x1)), (2, .int x2), (3, .ref (B 8 x3)), (4, .int x4), (5, .int x5)]), K26 x0 x1 x2 x3 x4 x5 z = some (r, z') → W p l e rmX11_doAskings s m args below meth c H locs 0 0 Q (F0 m 26 ls [])) (hK126 : ∀ (x0 : Nat) (x1 : Nat) (x2 : Int32) (x3 : Nat) (x4 : Int32) (x5 : Int32) (x6 : Int32) (x8 : Int32) (x9 : Int32) (hx0 : (11, x0) ∈ ids) (hx1 : (1, x1) ∈ ids) (hx3 : (8, x3) ∈ ids) {z : St} {H : Heap} {locs : List Loc} {ls : Array Slot} (hr : zRep D cy B ids A s.heap z H locs) (hl : lv_has ls 11 [(0, .ref (B 11 x0)), (1, .ref (B 1 x1)), (2, .int x2), (3, .ref (B 8 x3)), (4, .int x4), (5, .int x5), (6, .int x6), (8, .int x8), (9, .int x9)]), K126 x0 x1 x2 x3 x4 x5 x6 x8 x9 z = some (r, z') → W p l e rmX11_doAskings s m args below meth c H locs 0 0 Q (F0 m 126 ls [])) (x0 : Nat) (x1 : Nat) (x2 : Int32) (x3 : Nat) (x4 : Int32) (x5 : Int32) (x6 : Int32) (x8 : Int32) (x9 : Int32) (hx0 : (11, x0) ∈ ids) (hx1 : (1, x1) ∈ ids) (hx3 : (8, x3) ∈ ids) {z : St} {H : Heap} {locs : List Loc} {ls : Array Slot} (hr : zRep D cy B ids A s.heap z H locs) (hl : lv_has ls 11 [(0, .ref (B 11 x0)), (1, .ref (B 1 x1)), (2, .int x2), (3, .ref (B 8 x3)), (4, .int x4), (5, .int x5), (6, .int x6), (8, .int x8), (9, .int x9)]) (h : fX11_doAskings_185 N K2 K26 K126 x0 x1 x2 x3 x4 x5 x6 x8 x9 z = some (r, z')) : W p l e rmX11_doAskings s m args below meth c H locs 0 0 Q (F0 m 185 ls []) := by
  unfold fX11_doAskings_185 at h
  obtain ⟨v1, ev1⟩ : ∃ y : Int32, y = (x9 + 1) := ⟨_, rfl⟩
  replace h := zl_sub ev1 h
  refine lv_iinc (v := v1) (lv' := [(9, .int v1), (0, .ref (B 11 x0)), (1, .ref (B 1 x1)), (2, .int x2), (3, .ref (B 8 x3)), (4, .int x4), (5, .int x5), (6, .int x6), (8, .int x8)]) F.1 F.2.1 dX11_doAskings_185 hl (k := 8) rfl (by rw [ev1]; rfl) (by decide) rfl (fun ls hl => ?_)
  refine lv_goto (tgt := 126) F.1 F.2.1 dX11_doAskings_188 (by decide) ?_
  exact hK126 x0 x1 x2 x3 x4 x5 x6 x8 v1 hx0 hx1 hx3 hr (lv_sub hl [1, 2, 3, 4, 5, 6, 7, 8, 0] rfl) h
def fX11_doAskings_191 (N : Nat) (K2 : Nat → Nat → Int32 → St → Option (Int32 × St)) (K26 : Nat → Nat → Int32 → Nat → Int32 → Int32 → St → Option (Int32 × St)) (x0 : Nat) (x1 : Nat) (x2 : Int32) (x3 : Nat) (x4 : Int32) (x5 : Int32) (z : St) : Option (Int32 × St) := zl (x5 + 1) fun v1 => K26 x0 x1 x2 x3 x4 v1 z
set_option maxHeartbeats 4000000 in
set_option maxRecDepth 100000 in
theorem bX11_doAskings_191 (hst : zSt B ids) (F : zFx p m c cX11_doAskings 11 s args RX11 D cy B ids A) (hA : ∀ q : Nat, s.heap.size ≤ q → A q) {r : Int32} {z' : St} (E : zEnd p l e rmX11_doAskings s m args below meth c cX11_doAskings D cy B ids A Q none z' .return_ True) {N : Nat} {K2 : Nat → Nat → Int32 → St → Option (Int32 × St)} {K26 : Nat → Nat → Int32 → Nat → Int32 → Int32 → St → Option (Int32 × St)} (hK2 : ∀ (x0 : Nat) (x1 : Nat) (x2 : Int32) (hx0 : (11, x0) ∈ ids) (hx1 : (1, x1) ∈ ids) {z : St} {H : Heap} {locs : List Loc} {ls : Array Slot} (hr : zRep D cy B ids A s.heap z H locs) (hl : lv_has ls 11 [(0, .ref (B 11 x0)), (1, .ref (B 1 x1)), (2, .int x2)]), K2 x0 x1 x2 z = some (r, z') → W p l e rmX11_doAskings s m args below meth c H locs 0 0 Q (F0 m 2 ls [])) (hK26 : ∀ (x0 : Nat) (x1 : Nat) (x2 : Int32) (x3 : Nat) (x4 : Int32) (x5 : Int32) (hx0 : (11, x0) ∈ ids) (hx1 : (1, x1) ∈ ids) (hx3 : (8, x3) ∈ ids) {z : St} {H : Heap} {locs : List Loc} {ls : Array Slot} (hr : zRep D cy B ids A s.heap z H locs) (hl : lv_has ls 11 [(0, .ref (B 11 x0)), (1, .ref (B 1 x1)), (2, .int x2), (3, .ref (B 8 x3)), (4, .int x4), (5, .int x5)]), K26 x0 x1 x2 x3 x4 x5 z = some (r, z') → W p l e rmX11_doAskings s m args below meth c H locs 0 0 Q (F0 m 26 ls [])) (x0 : Nat) (x1 : Nat) (x2 : Int32) (x3 : Nat) (x4 : Int32) (x5 : Int32) (hx0 : (11, x0) ∈ ids) (hx1 : (1, x1) ∈ ids) (hx3 : (8, x3) ∈ ids) {z : St} {H : Heap} {locs : List Loc} {ls : Array Slot} (hr : zRep D cy B ids A s.heap z H locs) (hl : lv_has ls 11 [(0, .ref (B 11 x0)), (1, .ref (B 1 x1)), (2, .int x2), (3, .ref (B 8 x3)), (4, .int x4), (5, .int x5)]) (h : fX11_doAskings_191 N K2 K26 x0 x1 x2 x3 x4 x5 z = some (r, z')) : W p l e rmX11_doAskings s m args below meth c H locs 0 0 Q (F0 m 191 ls []) := by
  unfold fX11_doAskings_191 at h
  obtain ⟨v1, ev1⟩ : ∃ y : Int32, y = (x5 + 1) := ⟨_, rfl⟩
  replace h := zl_sub ev1 h
  refine lv_iinc (v := v1) (lv' := [(5, .int v1), (0, .ref (B 11 x0)), (1, .ref (B 1 x1)), (2, .int x2), (3, .ref (B 8 x3)), (4, .int x4)]) F.1 F.2.1 dX11_doAskings_191 hl (k := 5) rfl (by rw [ev1]; rfl) (by decide) rfl (fun ls hl => ?_)
  refine lv_goto (tgt := 26) F.1 F.2.1 dX11_doAskings_194 (by decide) ?_
  exact hK26 x0 x1 x2 x3 x4 v1 hx0 hx1 hx3 hr (lv_sub hl [1, 2, 3, 4, 5, 0] rfl) h
def fX11_doAskings_126b (N : Nat) (K2 : Nat → Nat → Int32 → St → Option (Int32 × St)) (K26 : Nat → Nat → Int32 → Nat → Int32 → Int32 → St → Option (Int32 × St)) (K126 : Nat → Nat → Int32 → Nat → Int32 → Int32 → Int32 → Int32 → Int32 → St → Option (Int32 × St)) (x0 : Nat) (x1 : Nat) (x2 : Int32) (x3 : Nat) (x4 : Int32) (x5 : Int32) (x6 : Int32) (x8 : Int32) (x9 : Int32) (z : St) : Option (Int32 × St) := if x8 ≤ x9 then (fX11_doAskings_191 N K2 K26 x0 x1 x2 x3 x4 x5 z) else (zc (fX8_firstWaitingFor N x3 x6 z) fun r2 z3 => if 0 ≤ r2 then (zc (fX8_takeWaiting N x3 r2 z3) fun r7 z8 => zd r7 fun a11 => zc (fX11_comeBack N x0 x1 a11 (1 : Int32) z8) fun _ z13 => if ¬ (zgI z13 11 15 x0) = 0 then (zl (zsI z13 11 15 x0 (0 : Int32)) fun z17 => zl (zgR z17 11 13 x0) fun y18 => zd y18 fun a19 => zc (fX11_sendOff N x0 x1 a19 z17) fun _ z21 => fX11_doAskings_185 N K2 K26 K126 x0 x1 x2 x3 x4 x5 x6 x8 x9 z21) else (fX11_doAskings_185 N K2 K26 K126 x0 x1 x2 x3 x4 x5 x6 x8 x9 z13)) else (fX11_doAskings_191 N K2 K26 x0 x1 x2 x3 x4 x5 z3))
def fX11_doAskings_126 (N : Nat) (K2 : Nat → Nat → Int32 → St → Option (Int32 × St)) (K26 : Nat → Nat → Int32 → Nat → Int32 → Int32 → St → Option (Int32 × St)) : Nat → Nat → Nat → Int32 → Nat → Int32 → Int32 → Int32 → Int32 → Int32 → St → Option (Int32 × St)
  | 0 => fun _ _ _ _ _ _ _ _ _ _ => none
  | n + 1 => fX11_doAskings_126b N K2 K26 (fX11_doAskings_126 N K2 K26 n)
set_option maxHeartbeats 4000000 in
set_option maxRecDepth 100000 in
theorem bX11_doAskings_126 (hst : zSt B ids) (F : zFx p m c cX11_doAskings 11 s args RX11 D cy B ids A) (hA : ∀ q : Nat, s.heap.size ≤ q → A q) {r : Int32} {z' : St} (E : zEnd p l e rmX11_doAskings s m args below meth c cX11_doAskings D cy B ids A Q none z' .return_ True) {N : Nat} {K2 : Nat → Nat → Int32 → St → Option (Int32 × St)} {K26 : Nat → Nat → Int32 → Nat → Int32 → Int32 → St → Option (Int32 × St)} {K126 : Nat → Nat → Int32 → Nat → Int32 → Int32 → Int32 → Int32 → Int32 → St → Option (Int32 × St)} (hK2 : ∀ (x0 : Nat) (x1 : Nat) (x2 : Int32) (hx0 : (11, x0) ∈ ids) (hx1 : (1, x1) ∈ ids) {z : St} {H : Heap} {locs : List Loc} {ls : Array Slot} (hr : zRep D cy B ids A s.heap z H locs) (hl : lv_has ls 11 [(0, .ref (B 11 x0)), (1, .ref (B 1 x1)), (2, .int x2)]), K2 x0 x1 x2 z = some (r, z') → W p l e rmX11_doAskings s m args below meth c H locs 0 0 Q (F0 m 2 ls [])) (hK26 : ∀ (x0 : Nat) (x1 : Nat) (x2 : Int32) (x3 : Nat) (x4 : Int32) (x5 : Int32) (hx0 : (11, x0) ∈ ids) (hx1 : (1, x1) ∈ ids) (hx3 : (8, x3) ∈ ids) {z : St} {H : Heap} {locs : List Loc} {ls : Array Slot} (hr : zRep D cy B ids A s.heap z H locs) (hl : lv_has ls 11 [(0, .ref (B 11 x0)), (1, .ref (B 1 x1)), (2, .int x2), (3, .ref (B 8 x3)), (4, .int x4), (5, .int x5)]), K26 x0 x1 x2 x3 x4 x5 z = some (r, z') → W p l e rmX11_doAskings s m args below meth c H locs 0 0 Q (F0 m 26 ls [])) (hK126 : ∀ (x0 : Nat) (x1 : Nat) (x2 : Int32) (x3 : Nat) (x4 : Int32) (x5 : Int32) (x6 : Int32) (x8 : Int32) (x9 : Int32) (hx0 : (11, x0) ∈ ids) (hx1 : (1, x1) ∈ ids) (hx3 : (8, x3) ∈ ids) {z : St} {H : Heap} {locs : List Loc} {ls : Array Slot} (hr : zRep D cy B ids A s.heap z H locs) (hl : lv_has ls 11 [(0, .ref (B 11 x0)), (1, .ref (B 1 x1)), (2, .int x2), (3, .ref (B 8 x3)), (4, .int x4), (5, .int x5), (6, .int x6), (8, .int x8), (9, .int x9)]), K126 x0 x1 x2 x3 x4 x5 x6 x8 x9 z = some (r, z') → W p l e rmX11_doAskings s m args below meth c H locs 0 0 Q (F0 m 126 ls [])) (x0 : Nat) (x1 : Nat) (x2 : Int32) (x3 : Nat) (x4 : Int32) (x5 : Int32) (x6 : Int32) (x8 : Int32) (x9 : Int32) (hx0 : (11, x0) ∈ ids) (hx1 : (1, x1) ∈ ids) (hx3 : (8, x3) ∈ ids) {z : St} {H : Heap} {locs : List Loc} {ls : Array Slot} (hr : zRep D cy B ids A s.heap z H locs) (hl : lv_has ls 11 [(0, .ref (B 11 x0)), (1, .ref (B 1 x1)), (2, .int x2), (3, .ref (B 8 x3)), (4, .int x4), (5, .int x5), (6, .int x6), (8, .int x8), (9, .int x9)]) (h : fX11_doAskings_126b N K2 K26 K126 x0 x1 x2 x3 x4 x5 x6 x8 x9 z = some (r, z')) : W p l e rmX11_doAskings s m args below meth c H locs 0 0 Q (F0 m 126 ls []) := by
  unfold fX11_doAskings_126b at h
  refine lv_iload F.1 F.2.1 dX11_doAskings_126 (lv_at hl 8 rfl) ?_
  refine lv_iload F.1 F.2.1 dX11_doAskings_128 (lv_at hl 7 rfl) ?_
  refine lv_icmp_ge (tgt := 191) F.1 F.2.1 dX11_doAskings_130 (by decide) (fun c1 => ?_) (fun c1 => ?_)
  · replace h := zi_t c1 h
    exact bX11_doAskings_191 hst F hA E hK2 hK26 x0 x1 x2 x3 x4 x5 hx0 hx1 hx3 hr (lv_sub hl [0, 1, 2, 3, 4, 5] rfl) h
  · replace h := zi_f c1 h
    refine lv_aload_n F.1 F.2.1 dX11_doAskings_133 rfl (lv_at hl 3 rfl) ?_
    refine lv_iload F.1 F.2.1 dX11_doAskings_134 (lv_at hl 6 rfl) ?_
    replace h := zc_some h
    obtain ⟨r2, z3, hc4, h⟩ := h
    refine zr_calli (zrun_VN (As := [.int x6]) (rest := []) zn_1051 zq_1053 zs_X8_firstWaitingFor zq_1054 zq_24 hdX8_firstWaitingFor (by decide) (T := TX8) (N := 13) rfl (okX8_firstWaitingFor l D cy B ids hst N x3 hx3 x6  hr.2.2 hc4) F hr hx3 hl.1 rfl (by decide) dX11_doAskings_136 rfl rfl hroX11_doAskings_X8_firstWaitingFor ⟨Nat.zero_le _, Nat.zero_le _⟩) F hA hr (fun H locs hw5 hr => ?_)
    clear hc4
    refine lv_istore (lv' := [(10, .int r2), (0, .ref (B 11 x0)), (1, .ref (B 1 x1)), (2, .int x2), (3, .ref (B 8 x3)), (4, .int x4), (5, .int x5), (6, .int x6), (8, .int x8), (9, .int x9)]) F.1 F.2.1 dX11_doAskings_139 hl (by decide) rfl (fun ls hl => ?_)
    refine lv_iload F.1 F.2.1 dX11_doAskings_141 (lv_at hl 0 rfl) ?_
    refine lv_if_ge (tgt := 149) F.1 F.2.1 dX11_doAskings_143 (by decide) (fun c6 => ?_) (fun c6 => ?_)
    · replace h := zi_t c6 h
      refine lv_aload_n F.1 F.2.1 dX11_doAskings_149 rfl (lv_at hl 1 rfl) ?_
      refine lv_aload_n F.1 F.2.1 dX11_doAskings_150 rfl (lv_at hl 2 rfl) ?_
      refine lv_aload_n F.1 F.2.1 dX11_doAskings_151 rfl (lv_at hl 4 rfl) ?_
      refine lv_iload F.1 F.2.1 dX11_doAskings_152 (lv_at hl 0 rfl) ?_
      replace h := zc_some h
      obtain ⟨r7, z8, hc9, h⟩ := h
      refine zr_callr (zrun_VN (As := [.int r2]) (rest := [.ref (B 1 x1), .ref (B 11 x0)]) zn_1055 zq_1057 zs_X8_takeWaiting zq_1058 zq_24 hdX8_takeWaiting (by decide) (T := TX8) (N := 13) rfl (okX8_takeWaiting l D cy B ids hst N x3 hx3 r2  hr.2.2 hc9) F hr hx3 hl.1 rfl (Nat.le_of_ble_eq_true rfl) dX11_doAskings_154 rfl rfl hroX11_doAskings_X8_takeWaiting ⟨Nat.zero_le _, Nat.zero_le _⟩) F hA hr (fun H locs hw10 hr => ?_)
      clear hc9
      refine lv_iconst (v := (1 : Int32)) F.1 F.2.1 dX11_doAskings_157 (by decide) ?_
      replace h := zd_some h
      obtain ⟨a11, rfl, h⟩ := h
      replace h := zc_some h
      obtain ⟨r12, z13, hc14, h⟩ := h
      refine zr_callv (zrun_V (As := [.ref (B 1 x1), .ref (B 7 a11), .int (1 : Int32)]) (rest := []) zq_1422 zq_1424 zs_X11_comeBack zq_1425 zq_1 hdX11_comeBack (by decide) (T := TX11) (N := 21) rfl (okX11_comeBack l D cy B ids hst N x0 hx0 x1 hx1 a11 (hw10 _ rfl) (1 : Int32)  hr.2.2 hc14) F hr hx0 hl.1 rfl (by decide) dX11_doAskings_158 rfl rfl hroX11_doAskings_X11_comeBack ⟨Nat.zero_le _, Nat.zero_le _⟩) F hA hr (fun H locs hw15 hr => ?_)
      clear hc14
      refine lv_aload_n F.1 F.2.1 dX11_doAskings_161 rfl (lv_at hl 1 rfl) ?_
      refine gf11_586 F hx0 hr dX11_doAskings_162 ?_
      refine lv_if_ne (tgt := 171) F.1 F.2.1 dX11_doAskings_165 (by decide) (fun c16 => ?_) (fun c16 => ?_)
      · replace h := zi_t c16 h
        refine lv_aload_n F.1 F.2.1 dX11_doAskings_171 rfl (lv_at hl 1 rfl) ?_
        refine lv_iconst (v := (0 : Int32)) F.1 F.2.1 dX11_doAskings_172 (by decide) ?_
        refine pf11_586 F hx0 hr dX11_doAskings_173 (0 : Int32) (by decide) (fun H locs z17 ez17 hr => ?_)
        replace h := zl_sub ez17 h
        clear ez17
        refine lv_aload_n F.1 F.2.1 dX11_doAskings_176 rfl (lv_at hl 1 rfl) ?_
        refine lv_aload_n F.1 F.2.1 dX11_doAskings_177 rfl (lv_at hl 2 rfl) ?_
        refine lv_aload_n F.1 F.2.1 dX11_doAskings_178 rfl (lv_at hl 1 rfl) ?_
        refine gf11_31 F hx0 hr dX11_doAskings_179 (fun y18 ey18 => ?_)
        replace h := zl_sub ey18 h
        have hy18 := zal_g hr hx0 (j := 13) rfl ey18
        clear ey18
        replace h := zd_some h
        obtain ⟨a19, rfl, h⟩ := h
        replace h := zc_some h
        obtain ⟨r20, z21, hc22, h⟩ := h
        refine zr_callv (zrun_V (As := [.ref (B 1 x1), .ref (B 7 a19)]) (rest := []) zq_1453 zq_1455 zs_X11_sendOff zq_1456 zq_1 hdX11_sendOff (by decide) (T := TX11) (N := 21) rfl (okX11_sendOff l D cy B ids hst N x0 hx0 x1 hx1 a19 (hy18 _ rfl) hr.2.2 hc22) F hr hx0 hl.1 rfl (by decide) dX11_doAskings_182 rfl rfl hroX11_doAskings_X11_sendOff ⟨Nat.zero_le _, Nat.zero_le _⟩) F hA hr (fun H locs hw23 hr => ?_)
        clear hc22
        exact bX11_doAskings_185 hst F hA E hK2 hK26 hK126 x0 x1 x2 x3 x4 x5 x6 x8 x9 hx0 hx1 hx3 hr (lv_sub hl [1, 2, 3, 4, 5, 6, 7, 8, 9] rfl) h
      · replace h := zi_f (fun q => q c16) h
        refine lv_goto (tgt := 185) F.1 F.2.1 dX11_doAskings_168 (by decide) ?_
        exact bX11_doAskings_185 hst F hA E hK2 hK26 hK126 x0 x1 x2 x3 x4 x5 x6 x8 x9 hx0 hx1 hx3 hr (lv_sub hl [1, 2, 3, 4, 5, 6, 7, 8, 9] rfl) h
    · replace h := zi_f c6 h
      refine lv_goto (tgt := 191) F.1 F.2.1 dX11_doAskings_146 (by decide) ?_
      exact bX11_doAskings_191 hst F hA E hK2 hK26 x0 x1 x2 x3 x4 x5 hx0 hx1 hx3 hr (lv_sub hl [1, 2, 3, 4, 5, 6] rfl) h
theorem lX11_doAskings_126 (hst : zSt B ids) (F : zFx p m c cX11_doAskings 11 s args RX11 D cy B ids A) (hA : ∀ q : Nat, s.heap.size ≤ q → A q) {r : Int32} {z' : St} (E : zEnd p l e rmX11_doAskings s m args below meth c cX11_doAskings D cy B ids A Q none z' .return_ True) {N : Nat} {K2 : Nat → Nat → Int32 → St → Option (Int32 × St)} {K26 : Nat → Nat → Int32 → Nat → Int32 → Int32 → St → Option (Int32 × St)} (hK2 : ∀ (x0 : Nat) (x1 : Nat) (x2 : Int32) (hx0 : (11, x0) ∈ ids) (hx1 : (1, x1) ∈ ids) {z : St} {H : Heap} {locs : List Loc} {ls : Array Slot} (hr : zRep D cy B ids A s.heap z H locs) (hl : lv_has ls 11 [(0, .ref (B 11 x0)), (1, .ref (B 1 x1)), (2, .int x2)]), K2 x0 x1 x2 z = some (r, z') → W p l e rmX11_doAskings s m args below meth c H locs 0 0 Q (F0 m 2 ls [])) (hK26 : ∀ (x0 : Nat) (x1 : Nat) (x2 : Int32) (x3 : Nat) (x4 : Int32) (x5 : Int32) (hx0 : (11, x0) ∈ ids) (hx1 : (1, x1) ∈ ids) (hx3 : (8, x3) ∈ ids) {z : St} {H : Heap} {locs : List Loc} {ls : Array Slot} (hr : zRep D cy B ids A s.heap z H locs) (hl : lv_has ls 11 [(0, .ref (B 11 x0)), (1, .ref (B 1 x1)), (2, .int x2), (3, .ref (B 8 x3)), (4, .int x4), (5, .int x5)]), K26 x0 x1 x2 x3 x4 x5 z = some (r, z') → W p l e rmX11_doAskings s m args below meth c H locs 0 0 Q (F0 m 26 ls [])) : ∀ (n : Nat) (x0 : Nat) (x1 : Nat) (x2 : Int32) (x3 : Nat) (x4 : Int32) (x5 : Int32) (x6 : Int32) (x8 : Int32) (x9 : Int32) (hx0 : (11, x0) ∈ ids) (hx1 : (1, x1) ∈ ids) (hx3 : (8, x3) ∈ ids) {z : St} {H : Heap} {locs : List Loc} {ls : Array Slot} (hr : zRep D cy B ids A s.heap z H locs) (hl : lv_has ls 11 [(0, .ref (B 11 x0)), (1, .ref (B 1 x1)), (2, .int x2), (3, .ref (B 8 x3)), (4, .int x4), (5, .int x5), (6, .int x6), (8, .int x8), (9, .int x9)]), fX11_doAskings_126 N K2 K26 n x0 x1 x2 x3 x4 x5 x6 x8 x9 z = some (r, z') → W p l e rmX11_doAskings s m args below meth c H locs 0 0 Q (F0 m 126 ls []) := by
  intro n
  induction n with
  | zero => intro x0 x1 x2 x3 x4 x5 x6 x8 x9 hx0 hx1 hx3 z H locs ls hr hl h; cases h
  | succ n ih => intro x0 x1 x2 x3 x4 x5 x6 x8 x9 hx0 hx1 hx3 z H locs ls hr hl h; exact bX11_doAskings_126 hst F hA E hK2 hK26 ih x0 x1 x2 x3 x4 x5 x6 x8 x9 hx0 hx1 hx3 hr hl h
def fX11_doAskings_98 (N : Nat) (K2 : Nat → Nat → Int32 → St → Option (Int32 × St)) (K26 : Nat → Nat → Int32 → Nat → Int32 → Int32 → St → Option (Int32 × St)) (x0 : Nat) (x1 : Nat) (x2 : Int32) (x3 : Nat) (x4 : Int32) (x5 : Int32) (x6 : Int32) (x7 : Int32) (z : St) : Option (Int32 × St) := if (200 : Int32) ≤ x7 then (zc (fX8_countWaitingFor N x3 x6 z) fun r2 z3 => zc (fX8_endAsking N x3 x6 z3) fun _ z7 => fX11_doAskings_126 N K2 K26 N x0 x1 x2 x3 x4 x5 x6 r2 (0 : Int32) z7) else (fX11_doAskings_191 N K2 K26 x0 x1 x2 x3 x4 x5 z)
set_option maxHeartbeats 4000000 in
set_option maxRecDepth 100000 in
theorem bX11_doAskings_98 (hst : zSt B ids) (F : zFx p m c cX11_doAskings 11 s args RX11 D cy B ids A) (hA : ∀ q : Nat, s.heap.size ≤ q → A q) {r : Int32} {z' : St} (E : zEnd p l e rmX11_doAskings s m args below meth c cX11_doAskings D cy B ids A Q none z' .return_ True) {N : Nat} {K2 : Nat → Nat → Int32 → St → Option (Int32 × St)} {K26 : Nat → Nat → Int32 → Nat → Int32 → Int32 → St → Option (Int32 × St)} (hK2 : ∀ (x0 : Nat) (x1 : Nat) (x2 : Int32) (hx0 : (11, x0) ∈ ids) (hx1 : (1, x1) ∈ ids) {z : St} {H : Heap} {locs : List Loc} {ls : Array Slot} (hr : zRep D cy B ids A s.heap z H locs) (hl : lv_has ls 11 [(0, .ref (B 11 x0)), (1, .ref (B 1 x1)), (2, .int x2)]), K2 x0 x1 x2 z = some (r, z') → W p l e rmX11_doAskings s m args below meth c H locs 0 0 Q (F0 m 2 ls [])) (hK26 : ∀ (x0 : Nat) (x1 : Nat) (x2 : Int32) (x3 : Nat) (x4 : Int32) (x5 : Int32) (hx0 : (11, x0) ∈ ids) (hx1 : (1, x1) ∈ ids) (hx3 : (8, x3) ∈ ids) {z : St} {H : Heap} {locs : List Loc} {ls : Array Slot} (hr : zRep D cy B ids A s.heap z H locs) (hl : lv_has ls 11 [(0, .ref (B 11 x0)), (1, .ref (B 1 x1)), (2, .int x2), (3, .ref (B 8 x3)), (4, .int x4), (5, .int x5)]), K26 x0 x1 x2 x3 x4 x5 z = some (r, z') → W p l e rmX11_doAskings s m args below meth c H locs 0 0 Q (F0 m 26 ls [])) (x0 : Nat) (x1 : Nat) (x2 : Int32) (x3 : Nat) (x4 : Int32) (x5 : Int32) (x6 : Int32) (x7 : Int32) (hx0 : (11, x0) ∈ ids) (hx1 : (1, x1) ∈ ids) (hx3 : (8, x3) ∈ ids) {z : St} {H : Heap} {locs : List Loc} {ls : Array Slot} (hr : zRep D cy B ids A s.heap z H locs) (hl : lv_has ls 11 [(0, .ref (B 11 x0)), (1, .ref (B 1 x1)), (2, .int x2), (3, .ref (B 8 x3)), (4, .int x4), (5, .int x5), (6, .int x6), (7, .int x7)]) (h : fX11_doAskings_98 N K2 K26 x0 x1 x2 x3 x4 x5 x6 x7 z = some (r, z')) : W p l e rmX11_doAskings s m args below meth c H locs 0 0 Q (F0 m 98 ls []) := by
  unfold fX11_doAskings_98 at h
  refine lv_iload F.1 F.2.1 dX11_doAskings_98 (lv_at hl 7 rfl) ?_
  refine lv_sipush (v := (200 : Int32)) F.1 F.2.1 dX11_doAskings_100 (by decide) ?_
  refine lv_icmp_ge (tgt := 109) F.1 F.2.1 dX11_doAskings_103 (by decide) (fun c1 => ?_) (fun c1 => ?_)
  · replace h := zi_t c1 h
    refine lv_aload_n F.1 F.2.1 dX11_doAskings_109 rfl (lv_at hl 3 rfl) ?_
    refine lv_iload F.1 F.2.1 dX11_doAskings_110 (lv_at hl 6 rfl) ?_
    replace h := zc_some h
    obtain ⟨r2, z3, hc4, h⟩ := h
    refine zr_calli (zrun_VN (As := [.int x6]) (rest := []) zn_1473 zq_1475 zs_X8_countWaitingFor zq_1476 zq_24 hdX8_countWaitingFor (by decide) (T := TX8) (N := 13) rfl (okX8_countWaitingFor l D cy B ids hst N x3 hx3 x6  hr.2.2 hc4) F hr hx3 hl.1 rfl (by decide) dX11_doAskings_112 rfl rfl hroX11_doAskings_X8_countWaitingFor ⟨Nat.zero_le _, Nat.zero_le _⟩) F hA hr (fun H locs hw5 hr => ?_)
    clear hc4
    refine lv_istore (lv' := [(8, .int r2), (0, .ref (B 11 x0)), (1, .ref (B 1 x1)), (2, .int x2), (3, .ref (B 8 x3)), (4, .int x4), (5, .int x5), (6, .int x6), (7, .int x7)]) F.1 F.2.1 dX11_doAskings_115 hl (by decide) rfl (fun ls hl => ?_)
    refine lv_aload_n F.1 F.2.1 dX11_doAskings_117 rfl (lv_at hl 4 rfl) ?_
    refine lv_iload F.1 F.2.1 dX11_doAskings_118 (lv_at hl 7 rfl) ?_
    replace h := zc_some h
    obtain ⟨r6, z7, hc8, h⟩ := h
    refine zr_callv (zrun_VN (As := [.int x6]) (rest := []) zn_1078 zq_1080 zs_X8_endAsking zq_1081 zq_24 hdX8_endAsking (by decide) (T := TX8) (N := 13) rfl (okX8_endAsking l D cy B ids hst N x3 hx3 x6  hr.2.2 hc8) F hr hx3 hl.1 rfl (by decide) dX11_doAskings_120 rfl rfl hroX11_doAskings_X8_endAsking ⟨Nat.zero_le _, Nat.zero_le _⟩) F hA hr (fun H locs hw9 hr => ?_)
    clear hc8
    refine lv_iconst (v := (0 : Int32)) F.1 F.2.1 dX11_doAskings_123 (by decide) ?_
    refine lv_istore (lv' := [(9, .int (0 : Int32)), (8, .int r2), (0, .ref (B 11 x0)), (1, .ref (B 1 x1)), (2, .int x2), (3, .ref (B 8 x3)), (4, .int x4), (5, .int x5), (6, .int x6), (7, .int x7)]) F.1 F.2.1 dX11_doAskings_124 hl (by decide) rfl (fun ls hl => ?_)
    exact lX11_doAskings_126 hst F hA E hK2 hK26 _ x0 x1 x2 x3 x4 x5 x6 r2 (0 : Int32) hx0 hx1 hx3 hr (lv_sub hl [2, 3, 4, 5, 6, 7, 8, 1, 0] rfl) h
  · replace h := zi_f c1 h
    refine lv_goto (tgt := 191) F.1 F.2.1 dX11_doAskings_106 (by decide) ?_
    exact bX11_doAskings_191 hst F hA E hK2 hK26 x0 x1 x2 x3 x4 x5 hx0 hx1 hx3 hr (lv_sub hl [0, 1, 2, 3, 4, 5] rfl) h
def fX11_doAskings_82 (N : Nat) (K2 : Nat → Nat → Int32 → St → Option (Int32 × St)) (K26 : Nat → Nat → Int32 → Nat → Int32 → Int32 → St → Option (Int32 × St)) (x0 : Nat) (x1 : Nat) (x2 : Int32) (x3 : Nat) (x4 : Int32) (x5 : Int32) (x6 : Int32) (x7 : Int32) (z : St) : Option (Int32 × St) := zl (zgR z 8 1 x3) fun y1 => zd y1 fun a2 => zc (fX5_addressOf N a2 x6 z) fun r3 z4 => zc (fX11_putNote N x0 x3 (-1 : Int32) (5 : Int32) r3 z4) fun _ z8 => fX11_doAskings_98 N K2 K26 x0 x1 x2 x3 x4 x5 x6 x7 z8
set_option maxHeartbeats 4000000 in
set_option maxRecDepth 100000 in
theorem bX11_doAskings_82 (hst : zSt B ids) (F : zFx p m c cX11_doAskings 11 s args RX11 D cy B ids A) (hA : ∀ q : Nat, s.heap.size ≤ q → A q) {r : Int32} {z' : St} (E : zEnd p l e rmX11_doAskings s m args below meth c cX11_doAskings D cy B ids A Q none z' .return_ True) {N : Nat} {K2 : Nat → Nat → Int32 → St → Option (Int32 × St)} {K26 : Nat → Nat → Int32 → Nat → Int32 → Int32 → St → Option (Int32 × St)} (hK2 : ∀ (x0 : Nat) (x1 : Nat) (x2 : Int32) (hx0 : (11, x0) ∈ ids) (hx1 : (1, x1) ∈ ids) {z : St} {H : Heap} {locs : List Loc} {ls : Array Slot} (hr : zRep D cy B ids A s.heap z H locs) (hl : lv_has ls 11 [(0, .ref (B 11 x0)), (1, .ref (B 1 x1)), (2, .int x2)]), K2 x0 x1 x2 z = some (r, z') → W p l e rmX11_doAskings s m args below meth c H locs 0 0 Q (F0 m 2 ls [])) (hK26 : ∀ (x0 : Nat) (x1 : Nat) (x2 : Int32) (x3 : Nat) (x4 : Int32) (x5 : Int32) (hx0 : (11, x0) ∈ ids) (hx1 : (1, x1) ∈ ids) (hx3 : (8, x3) ∈ ids) {z : St} {H : Heap} {locs : List Loc} {ls : Array Slot} (hr : zRep D cy B ids A s.heap z H locs) (hl : lv_has ls 11 [(0, .ref (B 11 x0)), (1, .ref (B 1 x1)), (2, .int x2), (3, .ref (B 8 x3)), (4, .int x4), (5, .int x5)]), K26 x0 x1 x2 x3 x4 x5 z = some (r, z') → W p l e rmX11_doAskings s m args below meth c H locs 0 0 Q (F0 m 26 ls [])) (x0 : Nat) (x1 : Nat) (x2 : Int32) (x3 : Nat) (x4 : Int32) (x5 : Int32) (x6 : Int32) (x7 : Int32) (hx0 : (11, x0) ∈ ids) (hx1 : (1, x1) ∈ ids) (hx3 : (8, x3) ∈ ids) {z : St} {H : Heap} {locs : List Loc} {ls : Array Slot} (hr : zRep D cy B ids A s.heap z H locs) (hl : lv_has ls 11 [(0, .ref (B 11 x0)), (1, .ref (B 1 x1)), (2, .int x2), (3, .ref (B 8 x3)), (4, .int x4), (5, .int x5), (6, .int x6), (7, .int x7)]) (h : fX11_doAskings_82 N K2 K26 x0 x1 x2 x3 x4 x5 x6 x7 z = some (r, z')) : W p l e rmX11_doAskings s m args below meth c H locs 0 0 Q (F0 m 82 ls []) := by
  unfold fX11_doAskings_82 at h
  refine lv_aload_n F.1 F.2.1 dX11_doAskings_82 rfl (lv_at hl 0 rfl) ?_
  refine lv_aload_n F.1 F.2.1 dX11_doAskings_83 rfl (lv_at hl 3 rfl) ?_
  refine lv_iconst (v := (-1 : Int32)) F.1 F.2.1 dX11_doAskings_84 (by decide) ?_
  refine lv_iconst (v := (5 : Int32)) F.1 F.2.1 dX11_doAskings_85 (by decide) ?_
  refine lv_aload_n F.1 F.2.1 dX11_doAskings_86 rfl (lv_at hl 3 rfl) ?_
  refine gf11_261 F hx3 hr dX11_doAskings_87 (fun y1 ey1 => ?_)
  replace h := zl_sub ey1 h
  have hy1 := zal_g hr hx3 (j := 1) rfl ey1
  clear ey1
  refine lv_iload F.1 F.2.1 dX11_doAskings_90 (lv_at hl 6 rfl) ?_
  replace h := zd_some h
  obtain ⟨a2, rfl, h⟩ := h
  replace h := zc_some h
  obtain ⟨r3, z4, hc5, h⟩ := h
  refine zr_calli (zrun_VN (As := [.int x6]) (rest := [.int (5 : Int32), .int (-1 : Int32), .ref (B 8 x3), .ref (B 11 x0)]) zn_1443 zq_1445 zs_X5_addressOf zq_1446 zq_3 hdX5_addressOf (by decide) (T := TX5) (N := 11) rfl (okX5_addressOf l D cy B ids hst N a2 (hy1 _ rfl) x6  hr.2.2 hc5) F hr (hy1 _ rfl) hl.1 rfl (Nat.le_of_ble_eq_true rfl) dX11_doAskings_92 rfl rfl hroX11_doAskings_X5_addressOf ⟨Nat.zero_le _, Nat.zero_le _⟩) F hA hr (fun H locs hw6 hr => ?_)
  clear hc5
  replace h := zc_some h
  obtain ⟨r7, z8, hc9, h⟩ := h
  refine zr_callv (zrun_V (As := [.ref (B 8 x3), .int (-1 : Int32), .int (5 : Int32), .int r3]) (rest := []) zq_1082 zq_1084 zs_X11_putNote zq_1085 zq_1 hdX11_putNote (by decide) (T := TX11) (N := 21) rfl (okX11_putNote l D cy B ids hst N x0 hx0 x3 hx3 (-1 : Int32)  (5 : Int32)  r3  hr.2.2 hc9) F hr hx0 hl.1 rfl (by decide) dX11_doAskings_95 rfl rfl hroX11_doAskings_X11_putNote ⟨Nat.zero_le _, Nat.zero_le _⟩) F hA hr (fun H locs hw10 hr => ?_)
  clear hc9
  exact bX11_doAskings_98 hst F hA E hK2 hK26 x0 x1 x2 x3 x4 x5 x6 x7 hx0 hx1 hx3 hr (lv_sub hl [0, 1, 2, 3, 4, 5, 6, 7] rfl) h
def fX11_doAskings_26b (N : Nat) (K2 : Nat → Nat → Int32 → St → Option (Int32 × St)) (K26 : Nat → Nat → Int32 → Nat → Int32 → Int32 → St → Option (Int32 × St)) (x0 : Nat) (x1 : Nat) (x2 : Int32) (x3 : Nat) (x4 : Int32) (x5 : Int32) (z : St) : Option (Int32 × St) := if x4 ≤ x5 then (zl (x2 + 1) fun v2 => K2 x0 x1 v2 z) else (zk x5 8 <| zl (zgA z 129 x3 (Int32.toNatClampNeg x5)) fun v4 => zc (fX8_isAsked N x3 v4 z) fun r5 z6 => if ¬ r5 = 0 then (zk v4 8 <| zl ((zgI z6 11 4 x0) - (zgA z6 127 x3 (Int32.toNatClampNeg v4))) fun v11 => if v11 = (20 : Int32) then (fX11_doAskings_82 N K2 K26 x0 x1 x2 x3 x4 x5 v4 v11 z6) else (if ¬ v11 = (40 : Int32) then (fX11_doAskings_98 N K2 K26 x0 x1 x2 x3 x4 x5 v4 v11 z6) else (fX11_doAskings_82 N K2 K26 x0 x1 x2 x3 x4 x5 v4 v11 z6))) else (fX11_doAskings_191 N K2 K26 x0 x1 x2 x3 x4 x5 z6))
def fX11_doAskings_26 (N : Nat) (K2 : Nat → Nat → Int32 → St → Option (Int32 × St)) : Nat → Nat → Nat → Int32 → Nat → Int32 → Int32 → St → Option (Int32 × St)
  | 0 => fun _ _ _ _ _ _ _ => none
  | n + 1 => fX11_doAskings_26b N K2 (fX11_doAskings_26 N K2 n)
set_option maxHeartbeats 4000000 in
set_option maxRecDepth 100000 in
theorem bX11_doAskings_26 (hst : zSt B ids) (F : zFx p m c cX11_doAskings 11 s args RX11 D cy B ids A) (hA : ∀ q : Nat, s.heap.size ≤ q → A q) {r : Int32} {z' : St} (E : zEnd p l e rmX11_doAskings s m args below meth c cX11_doAskings D cy B ids A Q none z' .return_ True) {N : Nat} {K2 : Nat → Nat → Int32 → St → Option (Int32 × St)} {K26 : Nat → Nat → Int32 → Nat → Int32 → Int32 → St → Option (Int32 × St)} (hK2 : ∀ (x0 : Nat) (x1 : Nat) (x2 : Int32) (hx0 : (11, x0) ∈ ids) (hx1 : (1, x1) ∈ ids) {z : St} {H : Heap} {locs : List Loc} {ls : Array Slot} (hr : zRep D cy B ids A s.heap z H locs) (hl : lv_has ls 11 [(0, .ref (B 11 x0)), (1, .ref (B 1 x1)), (2, .int x2)]), K2 x0 x1 x2 z = some (r, z') → W p l e rmX11_doAskings s m args below meth c H locs 0 0 Q (F0 m 2 ls [])) (hK26 : ∀ (x0 : Nat) (x1 : Nat) (x2 : Int32) (x3 : Nat) (x4 : Int32) (x5 : Int32) (hx0 : (11, x0) ∈ ids) (hx1 : (1, x1) ∈ ids) (hx3 : (8, x3) ∈ ids) {z : St} {H : Heap} {locs : List Loc} {ls : Array Slot} (hr : zRep D cy B ids A s.heap z H locs) (hl : lv_has ls 11 [(0, .ref (B 11 x0)), (1, .ref (B 1 x1)), (2, .int x2), (3, .ref (B 8 x3)), (4, .int x4), (5, .int x5)]), K26 x0 x1 x2 x3 x4 x5 z = some (r, z') → W p l e rmX11_doAskings s m args below meth c H locs 0 0 Q (F0 m 26 ls [])) (x0 : Nat) (x1 : Nat) (x2 : Int32) (x3 : Nat) (x4 : Int32) (x5 : Int32) (hx0 : (11, x0) ∈ ids) (hx1 : (1, x1) ∈ ids) (hx3 : (8, x3) ∈ ids) {z : St} {H : Heap} {locs : List Loc} {ls : Array Slot} (hr : zRep D cy B ids A s.heap z H locs) (hl : lv_has ls 11 [(0, .ref (B 11 x0)), (1, .ref (B 1 x1)), (2, .int x2), (3, .ref (B 8 x3)), (4, .int x4), (5, .int x5)]) (h : fX11_doAskings_26b N K2 K26 x0 x1 x2 x3 x4 x5 z = some (r, z')) : W p l e rmX11_doAskings s m args below meth c H locs 0 0 Q (F0 m 26 ls []) := by
  unfold fX11_doAskings_26b at h
  refine lv_iload F.1 F.2.1 dX11_doAskings_26 (lv_at hl 5 rfl) ?_
  refine lv_iload F.1 F.2.1 dX11_doAskings_28 (lv_at hl 4 rfl) ?_
  refine lv_icmp_ge (tgt := 197) F.1 F.2.1 dX11_doAskings_30 (by decide) (fun c1 => ?_) (fun c1 => ?_)
  · replace h := zi_t c1 h
    obtain ⟨v2, ev2⟩ : ∃ y : Int32, y = (x2 + 1) := ⟨_, rfl⟩
    replace h := zl_sub ev2 h
    refine lv_iinc (v := v2) (lv' := [(2, .int v2), (0, .ref (B 11 x0)), (1, .ref (B 1 x1)), (3, .ref (B 8 x3)), (4, .int x4), (5, .int x5)]) F.1 F.2.1 dX11_doAskings_197 hl (k := 2) rfl (by rw [ev2]; rfl) (by decide) rfl (fun ls hl => ?_)
    refine lv_goto (tgt := 2) F.1 F.2.1 dX11_doAskings_200 (by decide) ?_
    exact hK2 x0 x1 v2 hx0 hx1 hr (lv_sub hl [1, 2, 0] rfl) h
  · replace h := zi_f c1 h
    refine lv_aload_n F.1 F.2.1 dX11_doAskings_33 rfl (lv_at hl 3 rfl) ?_
    refine gf11_711 F hx3 hr dX11_doAskings_34 ?_
    refine lv_iload F.1 F.2.1 dX11_doAskings_37 (lv_at hl 5 rfl) ?_
    replace h := zk_some h
    obtain ⟨c3, h⟩ := h
    refine zr_iald (k := 129) (by decide) rfl (by decide) F (zal_a F hx3 (j := 10) rfl) hr dX11_doAskings_39 c3 ?_
    refine lv_topi (fun v4 ev4 => ?_)
    replace h := zl_sub ev4 h
    refine lv_istore (lv' := [(6, .int v4), (0, .ref (B 11 x0)), (1, .ref (B 1 x1)), (2, .int x2), (3, .ref (B 8 x3)), (4, .int x4), (5, .int x5)]) F.1 F.2.1 dX11_doAskings_40 hl (by decide) rfl (fun ls hl => ?_)
    refine lv_aload_n F.1 F.2.1 dX11_doAskings_42 rfl (lv_at hl 4 rfl) ?_
    refine lv_iload F.1 F.2.1 dX11_doAskings_43 (lv_at hl 0 rfl) ?_
    replace h := zc_some h
    obtain ⟨r5, z6, hc7, h⟩ := h
    refine zr_calli (zrun_VN (As := [.int v4]) (rest := []) zn_1043 zq_1045 zs_X8_isAsked zq_1046 zq_24 hdX8_isAsked (by decide) (T := TX8) (N := 13) rfl (okX8_isAsked l D cy B ids hst N x3 hx3 v4  hr.2.2 hc7) F hr hx3 hl.1 rfl (by decide) dX11_doAskings_45 rfl rfl hroX11_doAskings_X8_isAsked ⟨Nat.zero_le _, Nat.zero_le _⟩) F hA hr (fun H locs hw8 hr => ?_)
    clear hc7
    refine lv_if_ne (tgt := 54) F.1 F.2.1 dX11_doAskings_48 (by decide) (fun c9 => ?_) (fun c9 => ?_)
    · replace h := zi_t c9 h
      refine lv_aload_n F.1 F.2.1 dX11_doAskings_54 rfl (lv_at hl 1 rfl) ?_
      refine gf11_176 F hx0 hr dX11_doAskings_55 ?_
      refine lv_aload_n F.1 F.2.1 dX11_doAskings_58 rfl (lv_at hl 4 rfl) ?_
      refine gf11_714 F hx3 hr dX11_doAskings_59 ?_
      refine lv_iload F.1 F.2.1 dX11_doAskings_62 (lv_at hl 0 rfl) ?_
      replace h := zk_some h
      obtain ⟨c10, h⟩ := h
      refine zr_iald (k := 127) (by decide) rfl (by decide) F (zal_a F hx3 (j := 7) rfl) hr dX11_doAskings_64 c10 ?_
      refine lv_isub F.1 F.2.1 dX11_doAskings_65 ?_
      refine lv_topi (fun v11 ev11 => ?_)
      replace h := zl_sub ev11 h
      refine lv_istore (lv' := [(7, .int v11), (6, .int v4), (0, .ref (B 11 x0)), (1, .ref (B 1 x1)), (2, .int x2), (3, .ref (B 8 x3)), (4, .int x4), (5, .int x5)]) F.1 F.2.1 dX11_doAskings_66 hl (by decide) rfl (fun ls hl => ?_)
      refine lv_iload F.1 F.2.1 dX11_doAskings_68 (lv_at hl 0 rfl) ?_
      refine lv_bipush (v := (20 : Int32)) F.1 F.2.1 dX11_doAskings_70 (by decide) ?_
      refine lv_icmp_eq (tgt := 82) F.1 F.2.1 dX11_doAskings_72 (by decide) (fun c12 => ?_) (fun c12 => ?_)
      · replace h := zi_t c12 h
        exact bX11_doAskings_82 hst F hA E hK2 hK26 x0 x1 x2 x3 x4 x5 v4 v11 hx0 hx1 hx3 hr (lv_sub hl [2, 3, 4, 5, 6, 7, 1, 0] rfl) h
      · replace h := zi_f c12 h
        refine lv_iload F.1 F.2.1 dX11_doAskings_75 (lv_at hl 0 rfl) ?_
        refine lv_bipush (v := (40 : Int32)) F.1 F.2.1 dX11_doAskings_77 (by decide) ?_
        refine lv_icmp_ne (tgt := 98) F.1 F.2.1 dX11_doAskings_79 (by decide) (fun c13 => ?_) (fun c13 => ?_)
        · replace h := zi_t c13 h
          exact bX11_doAskings_98 hst F hA E hK2 hK26 x0 x1 x2 x3 x4 x5 v4 v11 hx0 hx1 hx3 hr (lv_sub hl [2, 3, 4, 5, 6, 7, 1, 0] rfl) h
        · replace h := zi_f (fun q => q c13) h
          exact bX11_doAskings_82 hst F hA E hK2 hK26 x0 x1 x2 x3 x4 x5 v4 v11 hx0 hx1 hx3 hr (lv_sub hl [2, 3, 4, 5, 6, 7, 1, 0] rfl) h
    · replace h := zi_f (fun q => q c9) h
      refine lv_goto (tgt := 191) F.1 F.2.1 dX11_doAskings_51 (by decide) ?_
      exact bX11_doAskings_191 hst F hA E hK2 hK26 x0 x1 x2 x3 x4 x5 hx0 hx1 hx3 hr (lv_sub hl [1, 2, 3, 4, 5, 6] rfl) h
theorem lX11_doAskings_26 (hst : zSt B ids) (F : zFx p m c cX11_doAskings 11 s args RX11 D cy B ids A) (hA : ∀ q : Nat, s.heap.size ≤ q → A q) {r : Int32} {z' : St} (E : zEnd p l e rmX11_doAskings s m args below meth c cX11_doAskings D cy B ids A Q none z' .return_ True) {N : Nat} {K2 : Nat → Nat → Int32 → St → Option (Int32 × St)} (hK2 : ∀ (x0 : Nat) (x1 : Nat) (x2 : Int32) (hx0 : (11, x0) ∈ ids) (hx1 : (1, x1) ∈ ids) {z : St} {H : Heap} {locs : List Loc} {ls : Array Slot} (hr : zRep D cy B ids A s.heap z H locs) (hl : lv_has ls 11 [(0, .ref (B 11 x0)), (1, .ref (B 1 x1)), (2, .int x2)]), K2 x0 x1 x2 z = some (r, z') → W p l e rmX11_doAskings s m args below meth c H locs 0 0 Q (F0 m 2 ls [])) : ∀ (n : Nat) (x0 : Nat) (x1 : Nat) (x2 : Int32) (x3 : Nat) (x4 : Int32) (x5 : Int32) (hx0 : (11, x0) ∈ ids) (hx1 : (1, x1) ∈ ids) (hx3 : (8, x3) ∈ ids) {z : St} {H : Heap} {locs : List Loc} {ls : Array Slot} (hr : zRep D cy B ids A s.heap z H locs) (hl : lv_has ls 11 [(0, .ref (B 11 x0)), (1, .ref (B 1 x1)), (2, .int x2), (3, .ref (B 8 x3)), (4, .int x4), (5, .int x5)]), fX11_doAskings_26 N K2 n x0 x1 x2 x3 x4 x5 z = some (r, z') → W p l e rmX11_doAskings s m args below meth c H locs 0 0 Q (F0 m 26 ls []) := by
  intro n
  induction n with
  | zero => intro x0 x1 x2 x3 x4 x5 hx0 hx1 hx3 z H locs ls hr hl h; cases h
  | succ n ih => intro x0 x1 x2 x3 x4 x5 hx0 hx1 hx3 z H locs ls hr hl h; exact bX11_doAskings_26 hst F hA E hK2 ih x0 x1 x2 x3 x4 x5 hx0 hx1 hx3 hr hl h
def fX11_doAskings_2b (N : Nat) (K2 : Nat → Nat → Int32 → St → Option (Int32 × St)) (x0 : Nat) (x1 : Nat) (x2 : Int32) (z : St) : Option (Int32 × St) := if (zgI z 1 3 x1) ≤ x2 then (some (0, z)) else (zk x2 6 <| zl (zgQ z 112 x1 (Int32.toNatClampNeg x2)) fun y3 => zd y3 fun a4 => zc (fX8_rememberAsked N a4 z) fun r5 z6 => fX11_doAskings_26 N K2 N x0 x1 x2 a4 r5 (0 : Int32) z6)
def fX11_doAskings_2 (N : Nat)  : Nat → Nat → Nat → Int32 → St → Option (Int32 × St)
  | 0 => fun _ _ _ _ => none
  | n + 1 => fX11_doAskings_2b N (fX11_doAskings_2 N  n)
set_option maxHeartbeats 4000000 in
set_option maxRecDepth 100000 in
theorem bX11_doAskings_2 (hst : zSt B ids) (F : zFx p m c cX11_doAskings 11 s args RX11 D cy B ids A) (hA : ∀ q : Nat, s.heap.size ≤ q → A q) {r : Int32} {z' : St} (E : zEnd p l e rmX11_doAskings s m args below meth c cX11_doAskings D cy B ids A Q none z' .return_ True) {N : Nat} {K2 : Nat → Nat → Int32 → St → Option (Int32 × St)} (hK2 : ∀ (x0 : Nat) (x1 : Nat) (x2 : Int32) (hx0 : (11, x0) ∈ ids) (hx1 : (1, x1) ∈ ids) {z : St} {H : Heap} {locs : List Loc} {ls : Array Slot} (hr : zRep D cy B ids A s.heap z H locs) (hl : lv_has ls 11 [(0, .ref (B 11 x0)), (1, .ref (B 1 x1)), (2, .int x2)]), K2 x0 x1 x2 z = some (r, z') → W p l e rmX11_doAskings s m args below meth c H locs 0 0 Q (F0 m 2 ls [])) (x0 : Nat) (x1 : Nat) (x2 : Int32) (hx0 : (11, x0) ∈ ids) (hx1 : (1, x1) ∈ ids) {z : St} {H : Heap} {locs : List Loc} {ls : Array Slot} (hr : zRep D cy B ids A s.heap z H locs) (hl : lv_has ls 11 [(0, .ref (B 11 x0)), (1, .ref (B 1 x1)), (2, .int x2)]) (h : fX11_doAskings_2b N K2 x0 x1 x2 z = some (r, z')) : W p l e rmX11_doAskings s m args below meth c H locs 0 0 Q (F0 m 2 ls []) := by
  unfold fX11_doAskings_2b at h
  refine lv_iload_n F.1 F.2.1 dX11_doAskings_2 rfl (lv_at hl 2 rfl) ?_
  refine lv_aload_n F.1 F.2.1 dX11_doAskings_3 rfl (lv_at hl 1 rfl) ?_
  refine gf11_113 F hx1 hr dX11_doAskings_4 ?_
  refine lv_icmp_ge (tgt := 203) F.1 F.2.1 dX11_doAskings_7 (by decide) (fun c1 => ?_) (fun c1 => ?_)
  · replace h := zi_t c1 h
    obtain ⟨rfl, rfl⟩ := zret h
    exact E _ _ _ _ dX11_doAskings_203 trivial hr
  · replace h := zi_f c1 h
    refine lv_aload_n F.1 F.2.1 dX11_doAskings_10 rfl (lv_at hl 1 rfl) ?_
    refine gf11_134 F hx1 hr dX11_doAskings_11 ?_
    refine lv_iload_n F.1 F.2.1 dX11_doAskings_14 rfl (lv_at hl 2 rfl) ?_
    replace h := zk_some h
    obtain ⟨c2, h⟩ := h
    refine zr_aaldv (k := 112) (by decide) rfl rfl (zlen_d (by decide)) F (zal_a F hx1 (j := 2) rfl) hr dX11_doAskings_15 c2 (fun y3 ey3 => ?_)
    replace h := zl_sub ey3 h
    have hy3 := zal_q hr (zal_a F hx1 (j := 2) rfl) rfl ey3
    clear ey3
    refine zr_astore_n (lv' := [(3, va_rf (Option.map (B 8) y3)), (0, .ref (B 11 x0)), (1, .ref (B 1 x1)), (2, .int x2)]) F.1 F.2.1 dX11_doAskings_16 rfl hl (by decide) rfl (fun ls hl => ?_)
    refine zr_aload_n F.1 F.2.1 dX11_doAskings_17 rfl (lv_at hl 0 rfl) ?_
    replace h := zd_some h
    obtain ⟨a4, rfl, h⟩ := h
    replace h := zc_some h
    obtain ⟨r5, z6, hc7, h⟩ := h
    refine zr_calli (zrun_VN (As := []) (rest := []) zn_1469 zq_1471 zs_X8_rememberAsked zq_1472 zq_24 hdX8_rememberAsked (by decide) (T := TX8) (N := 13) rfl (okX8_rememberAsked l D cy B ids hst N a4 (hy3 _ rfl) hr.2.2 hc7) F hr (hy3 _ rfl) hl.1 rfl (by decide) dX11_doAskings_18 rfl rfl hroX11_doAskings_X8_rememberAsked ⟨Nat.zero_le _, Nat.zero_le _⟩) F hA hr (fun H locs hw8 hr => ?_)
    clear hc7
    refine lv_istore (lv' := [(4, .int r5), (3, .ref (B 8 a4)), (0, .ref (B 11 x0)), (1, .ref (B 1 x1)), (2, .int x2)]) F.1 F.2.1 dX11_doAskings_21 hl (by decide) rfl (fun ls hl => ?_)
    refine lv_iconst (v := (0 : Int32)) F.1 F.2.1 dX11_doAskings_23 (by decide) ?_
    refine lv_istore (lv' := [(5, .int (0 : Int32)), (4, .int r5), (3, .ref (B 8 a4)), (0, .ref (B 11 x0)), (1, .ref (B 1 x1)), (2, .int x2)]) F.1 F.2.1 dX11_doAskings_24 hl (by decide) rfl (fun ls hl => ?_)
    exact lX11_doAskings_26 hst F hA E hK2 _ x0 x1 x2 a4 r5 (0 : Int32) hx0 hx1 (hy3 _ rfl) hr (lv_sub hl [3, 4, 5, 2, 1, 0] rfl) h
theorem lX11_doAskings_2 (hst : zSt B ids) (F : zFx p m c cX11_doAskings 11 s args RX11 D cy B ids A) (hA : ∀ q : Nat, s.heap.size ≤ q → A q) {r : Int32} {z' : St} (E : zEnd p l e rmX11_doAskings s m args below meth c cX11_doAskings D cy B ids A Q none z' .return_ True) {N : Nat}  : ∀ (n : Nat) (x0 : Nat) (x1 : Nat) (x2 : Int32) (hx0 : (11, x0) ∈ ids) (hx1 : (1, x1) ∈ ids) {z : St} {H : Heap} {locs : List Loc} {ls : Array Slot} (hr : zRep D cy B ids A s.heap z H locs) (hl : lv_has ls 11 [(0, .ref (B 11 x0)), (1, .ref (B 1 x1)), (2, .int x2)]), fX11_doAskings_2 N  n x0 x1 x2 z = some (r, z') → W p l e rmX11_doAskings s m args below meth c H locs 0 0 Q (F0 m 2 ls []) := by
  intro n
  induction n with
  | zero => intro x0 x1 x2 hx0 hx1 z H locs ls hr hl h; cases h
  | succ n ih => intro x0 x1 x2 hx0 hx1 z H locs ls hr hl h; exact bX11_doAskings_2 hst F hA E ih x0 x1 x2 hx0 hx1 hr hl h
def fX11_doAskings (N : Nat)  (x0 : Nat) (x1 : Nat) (z : St) : Option (Int32 × St) := fX11_doAskings_2 N N x0 x1 (0 : Int32) z
set_option maxHeartbeats 4000000 in
set_option maxRecDepth 100000 in
theorem bX11_doAskings_0 (hst : zSt B ids) (F : zFx p m c cX11_doAskings 11 s args RX11 D cy B ids A) (hA : ∀ q : Nat, s.heap.size ≤ q → A q) {r : Int32} {z' : St} (E : zEnd p l e rmX11_doAskings s m args below meth c cX11_doAskings D cy B ids A Q none z' .return_ True) {N : Nat}  (x0 : Nat) (x1 : Nat) (hx0 : (11, x0) ∈ ids) (hx1 : (1, x1) ∈ ids) {z : St} {H : Heap} {locs : List Loc} {ls : Array Slot} (hr : zRep D cy B ids A s.heap z H locs) (hl : lv_has ls 11 [(0, .ref (B 11 x0)), (1, .ref (B 1 x1))]) (h : fX11_doAskings N x0 x1 z = some (r, z')) : W p l e rmX11_doAskings s m args below meth c H locs 0 0 Q (F0 m 0 ls []) := by
  unfold fX11_doAskings at h
  refine lv_iconst (v := (0 : Int32)) F.1 F.2.1 dX11_doAskings_0 (by decide) ?_
  refine lv_istore_n (lv' := [(2, .int (0 : Int32)), (0, .ref (B 11 x0)), (1, .ref (B 1 x1))]) F.1 F.2.1 dX11_doAskings_1 rfl hl (by decide) rfl (fun ls hl => ?_)
  exact lX11_doAskings_2 hst F hA E  _ x0 x1 (0 : Int32) hx0 hx1 hr (lv_sub hl [1, 2, 0] rfl) h
end SX11_doAskings
set_option maxRecDepth 100000 in
theorem okX11_doAskings (l : Launch) (D : va_G) (cy : Nat → ClassId) (B : Nat → Nat → Nat) (ids : List (Nat × Nat)) (hst : zSt B ids) (N : Nat) (x0 : Nat) (hx0 : (11, x0) ∈ ids) (x1 : Nat) (hx1 : (1, x1) ∈ ids) {z : St} {r : Int32} {z' : St} (hW : zWf ids z) (h : fX11_doAskings N x0 x1 z = some (r, z')) : zM l yX11_doAskings (zws yX11_doAskings cX11_doAskings 11 none) rmX11_doAskings D cy B ids [.ref (B 11 x0), .ref (B 1 x1)] none True z z' :=
  zM_of hst hW (by decide +kernel) (Nat.le_of_ble_eq_true rfl) (fun p e s m args below meth c A ls F hA hret hlocks hr hl => bX11_doAskings_0 hst F hA (zEnd_v F hret hlocks) x0 x1 hx0 hx1 hr hl h)
