abbrev rmX11_close : Room := { frames := 6, cells := 1, slots := 6, locals := 100 }
theorem hdX11_close : yX11_close.cls ≠ "java/lang/invoke/MethodHandle" ∧ yX11_close.cls ≠ "java/lang/invoke/VarHandle" ∧ (parseMethodDescriptor yX11_close.desc).map (fun d => d.parameters.length) = some 2 := by decide +kernel
theorem hroX11_close_X11_abandonThrough : rmX11_abandonThrough.frames + 1 ≤ rmX11_close.frames ∧ 8 + (5 + 11) + rmX11_abandonThrough.locals ≤ rmX11_close.locals := by decide
theorem hroX11_close_X11_doorOf : rmX11_doorOf.frames + 1 ≤ rmX11_close.frames ∧ 8 + (4 + 11) + rmX11_doorOf.locals ≤ rmX11_close.locals := by decide
theorem hroX11_close_X11_hostOf : rmX11_hostOf.frames + 1 ≤ rmX11_close.frames ∧ 8 + (3 + 11) + rmX11_hostOf.locals ≤ rmX11_close.locals := by decide
theorem hroX11_close_X11_stir : rmX11_stir.frames + 1 ≤ rmX11_close.frames ∧ 8 + (1 + 11) + rmX11_stir.locals ≤ rmX11_close.locals := by decide
theorem hroX11_close_X2_setUnused : rmX2_setUnused.frames + 1 ≤ rmX11_close.frames ∧ 8 + (1 + 11) + rmX2_setUnused.locals ≤ rmX11_close.locals := by decide
theorem hroX11_close_X3_armProbe : rmX3_armProbe.frames + 1 ≤ rmX11_close.frames ∧ 8 + (2 + 11) + rmX3_armProbe.locals ≤ rmX11_close.locals := by decide
theorem hroX11_close_X3_closeByOwner : rmX3_closeByOwner.frames + 1 ≤ rmX11_close.frames ∧ 8 + (1 + 11) + rmX3_closeByOwner.locals ≤ rmX11_close.locals := by decide
theorem hroX11_close_X3_isDead : rmX3_isDead.frames + 1 ≤ rmX11_close.frames ∧ 8 + (1 + 11) + rmX3_isDead.locals ≤ rmX11_close.locals := by decide
section SX11_close
variable {p : Program} {l : Launch} {e : Env} {s : State} {m : MethodId} {args : Array Value} {below : List Frame} {meth : Method} {c : Code} {Q : State → Prop} {D : va_G} {cy : Nat → ClassId} {B : Nat → Nat → Nat} {ids : List (Nat × Nat)} {A : Nat → Prop}
def fX11_close_23 (N : Nat)   (z : St) : Option ((Int32 ⊕ Nat) × St) := some (.inr 1, z)
set_option maxHeartbeats 4000000 in
set_option maxRecDepth 100000 in
theorem bX11_close_23 (hst : zSt B ids) (F : zFx p m c cX11_close 5 s args RX11 D cy B ids A) (hA : ∀ q : Nat, s.heap.size ≤ q → A q) (hAd : ∀ q, zAd B ids s.heap.size q ↔ A q) (hlf : l.stackTraces = false) (hret : meth.sig.returnType = none) (hlocks : meth.locks = false) (htab : ∀ x ∈ c.exceptionTable.toList, False) (hX : zXK A s s.heap) {r : (Int32 ⊕ Nat)} {z' : St} {N : Nat}    {cells slots : Nat} (hcs1 : cells + 1 ≤ rmX11_close.cells ∧ slots + 6 ≤ rmX11_close.slots) {z : St} {H : Heap} {locs : List Loc} {ls : Array Slot} (hr : zRep D cy B ids A s.heap z H locs) (hl : lv_has ls 5 []) (h : fX11_close_23 N z = some (r, z')) : W p l e rmX11_close s m args below meth c H locs cells slots (vx_MQ below (zQX D cy B ids (fun _ => none) (fun _ => True) r z' A) (zXC D cy B ids r z' A) args s rmX11_close.cells rmX11_close.slots A) (F0 m 23 ls []) := by
  unfold fX11_close_23 at h
  have hcs0 := zcs_0 hcs1
  obtain ⟨rfl, rfl⟩ := zret h
  exact zXtw (text := "no such host or door") hlf F htab hX hlocks hl.1 (Or.inl rfl) zq_870 zq_22 (by decide +kernel) dX11_close_23 dX11_close_26 dX11_close_27 dX11_close_30 dX11_close_33 (by decide) (by decide) hcs1.1 hcs1.2 hr hcs1.1 hcs1.2
def fX11_close_140 (N : Nat)  (x0 : Nat) (z : St) : Option ((Int32 ⊕ Nat) × St) := zc (fX11_stir N x0 z) fun _ z2 => some (.inl 0, z2)
set_option maxHeartbeats 4000000 in
set_option maxRecDepth 100000 in
theorem bX11_close_140 (hst : zSt B ids) (F : zFx p m c cX11_close 5 s args RX11 D cy B ids A) (hA : ∀ q : Nat, s.heap.size ≤ q → A q) (hAd : ∀ q, zAd B ids s.heap.size q ↔ A q) (hlf : l.stackTraces = false) (hret : meth.sig.returnType = none) (hlocks : meth.locks = false) (htab : ∀ x ∈ c.exceptionTable.toList, False) (hX : zXK A s s.heap) {r : (Int32 ⊕ Nat)} {z' : St} {N : Nat}  (x0 : Nat) (hx0 : (11, x0) ∈ ids) {cells slots : Nat} (hcs1 : cells + 1 ≤ rmX11_close.cells ∧ slots + 6 ≤ rmX11_close.slots) {z : St} {H : Heap} {locs : List Loc} {ls : Array Slot} (hr : zRep D cy B ids A s.heap z H locs) (hl : lv_has ls 5 [(0, .ref (B 11 x0))]) (h : fX11_close_140 N x0 z = some (r, z')) : W p l e rmX11_close s m args below meth c H locs cells slots (vx_MQ below (zQX D cy B ids (fun _ => none) (fun _ => True) r z' A) (zXC D cy B ids r z' A) args s rmX11_close.cells rmX11_close.slots A) (F0 m 140 ls []) := by
  unfold fX11_close_140 at h
  have hcs0 := zcs_0 hcs1
  refine lv_aload_n F.1 F.2.1 dX11_close_140 rfl (lv_at hl 0 rfl) ?_
  replace h := zc_some h
  obtain ⟨r1, z2, hc3, h⟩ := h
  refine zr_callv (zrun_V (As := []) (rest := []) zq_858 zq_860 zs_X11_stir zq_861 zq_1 hdX11_stir (by decide) (T := TX11) (N := 21) rfl (okX11_stir l D cy B ids hst N x0 hx0 hr.2.2 hc3) F hr hx0 hl.1 rfl (by decide) dX11_close_141 rfl rfl hroX11_close_X11_stir hcs0) F hA hr (fun H locs hw4 hr => ?_)
  clear hc3
  obtain ⟨rfl, rfl⟩ := zret h
  exact zXe_v F hret hlocks dX11_close_144 hr hcs0.1 hcs0.2
def fX11_close (N : Nat)  (x0 : Nat) (x1 : Int32) (x2 : Int32) (z : St) : Option ((Int32 ⊕ Nat) × St) := zc (fX11_hostOf N x0 x1 z) fun r1 z2 => zc (fX11_doorOf N x0 x1 x2 z2) fun r5 z6 => zo r1 (fX11_close_23 N z6) fun a10 => zo r5 (fX11_close_23 N z6) fun a12 => if ¬ (zgI z6 2 0 a12) = 0 then (if ¬ (zgI z6 2 0 a12) = (1 : Int32) then (zl (zgR z6 2 12 a12) fun y15 => zd y15 fun a16 => zc (fX3_isDead N a16 z6) fun r17 z18 => if r17 = 0 then (zl (zgR z18 2 12 a12) fun y22 => zd y22 fun a23 => zl (zgR z18 3 16 a23) fun y24 => zd y24 fun a25 => if (zgI z18 6 8 a25) = 0 then (zl (zgR z18 2 12 a12) fun y27 => zd y27 fun a28 => zc (fX3_closeByOwner N a28 z18) fun _ z30 => zl (zgR z30 2 12 a12) fun y33 => zd y33 fun a34 => zc (fX3_armProbe N a34 (zgI z30 11 4 x0) z30) fun _ z36 => fX11_close_140 N x0 z36) else (some (.inr 2, z18))) else (zc (fX2_setUnused N a12 z18) fun _ z40 => fX11_close_140 N x0 z40)) else (zc (fX11_abandonThrough N x0 a10 x2 z6) fun _ z44 => zc (fX2_setUnused N a12 z44) fun _ z48 => fX11_close_140 N x0 z48)) else (some (.inr 2, z6))
set_option maxHeartbeats 4000000 in
set_option maxRecDepth 100000 in
theorem bX11_close_0 (hst : zSt B ids) (F : zFx p m c cX11_close 5 s args RX11 D cy B ids A) (hA : ∀ q : Nat, s.heap.size ≤ q → A q) (hAd : ∀ q, zAd B ids s.heap.size q ↔ A q) (hlf : l.stackTraces = false) (hret : meth.sig.returnType = none) (hlocks : meth.locks = false) (htab : ∀ x ∈ c.exceptionTable.toList, False) (hX : zXK A s s.heap) {r : (Int32 ⊕ Nat)} {z' : St} {N : Nat}  (x0 : Nat) (x1 : Int32) (x2 : Int32) (hx0 : (11, x0) ∈ ids) {cells slots : Nat} (hcs1 : cells + 1 ≤ rmX11_close.cells ∧ slots + 6 ≤ rmX11_close.slots) {z : St} {H : Heap} {locs : List Loc} {ls : Array Slot} (hr : zRep D cy B ids A s.heap z H locs) (hl : lv_has ls 5 [(0, .ref (B 11 x0)), (1, .int x1), (2, .int x2)]) (h : fX11_close N x0 x1 x2 z = some (r, z')) : W p l e rmX11_close s m args below meth c H locs cells slots (vx_MQ below (zQX D cy B ids (fun _ => none) (fun _ => True) r z' A) (zXC D cy B ids r z' A) args s rmX11_close.cells rmX11_close.slots A) (F0 m 0 ls []) := by
  unfold fX11_close at h
  have hcs0 := zcs_0 hcs1
  refine lv_aload_n F.1 F.2.1 dX11_close_0 rfl (lv_at hl 0 rfl) ?_
  refine lv_iload_n F.1 F.2.1 dX11_close_1 rfl (lv_at hl 1 rfl) ?_
  replace h := zc_some h
  obtain ⟨r1, z2, hc3, h⟩ := h
  refine zr_callr (zrun_V (As := [.int x1]) (rest := []) zq_1684 zq_1686 zs_X11_hostOf zq_1687 zq_1 hdX11_hostOf (by decide) (T := TX11) (N := 21) rfl (okX11_hostOf l D cy B ids hst N x0 hx0 x1  hr.2.2 hc3) F hr hx0 hl.1 rfl (by decide) dX11_close_2 rfl rfl hroX11_close_X11_hostOf hcs0) F hA hr (fun H locs hw4 hr => ?_)
  clear hc3
  refine zr_astore_n (lv' := [(3, va_rf (Option.map (B 1) r1)), (0, .ref (B 11 x0)), (1, .int x1), (2, .int x2)]) F.1 F.2.1 dX11_close_5 rfl hl (by decide) rfl (fun ls hl => ?_)
  refine lv_aload_n F.1 F.2.1 dX11_close_6 rfl (lv_at hl 1 rfl) ?_
  refine lv_iload_n F.1 F.2.1 dX11_close_7 rfl (lv_at hl 2 rfl) ?_
  refine lv_iload_n F.1 F.2.1 dX11_close_8 rfl (lv_at hl 3 rfl) ?_
  replace h := zc_some h
  obtain ⟨r5, z6, hc7, h⟩ := h
  refine zr_callr (zrun_V (As := [.int x1, .int x2]) (rest := []) zq_1721 zq_1723 zs_X11_doorOf zq_1724 zq_1 hdX11_doorOf (by decide) (T := TX11) (N := 21) rfl (okX11_doorOf l D cy B ids hst N x0 hx0 x1  x2  hr.2.2 hc7) F hr hx0 hl.1 rfl (by decide) dX11_close_9 rfl rfl hroX11_close_X11_doorOf hcs0) F hA hr (fun H locs hw8 hr => ?_)
  clear hc7
  refine zr_astore (lv' := [(4, va_rf (Option.map (B 2) r5)), (3, va_rf (Option.map (B 1) r1)), (0, .ref (B 11 x0)), (1, .int x1), (2, .int x2)]) F.1 F.2.1 dX11_close_12 hl (by decide) (by simp only [List.filter, zrf_cat]; rfl) (fun ls hl => ?_)
  refine zr_aload_n F.1 F.2.1 dX11_close_14 rfl (lv_at hl 1 rfl) ?_
  refine zr_ifnull (tgt := 23) F.1 F.2.1 dX11_close_15 (by decide) (fun e9 => ?_) (fun a10 e9 => ?_)
  · replace h := zo_n e9 h
    subst e9
    exact bX11_close_23 hst F hA hAd hlf hret hlocks htab hX   hcs1 hr (lv_sub hl [] rfl) h
  · replace h := zo_s e9 h
    subst e9
    refine zr_aload F.1 F.2.1 dX11_close_18 (lv_at hl 0 rfl) ?_
    refine zr_ifnonnull (tgt := 34) F.1 F.2.1 dX11_close_20 (by decide) (fun e11 => ?_) (fun a12 e11 => ?_)
    · replace h := zo_n e11 h
      subst e11
      exact bX11_close_23 hst F hA hAd hlf hret hlocks htab hX   hcs1 hr (lv_sub hl [] rfl) h
    · replace h := zo_s e11 h
      subst e11
      refine lv_aload F.1 F.2.1 dX11_close_34 (lv_at hl 0 rfl) ?_
      refine gf11_279 F (hw8 _ rfl) hr dX11_close_36 ?_
      refine lv_if_ne (tgt := 53) F.1 F.2.1 dX11_close_39 (by decide) (fun c13 => ?_) (fun c13 => ?_)
      · replace h := zi_t c13 h
        refine lv_aload F.1 F.2.1 dX11_close_53 (lv_at hl 0 rfl) ?_
        refine gf11_279 F (hw8 _ rfl) hr dX11_close_55 ?_
        refine lv_iconst (v := (1 : Int32)) F.1 F.2.1 dX11_close_58 (by decide) ?_
        refine lv_icmp_ne (tgt := 76) F.1 F.2.1 dX11_close_59 (by decide) (fun c14 => ?_) (fun c14 => ?_)
        · replace h := zi_t c14 h
          refine lv_aload F.1 F.2.1 dX11_close_76 (lv_at hl 0 rfl) ?_
          refine gf11_253 F (hw8 _ rfl) hr dX11_close_78 (fun y15 ey15 => ?_)
          replace h := zl_sub ey15 h
          have hy15 := zal_g hr (hw8 _ rfl) (j := 12) rfl ey15
          clear ey15
          replace h := zd_some h
          obtain ⟨a16, rfl, h⟩ := h
          replace h := zc_some h
          obtain ⟨r17, z18, hc19, h⟩ := h
          refine zr_calli (zrun_VN (As := []) (rest := []) zn_1672 zq_1227 zs_X3_isDead zq_1228 zq_13 hdX3_isDead (by decide) (T := TX3) (N := 19) rfl (okX3_isDead l D cy B ids hst N a16 (hy15 _ rfl) hr.2.2 hc19) F hr (hy15 _ rfl) hl.1 rfl (by decide) dX11_close_81 rfl rfl hroX11_close_X3_isDead hcs0) F hA hr (fun H locs hw20 hr => ?_)
          clear hc19
          refine lv_if_eq (tgt := 95) F.1 F.2.1 dX11_close_84 (by decide) (fun c21 => ?_) (fun c21 => ?_)
          · replace h := zi_t c21 h
            refine lv_aload F.1 F.2.1 dX11_close_95 (lv_at hl 0 rfl) ?_
            refine gf11_253 F (hw8 _ rfl) hr dX11_close_97 (fun y22 ey22 => ?_)
            replace h := zl_sub ey22 h
            have hy22 := zal_g hr (hw8 _ rfl) (j := 12) rfl ey22
            clear ey22
            replace h := zd_some h
            obtain ⟨a23, rfl, h⟩ := h
            refine gf11_301 F (hy22 _ rfl) hr dX11_close_100 (fun y24 ey24 => ?_)
            replace h := zl_sub ey24 h
            have hy24 := zal_g hr (hy22 _ rfl) (j := 16) rfl ey24
            clear ey24
            replace h := zd_some h
            obtain ⟨a25, rfl, h⟩ := h
            refine gf11_358 F (hy24 _ rfl) hr dX11_close_103 ?_
            refine lv_if_eq (tgt := 120) F.1 F.2.1 dX11_close_106 (by decide) (fun c26 => ?_) (fun c26 => ?_)
            · replace h := zi_t c26 h
              refine lv_aload F.1 F.2.1 dX11_close_120 (lv_at hl 0 rfl) ?_
              refine gf11_253 F (hw8 _ rfl) hr dX11_close_122 (fun y27 ey27 => ?_)
              replace h := zl_sub ey27 h
              have hy27 := zal_g hr (hw8 _ rfl) (j := 12) rfl ey27
              clear ey27
              replace h := zd_some h
              obtain ⟨a28, rfl, h⟩ := h
              replace h := zc_some h
              obtain ⟨r29, z30, hc31, h⟩ := h
              refine zr_callv (zrun_VN (As := []) (rest := []) zn_1798 zq_1800 zs_X3_closeByOwner zq_1801 zq_13 hdX3_closeByOwner (by decide) (T := TX3) (N := 19) rfl (okX3_closeByOwner l D cy B ids hst N a28 (hy27 _ rfl) hr.2.2 hc31) F hr (hy27 _ rfl) hl.1 rfl (by decide) dX11_close_125 rfl rfl hroX11_close_X3_closeByOwner hcs0) F hA hr (fun H locs hw32 hr => ?_)
              clear hc31
              refine lv_aload F.1 F.2.1 dX11_close_128 (lv_at hl 0 rfl) ?_
              refine gf11_253 F (hw8 _ rfl) hr dX11_close_130 (fun y33 ey33 => ?_)
              replace h := zl_sub ey33 h
              have hy33 := zal_g hr (hw8 _ rfl) (j := 12) rfl ey33
              clear ey33
              refine lv_aload_n F.1 F.2.1 dX11_close_133 rfl (lv_at hl 2 rfl) ?_
              refine gf11_176 F hx0 hr dX11_close_134 ?_
              replace h := zd_some h
              obtain ⟨a34, rfl, h⟩ := h
              replace h := zc_some h
              obtain ⟨r35, z36, hc37, h⟩ := h
              refine zr_callv (zrun_VN (As := [.int (zgI z30 11 4 x0)]) (rest := []) zn_1668 zq_1670 zs_X3_armProbe zq_1671 zq_13 hdX3_armProbe (by decide) (T := TX3) (N := 19) rfl (okX3_armProbe l D cy B ids hst N a34 (hy33 _ rfl) (zgI z30 11 4 x0)  hr.2.2 hc37) F hr (hy33 _ rfl) hl.1 rfl (by decide) dX11_close_137 rfl rfl hroX11_close_X3_armProbe hcs0) F hA hr (fun H locs hw38 hr => ?_)
              clear hc37
              exact bX11_close_140 hst F hA hAd hlf hret hlocks htab hX  x0 hx0 hcs1 hr (lv_sub hl [2] rfl) h
            · replace h := zi_f c26 h
              obtain ⟨rfl, rfl⟩ := zret h
              exact zXtw (text := "the end has closed") hlf F htab hX hlocks hl.1 (Or.inr rfl) zq_335 zq_8 (by decide +kernel) dX11_close_109 dX11_close_112 dX11_close_113 dX11_close_116 dX11_close_119 (by decide) (by decide) hcs1.1 hcs1.2 hr hcs1.1 hcs1.2
          · replace h := zi_f c21 h
            refine lv_aload F.1 F.2.1 dX11_close_87 (lv_at hl 0 rfl) ?_
            replace h := zc_some h
            obtain ⟨r39, z40, hc41, h⟩ := h
            refine zr_callv (zrun_VN (As := []) (rest := []) zn_1673 zq_1675 zs_X2_setUnused zq_1676 zq_12 hdX2_setUnused (by decide) (T := TX2) (N := 13) rfl (okX2_setUnused l D cy B ids hst N a12 (hw8 _ rfl) hr.2.2 hc41) F hr (hw8 _ rfl) hl.1 rfl (by decide) dX11_close_89 rfl rfl hroX11_close_X2_setUnused hcs0) F hA hr (fun H locs hw42 hr => ?_)
            clear hc41
            refine lv_goto (tgt := 140) F.1 F.2.1 dX11_close_92 (by decide) ?_
            exact bX11_close_140 hst F hA hAd hlf hret hlocks htab hX  x0 hx0 hcs1 hr (lv_sub hl [2] rfl) h
        · replace h := zi_f (fun q => q c14) h
          refine lv_aload_n F.1 F.2.1 dX11_close_62 rfl (lv_at hl 2 rfl) ?_
          refine lv_aload_n F.1 F.2.1 dX11_close_63 rfl (lv_at hl 1 rfl) ?_
          refine lv_iload_n F.1 F.2.1 dX11_close_64 rfl (lv_at hl 4 rfl) ?_
          replace h := zc_some h
          obtain ⟨r43, z44, hc45, h⟩ := h
          refine zr_callv (zrun_V (As := [.ref (B 1 a10), .int x2]) (rest := []) zq_1789 zq_1791 zs_X11_abandonThrough zq_1792 zq_1 hdX11_abandonThrough (by decide) (T := TX11) (N := 21) rfl (okX11_abandonThrough l D cy B ids hst N x0 hx0 a10 (hw4 _ rfl) x2  hr.2.2 hc45) F hr hx0 hl.1 rfl (by decide) dX11_close_65 rfl rfl hroX11_close_X11_abandonThrough hcs0) F hA hr (fun H locs hw46 hr => ?_)
          clear hc45
          refine lv_aload F.1 F.2.1 dX11_close_68 (lv_at hl 0 rfl) ?_
          replace h := zc_some h
          obtain ⟨r47, z48, hc49, h⟩ := h
          refine zr_callv (zrun_VN (As := []) (rest := []) zn_1673 zq_1675 zs_X2_setUnused zq_1676 zq_12 hdX2_setUnused (by decide) (T := TX2) (N := 13) rfl (okX2_setUnused l D cy B ids hst N a12 (hw8 _ rfl) hr.2.2 hc49) F hr (hw8 _ rfl) hl.1 rfl (by decide) dX11_close_70 rfl rfl hroX11_close_X2_setUnused hcs0) F hA hr (fun H locs hw50 hr => ?_)
          clear hc49
          refine lv_goto (tgt := 140) F.1 F.2.1 dX11_close_73 (by decide) ?_
          exact bX11_close_140 hst F hA hAd hlf hret hlocks htab hX  x0 hx0 hcs1 hr (lv_sub hl [2] rfl) h
      · replace h := zi_f (fun q => q c13) h
        obtain ⟨rfl, rfl⟩ := zret h
        exact zXtw (text := "the door is free") hlf F htab hX hlocks hl.1 (Or.inr rfl) zq_335 zq_8 (by decide +kernel) dX11_close_42 dX11_close_45 dX11_close_46 dX11_close_49 dX11_close_52 (by decide) (by decide) hcs1.1 hcs1.2 hr hcs1.1 hcs1.2
end SX11_close
set_option maxRecDepth 100000 in
theorem okX11_close (l : Launch) (hlf : l.stackTraces = false) (D : va_G) (cy : Nat → ClassId) (B : Nat → Nat → Nat) (ids : List (Nat × Nat)) (hst : zSt B ids) (N : Nat) (x0 : Nat) (hx0 : (11, x0) ∈ ids) (x1 : Int32) (x2 : Int32) {z : St} {r : (Int32 ⊕ Nat)} {z' : St} (hW : zWf ids z) (h : fX11_close N x0 x1 x2 z = some (r, z')) : zMX l yX11_close (zws yX11_close cX11_close 5 none) rmX11_close D cy B ids [.ref (B 11 x0), .int x1, .int x2] (fun _ => none) (fun _ => True) r z z' :=
  zMX_of hst hW (by decide +kernel) (Nat.le_of_ble_eq_true rfl) (fun p e s m args below meth c A ls F hA hAd hret hlocks htab hX hr hl => bX11_close_0 hst F hA hAd hlf hret hlocks htab hX x0 x1 x2 hx0 (by decide) hr hl h)
abbrev rmX11_abort : Room := { frames := 6, cells := 1, slots := 6, locals := 100 }
theorem hdX11_abort : yX11_abort.cls ≠ "java/lang/invoke/MethodHandle" ∧ yX11_abort.cls ≠ "java/lang/invoke/VarHandle" ∧ (parseMethodDescriptor yX11_abort.desc).map (fun d => d.parameters.length) = some 2 := by decide +kernel
theorem hroX11_abort_X11_doorOf : rmX11_doorOf.frames + 1 ≤ rmX11_abort.frames ∧ 8 + (4 + 11) + rmX11_doorOf.locals ≤ rmX11_abort.locals := by decide
theorem hroX11_abort_X11_stir : rmX11_stir.frames + 1 ≤ rmX11_abort.frames ∧ 8 + (1 + 11) + rmX11_stir.locals ≤ rmX11_abort.locals := by decide
theorem hroX11_abort_X3_abortByOwner : rmX3_abortByOwner.frames + 1 ≤ rmX11_abort.frames ∧ 8 + (1 + 11) + rmX3_abortByOwner.locals ≤ rmX11_abort.locals := by decide
theorem hroX11_abort_X3_isDead : rmX3_isDead.frames + 1 ≤ rmX11_abort.frames ∧ 8 + (1 + 11) + rmX3_isDead.locals ≤ rmX11_abort.locals := by decide
section SX11_abort
variable {p : Program} {l : Launch} {e : Env} {s : State} {m : MethodId} {args : Array Value} {below : List Frame} {meth : Method} {c : Code} {Q : State → Prop} {D : va_G} {cy : Nat → ClassId} {B : Nat → Nat → Nat} {ids : List (Nat × Nat)} {A : Nat → Prop}
def fX11_abort (N : Nat)  (x0 : Nat) (x1 : Int32) (x2 : Int32) (z : St) : Option ((Int32 ⊕ Nat) × St) := zc (fX11_doorOf N x0 x1 x2 z) fun r1 z2 => zo r1 (some (.inr 1, z2)) fun a6 => if (zgI z2 2 0 a6) = (2 : Int32) then (zl (zgR z2 2 12 a6) fun y8 => zd y8 fun a9 => zc (fX3_isDead N a9 z2) fun r10 z11 => if r10 = 0 then (zl (zgR z11 2 12 a6) fun y15 => zd y15 fun a16 => zc (fX3_abortByOwner N a16 z11) fun _ z18 => zc (fX11_stir N x0 z18) fun _ z22 => some (.inl 0, z22)) else (some (.inr 2, z11))) else (some (.inr 2, z2))
set_option maxHeartbeats 4000000 in
set_option maxRecDepth 100000 in
theorem bX11_abort_0 (hst : zSt B ids) (F : zFx p m c cX11_abort 4 s args RX11 D cy B ids A) (hA : ∀ q : Nat, s.heap.size ≤ q → A q) (hAd : ∀ q, zAd B ids s.heap.size q ↔ A q) (hlf : l.stackTraces = false) (hret : meth.sig.returnType = none) (hlocks : meth.locks = false) (htab : ∀ x ∈ c.exceptionTable.toList, False) (hX : zXK A s s.heap) {r : (Int32 ⊕ Nat)} {z' : St} {N : Nat}  (x0 : Nat) (x1 : Int32) (x2 : Int32) (hx0 : (11, x0) ∈ ids) {cells slots : Nat} (hcs1 : cells + 1 ≤ rmX11_abort.cells ∧ slots + 6 ≤ rmX11_abort.slots) {z : St} {H : Heap} {locs : List Loc} {ls : Array Slot} (hr : zRep D cy B ids A s.heap z H locs) (hl : lv_has ls 4 [(0, .ref (B 11 x0)), (1, .int x1), (2, .int x2)]) (h : fX11_abort N x0 x1 x2 z = some (r, z')) : W p l e rmX11_abort s m args below meth c H locs cells slots (vx_MQ below (zQX D cy B ids (fun _ => none) (fun _ => True) r z' A) (zXC D cy B ids r z' A) args s rmX11_abort.cells rmX11_abort.slots A) (F0 m 0 ls []) := by
  unfold fX11_abort at h
  have hcs0 := zcs_0 hcs1
  refine lv_aload_n F.1 F.2.1 dX11_abort_0 rfl (lv_at hl 0 rfl) ?_
  refine lv_iload_n F.1 F.2.1 dX11_abort_1 rfl (lv_at hl 1 rfl) ?_
  refine lv_iload_n F.1 F.2.1 dX11_abort_2 rfl (lv_at hl 2 rfl) ?_
  replace h := zc_some h
  obtain ⟨r1, z2, hc3, h⟩ := h
  refine zr_callr (zrun_V (As := [.int x1, .int x2]) (rest := []) zq_1721 zq_1723 zs_X11_doorOf zq_1724 zq_1 hdX11_doorOf (by decide) (T := TX11) (N := 21) rfl (okX11_doorOf l D cy B ids hst N x0 hx0 x1  x2  hr.2.2 hc3) F hr hx0 hl.1 rfl (by decide) dX11_abort_3 rfl rfl hroX11_abort_X11_doorOf hcs0) F hA hr (fun H locs hw4 hr => ?_)
  clear hc3
  refine zr_astore_n (lv' := [(3, va_rf (Option.map (B 2) r1)), (0, .ref (B 11 x0)), (1, .int x1), (2, .int x2)]) F.1 F.2.1 dX11_abort_6 rfl hl (by decide) rfl (fun ls hl => ?_)
  refine zr_aload_n F.1 F.2.1 dX11_abort_7 rfl (lv_at hl 0 rfl) ?_
  refine zr_ifnonnull (tgt := 22) F.1 F.2.1 dX11_abort_8 (by decide) (fun e5 => ?_) (fun a6 e5 => ?_)
  · replace h := zo_n e5 h
    subst e5
    obtain ⟨rfl, rfl⟩ := zret h
    exact zXtw (text := "no such host or door") hlf F htab hX hlocks hl.1 (Or.inl rfl) zq_870 zq_22 (by decide +kernel) dX11_abort_11 dX11_abort_14 dX11_abort_15 dX11_abort_18 dX11_abort_21 (by decide) (by decide) hcs1.1 hcs1.2 hr hcs1.1 hcs1.2
  · replace h := zo_s e5 h
    subst e5
    refine lv_aload_n F.1 F.2.1 dX11_abort_22 rfl (lv_at hl 0 rfl) ?_
    refine gf11_279 F (hw4 _ rfl) hr dX11_abort_23 ?_
    refine lv_iconst (v := (2 : Int32)) F.1 F.2.1 dX11_abort_26 (by decide) ?_
    refine lv_icmp_eq (tgt := 41) F.1 F.2.1 dX11_abort_27 (by decide) (fun c7 => ?_) (fun c7 => ?_)
    · replace h := zi_t c7 h
      refine lv_aload_n F.1 F.2.1 dX11_abort_41 rfl (lv_at hl 0 rfl) ?_
      refine gf11_253 F (hw4 _ rfl) hr dX11_abort_42 (fun y8 ey8 => ?_)
      replace h := zl_sub ey8 h
      have hy8 := zal_g hr (hw4 _ rfl) (j := 12) rfl ey8
      clear ey8
      replace h := zd_some h
      obtain ⟨a9, rfl, h⟩ := h
      replace h := zc_some h
      obtain ⟨r10, z11, hc12, h⟩ := h
      refine zr_calli (zrun_VN (As := []) (rest := []) zn_1672 zq_1227 zs_X3_isDead zq_1228 zq_13 hdX3_isDead (by decide) (T := TX3) (N := 19) rfl (okX3_isDead l D cy B ids hst N a9 (hy8 _ rfl) hr.2.2 hc12) F hr (hy8 _ rfl) hl.1 rfl (by decide) dX11_abort_45 rfl rfl hroX11_abort_X3_isDead hcs0) F hA hr (fun H locs hw13 hr => ?_)
      clear hc12
      refine lv_if_eq (tgt := 62) F.1 F.2.1 dX11_abort_48 (by decide) (fun c14 => ?_) (fun c14 => ?_)
      · replace h := zi_t c14 h
        refine lv_aload_n F.1 F.2.1 dX11_abort_62 rfl (lv_at hl 0 rfl) ?_
        refine gf11_253 F (hw4 _ rfl) hr dX11_abort_63 (fun y15 ey15 => ?_)
        replace h := zl_sub ey15 h
        have hy15 := zal_g hr (hw4 _ rfl) (j := 12) rfl ey15
        clear ey15
        replace h := zd_some h
        obtain ⟨a16, rfl, h⟩ := h
        replace h := zc_some h
        obtain ⟨r17, z18, hc19, h⟩ := h
        refine zr_callv (zrun_VN (As := []) (rest := []) zn_1793 zq_1795 zs_X3_abortByOwner zq_1796 zq_13 hdX3_abortByOwner (by decide) (T := TX3) (N := 19) rfl (okX3_abortByOwner l D cy B ids hst N a16 (hy15 _ rfl) hr.2.2 hc19) F hr (hy15 _ rfl) hl.1 rfl (by decide) dX11_abort_66 rfl rfl hroX11_abort_X3_abortByOwner hcs0) F hA hr (fun H locs hw20 hr => ?_)
        clear hc19
        refine lv_aload_n F.1 F.2.1 dX11_abort_69 rfl (lv_at hl 1 rfl) ?_
        replace h := zc_some h
        obtain ⟨r21, z22, hc23, h⟩ := h
        refine zr_callv (zrun_V (As := []) (rest := []) zq_858 zq_860 zs_X11_stir zq_861 zq_1 hdX11_stir (by decide) (T := TX11) (N := 21) rfl (okX11_stir l D cy B ids hst N x0 hx0 hr.2.2 hc23) F hr hx0 hl.1 rfl (by decide) dX11_abort_70 rfl rfl hroX11_abort_X11_stir hcs0) F hA hr (fun H locs hw24 hr => ?_)
        clear hc23
        obtain ⟨rfl, rfl⟩ := zret h
        exact zXe_v F hret hlocks dX11_abort_73 hr hcs0.1 hcs0.2
      · replace h := zi_f c14 h
        obtain ⟨rfl, rfl⟩ := zret h
        exact zXtw (text := "the end is FREE or ABORTED") hlf F htab hX hlocks hl.1 (Or.inr rfl) zq_335 zq_8 (by decide +kernel) dX11_abort_51 dX11_abort_54 dX11_abort_55 dX11_abort_58 dX11_abort_61 (by decide) (by decide) hcs1.1 hcs1.2 hr hcs1.1 hcs1.2
    · replace h := zi_f c7 h
      obtain ⟨rfl, rfl⟩ := zret h
      exact zXtw (text := "the door is free or listens") hlf F htab hX hlocks hl.1 (Or.inr rfl) zq_335 zq_8 (by decide +kernel) dX11_abort_30 dX11_abort_33 dX11_abort_34 dX11_abort_37 dX11_abort_40 (by decide) (by decide) hcs1.1 hcs1.2 hr hcs1.1 hcs1.2
end SX11_abort
set_option maxRecDepth 100000 in
theorem okX11_abort (l : Launch) (hlf : l.stackTraces = false) (D : va_G) (cy : Nat → ClassId) (B : Nat → Nat → Nat) (ids : List (Nat × Nat)) (hst : zSt B ids) (N : Nat) (x0 : Nat) (hx0 : (11, x0) ∈ ids) (x1 : Int32) (x2 : Int32) {z : St} {r : (Int32 ⊕ Nat)} {z' : St} (hW : zWf ids z) (h : fX11_abort N x0 x1 x2 z = some (r, z')) : zMX l yX11_abort (zws yX11_abort cX11_abort 4 none) rmX11_abort D cy B ids [.ref (B 11 x0), .int x1, .int x2] (fun _ => none) (fun _ => True) r z z' :=
  zMX_of hst hW (by decide +kernel) (Nat.le_of_ble_eq_true rfl) (fun p e s m args below meth c A ls F hA hAd hret hlocks htab hX hr hl => bX11_abort_0 hst F hA hAd hlf hret hlocks htab hX x0 x1 x2 hx0 (by decide) hr hl h)
abbrev rmX11_door : Room := { frames := 6, cells := 1, slots := 6, locals := 100 }
theorem hdX11_door : yX11_door.cls ≠ "java/lang/invoke/MethodHandle" ∧ yX11_door.cls ≠ "java/lang/invoke/VarHandle" ∧ (parseMethodDescriptor yX11_door.desc).map (fun d => d.parameters.length) = some 3 := by decide +kernel
theorem hroX11_door_X11_doorOf : rmX11_doorOf.frames + 1 ≤ rmX11_door.frames ∧ 8 + (4 + 11) + rmX11_doorOf.locals ≤ rmX11_door.locals := by decide
theorem hroX11_door_X2_takesBytes : rmX2_takesBytes.frames + 1 ≤ rmX11_door.frames ∧ 8 + (1 + 11) + rmX2_takesBytes.locals ≤ rmX11_door.locals := by decide
section SX11_door
variable {p : Program} {l : Launch} {e : Env} {s : State} {m : MethodId} {args : Array Value} {below : List Frame} {meth : Method} {c : Code} {Q : State → Prop} {D : va_G} {cy : Nat → ClassId} {B : Nat → Nat → Nat} {ids : List (Nat × Nat)} {A : Nat → Prop}
def fX11_door_34 (N : Nat)   (z : St) : Option ((Int32 ⊕ Nat) × St) := some (.inr 1, z)
set_option maxHeartbeats 4000000 in
set_option maxRecDepth 100000 in
theorem bX11_door_34 (hst : zSt B ids) (F : zFx p m c cX11_door 6 s args RX11 D cy B ids A) (hA : ∀ q : Nat, s.heap.size ≤ q → A q) (hAd : ∀ q, zAd B ids s.heap.size q ↔ A q) (hlf : l.stackTraces = false) (hret : meth.sig.returnType = (some .int)) (hlocks : meth.locks = false) (htab : ∀ x ∈ c.exceptionTable.toList, False) (hX : zXK A s s.heap) {r : (Int32 ⊕ Nat)} {z' : St} {N : Nat}    {cells slots : Nat} (hcs1 : cells + 1 ≤ rmX11_door.cells ∧ slots + 6 ≤ rmX11_door.slots) {z : St} {H : Heap} {locs : List Loc} {ls : Array Slot} (hr : zRep D cy B ids A s.heap z H locs) (hl : lv_has ls 6 []) (h : fX11_door_34 N z = some (r, z')) : W p l e rmX11_door s m args below meth c H locs cells slots (vx_MQ below (zQX D cy B ids (fun v => some (.int v)) (fun _ => True) r z' A) (zXC D cy B ids r z' A) args s rmX11_door.cells rmX11_door.slots A) (F0 m 34 ls []) := by
  unfold fX11_door_34 at h
  have hcs0 := zcs_0 hcs1
  obtain ⟨rfl, rfl⟩ := zret h
  exact zXtw (text := "what is not 0 .. 6") hlf F htab hX hlocks hl.1 (Or.inl rfl) zq_870 zq_22 (by decide +kernel) dX11_door_34 dX11_door_37 dX11_door_38 dX11_door_41 dX11_door_44 (by decide) (by decide) hcs1.1 hcs1.2 hr hcs1.1 hcs1.2
def fX11_door_59 (N : Nat)  (x3 : Int32) (x4 : Nat) (s0 : Int32) (z : St) : Option ((Int32 ⊕ Nat) × St) := if x3 = (0 : Int32) then (if s0 = 0 then (if ¬ (zgI z 2 0 x4) = (1 : Int32) then (some (.inl (12 : Int32), z)) else (some (.inl (1 : Int32), z))) else (zl (zgR z 2 12 x4) fun y4 => zd y4 fun a5 => some (.inl (zgI z 3 0 a5), z))) else if x3 = (1 : Int32) then (some (.inl (zgI z 2 1 x4), z)) else if x3 = (2 : Int32) then (some (.inl (zgI z 2 3 x4), z)) else if x3 = (3 : Int32) then (some (.inl (zgI z 2 2 x4), z)) else if x3 = (4 : Int32) then (if s0 = 0 then (some (.inl (0 : Int32), z)) else (zl (zgR z 2 12 x4) fun y11 => zd y11 fun a12 => zl (zgR z 3 17 a12) fun y13 => zd y13 fun a14 => some (.inl (zgI z 4 3 a14), z))) else if x3 = (5 : Int32) then (zc (fX2_takesBytes N x4 z) fun r16 z17 => if r16 = 0 then (some (.inl (0 : Int32), z17)) else (zl (zgR z17 2 12 x4) fun y21 => zd y21 fun a22 => zl (zgR z17 3 16 a22) fun y23 => zd y23 fun a24 => some (.inl ((2048 : Int32) - (zgI z17 6 2 a24)), z17))) else (if s0 = 0 then (some (.inl (0 : Int32), z)) else (zl (zgR z 2 12 x4) fun y26 => zd y26 fun a27 => zl (zgR z 3 16 a27) fun y28 => zd y28 fun a29 => some (.inl (zgI z 6 2 a29), z)))
set_option maxHeartbeats 4000000 in
set_option maxRecDepth 100000 in
theorem bX11_door_59 (hst : zSt B ids) (F : zFx p m c cX11_door 6 s args RX11 D cy B ids A) (hA : ∀ q : Nat, s.heap.size ≤ q → A q) (hAd : ∀ q, zAd B ids s.heap.size q ↔ A q) (hlf : l.stackTraces = false) (hret : meth.sig.returnType = (some .int)) (hlocks : meth.locks = false) (htab : ∀ x ∈ c.exceptionTable.toList, False) (hX : zXK A s s.heap) {r : (Int32 ⊕ Nat)} {z' : St} {N : Nat}  (x3 : Int32) (x4 : Nat) (s0 : Int32) (hx4 : (2, x4) ∈ ids) {cells slots : Nat} (hcs1 : cells + 1 ≤ rmX11_door.cells ∧ slots + 6 ≤ rmX11_door.slots) {z : St} {H : Heap} {locs : List Loc} {ls : Array Slot} (hr : zRep D cy B ids A s.heap z H locs) (hl : lv_has ls 6 [(3, .int x3), (4, .ref (B 2 x4))]) (h : fX11_door_59 N x3 x4 s0 z = some (r, z')) : W p l e rmX11_door s m args below meth c H locs cells slots (vx_MQ below (zQX D cy B ids (fun v => some (.int v)) (fun _ => True) r z' A) (zXC D cy B ids r z' A) args s rmX11_door.cells rmX11_door.slots A) (F0 m 59 ls [.int s0]) := by
  unfold fX11_door_59 at h
  have hcs0 := zcs_0 hcs1
  refine lv_istore (lv' := [(5, .int s0), (3, .int x3), (4, .ref (B 2 x4))]) F.1 F.2.1 dX11_door_59 hl (by decide) rfl (fun ls hl => ?_)
  refine lv_iload_n F.1 F.2.1 dX11_door_61 rfl (lv_at hl 1 rfl) ?_
  by_cases c1 : x3 = (0 : Int32)
  · replace h := zi_t c1 h
    refine lv_tableIn (tgt := 100) F.1 F.2.1 dX11_door_62 (by rw [c1]; decide) (by rw [c1]; decide) (by rw [c1]; rfl) (by decide) ?_
    refine lv_iload F.1 F.2.1 dX11_door_100 (lv_at hl 0 rfl) ?_
    refine lv_if_eq (tgt := 116) F.1 F.2.1 dX11_door_102 (by decide) (fun c2 => ?_) (fun c2 => ?_)
    · replace h := zi_t c2 h
      refine lv_aload F.1 F.2.1 dX11_door_116 (lv_at hl 2 rfl) ?_
      refine gf11_279 F hx4 hr dX11_door_118 ?_
      refine lv_iconst (v := (1 : Int32)) F.1 F.2.1 dX11_door_121 (by decide) ?_
      refine lv_icmp_ne (tgt := 129) F.1 F.2.1 dX11_door_122 (by decide) (fun c3 => ?_) (fun c3 => ?_)
      · replace h := zi_t c3 h
        refine lv_bipush (v := (12 : Int32)) F.1 F.2.1 dX11_door_129 (by decide) ?_
        obtain ⟨rfl, rfl⟩ := zret h
        exact zXe_i F hret hlocks dX11_door_131 hr hcs0.1 hcs0.2
      · replace h := zi_f (fun q => q c3) h
        refine lv_iconst (v := (1 : Int32)) F.1 F.2.1 dX11_door_125 (by decide) ?_
        refine lv_goto (tgt := 131) F.1 F.2.1 dX11_door_126 (by decide) ?_
        obtain ⟨rfl, rfl⟩ := zret h
        exact zXe_i F hret hlocks dX11_door_131 hr hcs0.1 hcs0.2
    · replace h := zi_f c2 h
      refine lv_aload F.1 F.2.1 dX11_door_105 (lv_at hl 2 rfl) ?_
      refine gf11_253 F hx4 hr dX11_door_107 (fun y4 ey4 => ?_)
      replace h := zl_sub ey4 h
      have hy4 := zal_g hr hx4 (j := 12) rfl ey4
      clear ey4
      replace h := zd_some h
      obtain ⟨a5, rfl, h⟩ := h
      refine gf11_290 F (hy4 _ rfl) hr dX11_door_110 ?_
      refine lv_goto (tgt := 131) F.1 F.2.1 dX11_door_113 (by decide) ?_
      obtain ⟨rfl, rfl⟩ := zret h
      exact zXe_i F hret hlocks dX11_door_131 hr hcs0.1 hcs0.2
  replace h := zi_f c1 h
  by_cases c6 : x3 = (1 : Int32)
  · replace h := zi_t c6 h
    refine lv_tableIn (tgt := 132) F.1 F.2.1 dX11_door_62 (by rw [c6]; decide) (by rw [c6]; decide) (by rw [c6]; rfl) (by decide) ?_
    refine lv_aload F.1 F.2.1 dX11_door_132 (lv_at hl 2 rfl) ?_
    refine gf11_378 F hx4 hr dX11_door_134 ?_
    obtain ⟨rfl, rfl⟩ := zret h
    exact zXe_i F hret hlocks dX11_door_137 hr hcs0.1 hcs0.2
  replace h := zi_f c6 h
  by_cases c7 : x3 = (2 : Int32)
  · replace h := zi_t c7 h
    refine lv_tableIn (tgt := 138) F.1 F.2.1 dX11_door_62 (by rw [c7]; decide) (by rw [c7]; decide) (by rw [c7]; rfl) (by decide) ?_
    refine lv_aload F.1 F.2.1 dX11_door_138 (lv_at hl 2 rfl) ?_
    refine gf11_381 F hx4 hr dX11_door_140 ?_
    obtain ⟨rfl, rfl⟩ := zret h
    exact zXe_i F hret hlocks dX11_door_143 hr hcs0.1 hcs0.2
  replace h := zi_f c7 h
  by_cases c8 : x3 = (3 : Int32)
  · replace h := zi_t c8 h
    refine lv_tableIn (tgt := 144) F.1 F.2.1 dX11_door_62 (by rw [c8]; decide) (by rw [c8]; decide) (by rw [c8]; rfl) (by decide) ?_
    refine lv_aload F.1 F.2.1 dX11_door_144 (lv_at hl 2 rfl) ?_
    refine gf11_384 F hx4 hr dX11_door_146 ?_
    obtain ⟨rfl, rfl⟩ := zret h
    exact zXe_i F hret hlocks dX11_door_149 hr hcs0.1 hcs0.2
  replace h := zi_f c8 h
  by_cases c9 : x3 = (4 : Int32)
  · replace h := zi_t c9 h
    refine lv_tableIn (tgt := 150) F.1 F.2.1 dX11_door_62 (by rw [c9]; decide) (by rw [c9]; decide) (by rw [c9]; rfl) (by decide) ?_
    refine lv_iload F.1 F.2.1 dX11_door_150 (lv_at hl 0 rfl) ?_
    refine lv_if_eq (tgt := 169) F.1 F.2.1 dX11_door_152 (by decide) (fun c10 => ?_) (fun c10 => ?_)
    · replace h := zi_t c10 h
      refine lv_iconst (v := (0 : Int32)) F.1 F.2.1 dX11_door_169 (by decide) ?_
      obtain ⟨rfl, rfl⟩ := zret h
      exact zXe_i F hret hlocks dX11_door_170 hr hcs0.1 hcs0.2
    · replace h := zi_f c10 h
      refine lv_aload F.1 F.2.1 dX11_door_155 (lv_at hl 2 rfl) ?_
      refine gf11_253 F hx4 hr dX11_door_157 (fun y11 ey11 => ?_)
      replace h := zl_sub ey11 h
      have hy11 := zal_g hr hx4 (j := 12) rfl ey11
      clear ey11
      replace h := zd_some h
      obtain ⟨a12, rfl, h⟩ := h
      refine gf11_332 F (hy11 _ rfl) hr dX11_door_160 (fun y13 ey13 => ?_)
      replace h := zl_sub ey13 h
      have hy13 := zal_g hr (hy11 _ rfl) (j := 17) rfl ey13
      clear ey13
      replace h := zd_some h
      obtain ⟨a14, rfl, h⟩ := h
      refine gf11_336 F (hy13 _ rfl) hr dX11_door_163 ?_
      refine lv_goto (tgt := 170) F.1 F.2.1 dX11_door_166 (by decide) ?_
      obtain ⟨rfl, rfl⟩ := zret h
      exact zXe_i F hret hlocks dX11_door_170 hr hcs0.1 hcs0.2
  replace h := zi_f c9 h
  by_cases c15 : x3 = (5 : Int32)
  · replace h := zi_t c15 h
    refine lv_tableIn (tgt := 171) F.1 F.2.1 dX11_door_62 (by rw [c15]; decide) (by rw [c15]; decide) (by rw [c15]; rfl) (by decide) ?_
    refine lv_aload F.1 F.2.1 dX11_door_171 (lv_at hl 2 rfl) ?_
    replace h := zc_some h
    obtain ⟨r16, z17, hc18, h⟩ := h
    refine zr_calli (zrun_VN (As := []) (rest := []) zn_1735 zq_1737 zs_X2_takesBytes zq_1738 zq_12 hdX2_takesBytes (by decide) (T := TX2) (N := 13) rfl (okX2_takesBytes l D cy B ids hst N x4 hx4 hr.2.2 hc18) F hr hx4 hl.1 rfl (by decide) dX11_door_173 rfl rfl hroX11_door_X2_takesBytes hcs0) F hA hr (fun H locs hw19 hr => ?_)
    clear hc18
    refine lv_if_eq (tgt := 197) F.1 F.2.1 dX11_door_176 (by decide) (fun c20 => ?_) (fun c20 => ?_)
    · replace h := zi_t c20 h
      refine lv_iconst (v := (0 : Int32)) F.1 F.2.1 dX11_door_197 (by decide) ?_
      obtain ⟨rfl, rfl⟩ := zret h
      exact zXe_i F hret hlocks dX11_door_198 hr hcs0.1 hcs0.2
    · replace h := zi_f c20 h
      refine lv_sipush (v := (2048 : Int32)) F.1 F.2.1 dX11_door_179 (by decide) ?_
      refine lv_aload F.1 F.2.1 dX11_door_182 (lv_at hl 2 rfl) ?_
      refine gf11_253 F hx4 hr dX11_door_184 (fun y21 ey21 => ?_)
      replace h := zl_sub ey21 h
      have hy21 := zal_g hr hx4 (j := 12) rfl ey21
      clear ey21
      replace h := zd_some h
      obtain ⟨a22, rfl, h⟩ := h
      refine gf11_301 F (hy21 _ rfl) hr dX11_door_187 (fun y23 ey23 => ?_)
      replace h := zl_sub ey23 h
      have hy23 := zal_g hr (hy21 _ rfl) (j := 16) rfl ey23
      clear ey23
      replace h := zd_some h
      obtain ⟨a24, rfl, h⟩ := h
      refine gf11_305 F (hy23 _ rfl) hr dX11_door_190 ?_
      refine lv_isub F.1 F.2.1 dX11_door_193 ?_
      refine lv_goto (tgt := 198) F.1 F.2.1 dX11_door_194 (by decide) ?_
      obtain ⟨rfl, rfl⟩ := zret h
      exact zXe_i F hret hlocks dX11_door_198 hr hcs0.1 hcs0.2
  replace h := zi_f c15 h
  refine lv_tableOut (tgt := 199) F.1 F.2.1 dX11_door_62 (zsw0_5 c1 c6 c7 c8 c9 c15) (by decide) ?_
  refine lv_iload F.1 F.2.1 dX11_door_199 (lv_at hl 0 rfl) ?_
  refine lv_if_eq (tgt := 218) F.1 F.2.1 dX11_door_201 (by decide) (fun c25 => ?_) (fun c25 => ?_)
  · replace h := zi_t c25 h
    refine lv_iconst (v := (0 : Int32)) F.1 F.2.1 dX11_door_218 (by decide) ?_
    obtain ⟨rfl, rfl⟩ := zret h
    exact zXe_i F hret hlocks dX11_door_219 hr hcs0.1 hcs0.2
  · replace h := zi_f c25 h
    refine lv_aload F.1 F.2.1 dX11_door_204 (lv_at hl 2 rfl) ?_
    refine gf11_253 F hx4 hr dX11_door_206 (fun y26 ey26 => ?_)
    replace h := zl_sub ey26 h
    have hy26 := zal_g hr hx4 (j := 12) rfl ey26
    clear ey26
    replace h := zd_some h
    obtain ⟨a27, rfl, h⟩ := h
    refine gf11_301 F (hy26 _ rfl) hr dX11_door_209 (fun y28 ey28 => ?_)
    replace h := zl_sub ey28 h
    have hy28 := zal_g hr (hy26 _ rfl) (j := 16) rfl ey28
    clear ey28
    replace h := zd_some h
    obtain ⟨a29, rfl, h⟩ := h
    refine gf11_305 F (hy28 _ rfl) hr dX11_door_212 ?_
    refine lv_goto (tgt := 219) F.1 F.2.1 dX11_door_215 (by decide) ?_
    obtain ⟨rfl, rfl⟩ := zret h
    exact zXe_i F hret hlocks dX11_door_219 hr hcs0.1 hcs0.2
def fX11_door (N : Nat)  (x0 : Nat) (x1 : Int32) (x2 : Int32) (x3 : Int32) (z : St) : Option ((Int32 ⊕ Nat) × St) := zc (fX11_doorOf N x0 x1 x2 z) fun r1 z2 => zo r1 (some (.inr 1, z2)) fun a6 => if x3 < 0 then (fX11_door_34 N z2) else (if x3 ≤ (6 : Int32) then (if ¬ (zgI z2 2 0 a6) = (2 : Int32) then (fX11_door_59 N x3 a6 (0 : Int32) z2) else (fX11_door_59 N x3 a6 (1 : Int32) z2)) else (fX11_door_34 N z2))
set_option maxHeartbeats 4000000 in
set_option maxRecDepth 100000 in
theorem bX11_door_0 (hst : zSt B ids) (F : zFx p m c cX11_door 6 s args RX11 D cy B ids A) (hA : ∀ q : Nat, s.heap.size ≤ q → A q) (hAd : ∀ q, zAd B ids s.heap.size q ↔ A q) (hlf : l.stackTraces = false) (hret : meth.sig.returnType = (some .int)) (hlocks : meth.locks = false) (htab : ∀ x ∈ c.exceptionTable.toList, False) (hX : zXK A s s.heap) {r : (Int32 ⊕ Nat)} {z' : St} {N : Nat}  (x0 : Nat) (x1 : Int32) (x2 : Int32) (x3 : Int32) (hx0 : (11, x0) ∈ ids) {cells slots : Nat} (hcs1 : cells + 1 ≤ rmX11_door.cells ∧ slots + 6 ≤ rmX11_door.slots) {z : St} {H : Heap} {locs : List Loc} {ls : Array Slot} (hr : zRep D cy B ids A s.heap z H locs) (hl : lv_has ls 6 [(0, .ref (B 11 x0)), (1, .int x1), (2, .int x2), (3, .int x3)]) (h : fX11_door N x0 x1 x2 x3 z = some (r, z')) : W p l e rmX11_door s m args below meth c H locs cells slots (vx_MQ below (zQX D cy B ids (fun v => some (.int v)) (fun _ => True) r z' A) (zXC D cy B ids r z' A) args s rmX11_door.cells rmX11_door.slots A) (F0 m 0 ls []) := by
  unfold fX11_door at h
  have hcs0 := zcs_0 hcs1
  refine lv_aload_n F.1 F.2.1 dX11_door_0 rfl (lv_at hl 0 rfl) ?_
  refine lv_iload_n F.1 F.2.1 dX11_door_1 rfl (lv_at hl 1 rfl) ?_
  refine lv_iload_n F.1 F.2.1 dX11_door_2 rfl (lv_at hl 2 rfl) ?_
  replace h := zc_some h
  obtain ⟨r1, z2, hc3, h⟩ := h
  refine zr_callr (zrun_V (As := [.int x1, .int x2]) (rest := []) zq_1721 zq_1723 zs_X11_doorOf zq_1724 zq_1 hdX11_doorOf (by decide) (T := TX11) (N := 21) rfl (okX11_doorOf l D cy B ids hst N x0 hx0 x1  x2  hr.2.2 hc3) F hr hx0 hl.1 rfl (by decide) dX11_door_3 rfl rfl hroX11_door_X11_doorOf hcs0) F hA hr (fun H locs hw4 hr => ?_)
  clear hc3
  refine zr_astore (lv' := [(4, va_rf (Option.map (B 2) r1)), (0, .ref (B 11 x0)), (1, .int x1), (2, .int x2), (3, .int x3)]) F.1 F.2.1 dX11_door_6 hl (by decide) rfl (fun ls hl => ?_)
  refine zr_aload F.1 F.2.1 dX11_door_8 (lv_at hl 0 rfl) ?_
  refine zr_ifnonnull (tgt := 24) F.1 F.2.1 dX11_door_10 (by decide) (fun e5 => ?_) (fun a6 e5 => ?_)
  · replace h := zo_n e5 h
    subst e5
    obtain ⟨rfl, rfl⟩ := zret h
    exact zXtw (text := "no such host or door") hlf F htab hX hlocks hl.1 (Or.inl rfl) zq_870 zq_22 (by decide +kernel) dX11_door_13 dX11_door_16 dX11_door_17 dX11_door_20 dX11_door_23 (by decide) (by decide) hcs1.1 hcs1.2 hr hcs1.1 hcs1.2
  · replace h := zo_s e5 h
    subst e5
    refine lv_iload_n F.1 F.2.1 dX11_door_24 rfl (lv_at hl 4 rfl) ?_
    refine lv_if_lt (tgt := 34) F.1 F.2.1 dX11_door_25 (by decide) (fun c7 => ?_) (fun c7 => ?_)
    · replace h := zi_t c7 h
      exact bX11_door_34 hst F hA hAd hlf hret hlocks htab hX   hcs1 hr (lv_sub hl [] rfl) h
    · replace h := zi_f c7 h
      refine lv_iload_n F.1 F.2.1 dX11_door_28 rfl (lv_at hl 4 rfl) ?_
      refine lv_bipush (v := (6 : Int32)) F.1 F.2.1 dX11_door_29 (by decide) ?_
      refine lv_icmp_le (tgt := 45) F.1 F.2.1 dX11_door_31 (by decide) (fun c8 => ?_) (fun c8 => ?_)
      · replace h := zi_t c8 h
        refine lv_aload F.1 F.2.1 dX11_door_45 (lv_at hl 0 rfl) ?_
        refine gf11_279 F (hw4 _ rfl) hr dX11_door_47 ?_
        refine lv_iconst (v := (2 : Int32)) F.1 F.2.1 dX11_door_50 (by decide) ?_
        refine lv_icmp_ne (tgt := 58) F.1 F.2.1 dX11_door_51 (by decide) (fun c9 => ?_) (fun c9 => ?_)
        · replace h := zi_t c9 h
          refine lv_iconst (v := (0 : Int32)) F.1 F.2.1 dX11_door_58 (by decide) ?_
          exact bX11_door_59 hst F hA hAd hlf hret hlocks htab hX  x3 a6 (0 : Int32) (hw4 _ rfl) hcs1 hr (lv_sub hl [4, 0] rfl) h
        · replace h := zi_f (fun q => q c9) h
          refine lv_iconst (v := (1 : Int32)) F.1 F.2.1 dX11_door_54 (by decide) ?_
          refine lv_goto (tgt := 59) F.1 F.2.1 dX11_door_55 (by decide) ?_
          exact bX11_door_59 hst F hA hAd hlf hret hlocks htab hX  x3 a6 (1 : Int32) (hw4 _ rfl) hcs1 hr (lv_sub hl [4, 0] rfl) h
      · replace h := zi_f c8 h
        exact bX11_door_34 hst F hA hAd hlf hret hlocks htab hX   hcs1 hr (lv_sub hl [] rfl) h
end SX11_door
set_option maxRecDepth 100000 in
theorem okX11_door (l : Launch) (hlf : l.stackTraces = false) (D : va_G) (cy : Nat → ClassId) (B : Nat → Nat → Nat) (ids : List (Nat × Nat)) (hst : zSt B ids) (N : Nat) (x0 : Nat) (hx0 : (11, x0) ∈ ids) (x1 : Int32) (x2 : Int32) (x3 : Int32) {z : St} {r : (Int32 ⊕ Nat)} {z' : St} (hW : zWf ids z) (h : fX11_door N x0 x1 x2 x3 z = some (r, z')) : zMX l yX11_door (zws yX11_door cX11_door 6 (some .int)) rmX11_door D cy B ids [.ref (B 11 x0), .int x1, .int x2, .int x3] (fun v => some (.int v)) (fun _ => True) r z z' :=
  zMX_of hst hW (by decide +kernel) (Nat.le_of_ble_eq_true rfl) (fun p e s m args below meth c A ls F hA hAd hret hlocks htab hX hr hl => bX11_door_0 hst F hA hAd hlf hret hlocks htab hX x0 x1 x2 x3 hx0 (by decide) hr hl h)
abbrev rmX11_drain : Room := { frames := 6, cells := 1, slots := 6, locals := 100 }
theorem hdX11_drain : yX11_drain.cls ≠ "java/lang/invoke/MethodHandle" ∧ yX11_drain.cls ≠ "java/lang/invoke/VarHandle" ∧ (parseMethodDescriptor yX11_drain.desc).map (fun d => d.parameters.length) = some 3 := by decide +kernel
theorem hroX11_drain_X11_doorOf : rmX11_doorOf.frames + 1 ≤ rmX11_drain.frames ∧ 8 + (4 + 11) + rmX11_doorOf.locals ≤ rmX11_drain.locals := by decide
section SX11_drain
variable {p : Program} {l : Launch} {e : Env} {s : State} {m : MethodId} {args : Array Value} {below : List Frame} {meth : Method} {c : Code} {Q : State → Prop} {D : va_G} {cy : Nat → ClassId} {B : Nat → Nat → Nat} {ids : List (Nat × Nat)} {A : Nat → Prop}
def fX11_drain (N : Nat)  (x0 : Nat) (x1 : Int32) (x2 : Int32) (x3 : Int32) (z : St) : Option ((Int32 ⊕ Nat) × St) := zc (fX11_doorOf N x0 x1 x2 z) fun r1 z2 => zo r1 (some (.inr 1, z2)) fun a6 => if (zgI z2 2 0 a6) = (2 : Int32) then (zq (x3 = 0 ∨ x3 = 1) <| zl (zsI z2 2 8 a6 x3) fun z8 => some (.inl 0, z8)) else (some (.inr 2, z2))
set_option maxHeartbeats 4000000 in
set_option maxRecDepth 100000 in
theorem bX11_drain_0 (hst : zSt B ids) (F : zFx p m c cX11_drain 5 s args RX11 D cy B ids A) (hA : ∀ q : Nat, s.heap.size ≤ q → A q) (hAd : ∀ q, zAd B ids s.heap.size q ↔ A q) (hlf : l.stackTraces = false) (hret : meth.sig.returnType = none) (hlocks : meth.locks = false) (htab : ∀ x ∈ c.exceptionTable.toList, False) (hX : zXK A s s.heap) {r : (Int32 ⊕ Nat)} {z' : St} {N : Nat}  (x0 : Nat) (x1 : Int32) (x2 : Int32) (x3 : Int32) (hx0 : (11, x0) ∈ ids) {cells slots : Nat} (hcs1 : cells + 1 ≤ rmX11_drain.cells ∧ slots + 6 ≤ rmX11_drain.slots) {z : St} {H : Heap} {locs : List Loc} {ls : Array Slot} (hr : zRep D cy B ids A s.heap z H locs) (hl : lv_has ls 5 [(0, .ref (B 11 x0)), (1, .int x1), (2, .int x2), (3, .int x3)]) (h : fX11_drain N x0 x1 x2 x3 z = some (r, z')) : W p l e rmX11_drain s m args below meth c H locs cells slots (vx_MQ below (zQX D cy B ids (fun _ => none) (fun _ => True) r z' A) (zXC D cy B ids r z' A) args s rmX11_drain.cells rmX11_drain.slots A) (F0 m 0 ls []) := by
  unfold fX11_drain at h
  have hcs0 := zcs_0 hcs1
  refine lv_aload_n F.1 F.2.1 dX11_drain_0 rfl (lv_at hl 0 rfl) ?_
  refine lv_iload_n F.1 F.2.1 dX11_drain_1 rfl (lv_at hl 1 rfl) ?_
  refine lv_iload_n F.1 F.2.1 dX11_drain_2 rfl (lv_at hl 2 rfl) ?_
  replace h := zc_some h
  obtain ⟨r1, z2, hc3, h⟩ := h
  refine zr_callr (zrun_V (As := [.int x1, .int x2]) (rest := []) zq_1721 zq_1723 zs_X11_doorOf zq_1724 zq_1 hdX11_doorOf (by decide) (T := TX11) (N := 21) rfl (okX11_doorOf l D cy B ids hst N x0 hx0 x1  x2  hr.2.2 hc3) F hr hx0 hl.1 rfl (by decide) dX11_drain_3 rfl rfl hroX11_drain_X11_doorOf hcs0) F hA hr (fun H locs hw4 hr => ?_)
  clear hc3
  refine zr_astore (lv' := [(4, va_rf (Option.map (B 2) r1)), (0, .ref (B 11 x0)), (1, .int x1), (2, .int x2), (3, .int x3)]) F.1 F.2.1 dX11_drain_6 hl (by decide) rfl (fun ls hl => ?_)
  refine zr_aload F.1 F.2.1 dX11_drain_8 (lv_at hl 0 rfl) ?_
  refine zr_ifnonnull (tgt := 24) F.1 F.2.1 dX11_drain_10 (by decide) (fun e5 => ?_) (fun a6 e5 => ?_)
  · replace h := zo_n e5 h
    subst e5
    obtain ⟨rfl, rfl⟩ := zret h
    exact zXtw (text := "no such host or door") hlf F htab hX hlocks hl.1 (Or.inl rfl) zq_870 zq_22 (by decide +kernel) dX11_drain_13 dX11_drain_16 dX11_drain_17 dX11_drain_20 dX11_drain_23 (by decide) (by decide) hcs1.1 hcs1.2 hr hcs1.1 hcs1.2
  · replace h := zo_s e5 h
    subst e5
    refine lv_aload F.1 F.2.1 dX11_drain_24 (lv_at hl 0 rfl) ?_
    refine gf11_279 F (hw4 _ rfl) hr dX11_drain_26 ?_
    refine lv_iconst (v := (2 : Int32)) F.1 F.2.1 dX11_drain_29 (by decide) ?_
    refine lv_icmp_eq (tgt := 44) F.1 F.2.1 dX11_drain_30 (by decide) (fun c7 => ?_) (fun c7 => ?_)
    · replace h := zi_t c7 h
      refine lv_aload F.1 F.2.1 dX11_drain_44 (lv_at hl 0 rfl) ?_
      refine lv_iload_n F.1 F.2.1 dX11_drain_46 rfl (lv_at hl 4 rfl) ?_
      replace h := zq_some h
      obtain ⟨c9, h⟩ := h
      refine pf11_387 F (hw4 _ rfl) hr dX11_drain_47 x3 c9 (fun H locs z8 ez8 hr => ?_)
      replace h := zl_sub ez8 h
      clear ez8
      obtain ⟨rfl, rfl⟩ := zret h
      exact zXe_v F hret hlocks dX11_drain_50 hr hcs0.1 hcs0.2
    · replace h := zi_f c7 h
      obtain ⟨rfl, rfl⟩ := zret h
      exact zXtw (text := "the door is free or listens") hlf F htab hX hlocks hl.1 (Or.inr rfl) zq_335 zq_8 (by decide +kernel) dX11_drain_33 dX11_drain_36 dX11_drain_37 dX11_drain_40 dX11_drain_43 (by decide) (by decide) hcs1.1 hcs1.2 hr hcs1.1 hcs1.2
end SX11_drain
set_option maxRecDepth 100000 in
theorem okX11_drain (l : Launch) (hlf : l.stackTraces = false) (D : va_G) (cy : Nat → ClassId) (B : Nat → Nat → Nat) (ids : List (Nat × Nat)) (hst : zSt B ids) (N : Nat) (x0 : Nat) (hx0 : (11, x0) ∈ ids) (x1 : Int32) (x2 : Int32) (x3 : Int32) {z : St} {r : (Int32 ⊕ Nat)} {z' : St} (hW : zWf ids z) (h : fX11_drain N x0 x1 x2 x3 z = some (r, z')) : zMX l yX11_drain (zws yX11_drain cX11_drain 5 none) rmX11_drain D cy B ids [.ref (B 11 x0), .int x1, .int x2, .int x3] (fun _ => none) (fun _ => True) r z z' :=
  zMX_of hst hW (by decide +kernel) (Nat.le_of_ble_eq_true rfl) (fun p e s m args below meth c A ls F hA hAd hret hlocks htab hX hr hl => bX11_drain_0 hst F hA hAd hlf hret hlocks htab hX x0 x1 x2 x3 hx0 (by decide) hr hl h)
abbrev rmX11_drained : Room := { frames := 6, cells := 1, slots := 6, locals := 100 }
theorem hdX11_drained : yX11_drained.cls ≠ "java/lang/invoke/MethodHandle" ∧ yX11_drained.cls ≠ "java/lang/invoke/VarHandle" ∧ (parseMethodDescriptor yX11_drained.desc).map (fun d => d.parameters.length) = some 2 := by decide +kernel
theorem hroX11_drained_X11_doorOf : rmX11_doorOf.frames + 1 ≤ rmX11_drained.frames ∧ 8 + (4 + 11) + rmX11_doorOf.locals ≤ rmX11_drained.locals := by decide
section SX11_drained
variable {p : Program} {l : Launch} {e : Env} {s : State} {m : MethodId} {args : Array Value} {below : List Frame} {meth : Method} {c : Code} {Q : State → Prop} {D : va_G} {cy : Nat → ClassId} {B : Nat → Nat → Nat} {ids : List (Nat × Nat)} {A : Nat → Prop}
def fX11_drained (N : Nat)  (x0 : Nat) (x1 : Int32) (x2 : Int32) (z : St) : Option ((Int32 ⊕ Nat) × St) := zc (fX11_doorOf N x0 x1 x2 z) fun r1 z2 => zo r1 (some (.inr 1, z2)) fun a6 => some (.inl (zgI z2 2 9 a6), z2)
set_option maxHeartbeats 4000000 in
set_option maxRecDepth 100000 in
theorem bX11_drained_0 (hst : zSt B ids) (F : zFx p m c cX11_drained 4 s args RX11 D cy B ids A) (hA : ∀ q : Nat, s.heap.size ≤ q → A q) (hAd : ∀ q, zAd B ids s.heap.size q ↔ A q) (hlf : l.stackTraces = false) (hret : meth.sig.returnType = (some .int)) (hlocks : meth.locks = false) (htab : ∀ x ∈ c.exceptionTable.toList, False) (hX : zXK A s s.heap) {r : (Int32 ⊕ Nat)} {z' : St} {N : Nat}  (x0 : Nat) (x1 : Int32) (x2 : Int32) (hx0 : (11, x0) ∈ ids) {cells slots : Nat} (hcs1 : cells + 1 ≤ rmX11_drained.cells ∧ slots + 6 ≤ rmX11_drained.slots) {z : St} {H : Heap} {locs : List Loc} {ls : Array Slot} (hr : zRep D cy B ids A s.heap z H locs) (hl : lv_has ls 4 [(0, .ref (B 11 x0)), (1, .int x1), (2, .int x2)]) (h : fX11_drained N x0 x1 x2 z = some (r, z')) : W p l e rmX11_drained s m args below meth c H locs cells slots (vx_MQ below (zQX D cy B ids (fun v => some (.int v)) (fun _ => True) r z' A) (zXC D cy B ids r z' A) args s rmX11_drained.cells rmX11_drained.slots A) (F0 m 0 ls []) := by
  unfold fX11_drained at h
  have hcs0 := zcs_0 hcs1
  refine lv_aload_n F.1 F.2.1 dX11_drained_0 rfl (lv_at hl 0 rfl) ?_
  refine lv_iload_n F.1 F.2.1 dX11_drained_1 rfl (lv_at hl 1 rfl) ?_
  refine lv_iload_n F.1 F.2.1 dX11_drained_2 rfl (lv_at hl 2 rfl) ?_
  replace h := zc_some h
  obtain ⟨r1, z2, hc3, h⟩ := h
  refine zr_callr (zrun_V (As := [.int x1, .int x2]) (rest := []) zq_1721 zq_1723 zs_X11_doorOf zq_1724 zq_1 hdX11_doorOf (by decide) (T := TX11) (N := 21) rfl (okX11_doorOf l D cy B ids hst N x0 hx0 x1  x2  hr.2.2 hc3) F hr hx0 hl.1 rfl (by decide) dX11_drained_3 rfl rfl hroX11_drained_X11_doorOf hcs0) F hA hr (fun H locs hw4 hr => ?_)
  clear hc3
  refine zr_astore_n (lv' := [(3, va_rf (Option.map (B 2) r1)), (0, .ref (B 11 x0)), (1, .int x1), (2, .int x2)]) F.1 F.2.1 dX11_drained_6 rfl hl (by decide) rfl (fun ls hl => ?_)
  refine zr_aload_n F.1 F.2.1 dX11_drained_7 rfl (lv_at hl 0 rfl) ?_
  refine zr_ifnonnull (tgt := 22) F.1 F.2.1 dX11_drained_8 (by decide) (fun e5 => ?_) (fun a6 e5 => ?_)
  · replace h := zo_n e5 h
    subst e5
    obtain ⟨rfl, rfl⟩ := zret h
    exact zXtw (text := "no such host or door") hlf F htab hX hlocks hl.1 (Or.inl rfl) zq_870 zq_22 (by decide +kernel) dX11_drained_11 dX11_drained_14 dX11_drained_15 dX11_drained_18 dX11_drained_21 (by decide) (by decide) hcs1.1 hcs1.2 hr hcs1.1 hcs1.2
  · replace h := zo_s e5 h
    subst e5
    refine lv_aload_n F.1 F.2.1 dX11_drained_22 rfl (lv_at hl 0 rfl) ?_
    refine gf11_390 F (hw4 _ rfl) hr dX11_drained_23 ?_
    obtain ⟨rfl, rfl⟩ := zret h
    exact zXe_i F hret hlocks dX11_drained_26 hr hcs0.1 hcs0.2
end SX11_drained
set_option maxRecDepth 100000 in
theorem okX11_drained (l : Launch) (hlf : l.stackTraces = false) (D : va_G) (cy : Nat → ClassId) (B : Nat → Nat → Nat) (ids : List (Nat × Nat)) (hst : zSt B ids) (N : Nat) (x0 : Nat) (hx0 : (11, x0) ∈ ids) (x1 : Int32) (x2 : Int32) {z : St} {r : (Int32 ⊕ Nat)} {z' : St} (hW : zWf ids z) (h : fX11_drained N x0 x1 x2 z = some (r, z')) : zMX l yX11_drained (zws yX11_drained cX11_drained 4 (some .int)) rmX11_drained D cy B ids [.ref (B 11 x0), .int x1, .int x2] (fun v => some (.int v)) (fun _ => True) r z z' :=
  zMX_of hst hW (by decide +kernel) (Nat.le_of_ble_eq_true rfl) (fun p e s m args below meth c A ls F hA hAd hret hlocks htab hX hr hl => bX11_drained_0 hst F hA hAd hlf hret hlocks htab hX x0 x1 x2 hx0 (by decide) hr hl h)
abbrev rmX11_way : Room := { frames := 6, cells := 1, slots := 6, locals := 100 }
theorem hdX11_way : yX11_way.cls ≠ "java/lang/invoke/MethodHandle" ∧ yX11_way.cls ≠ "java/lang/invoke/VarHandle" ∧ (parseMethodDescriptor yX11_way.desc).map (fun d => d.parameters.length) = some 3 := by decide +kernel
theorem hroX11_way_X11_netOf : rmX11_netOf.frames + 1 ≤ rmX11_way.frames ∧ 8 + (2 + 11) + rmX11_netOf.locals ≤ rmX11_way.locals := by decide
theorem hroX11_way_X11_routerOf : rmX11_routerOf.frames + 1 ≤ rmX11_way.frames ∧ 8 + (3 + 11) + rmX11_routerOf.locals ≤ rmX11_way.locals := by decide
section SX11_way
variable {p : Program} {l : Launch} {e : Env} {s : State} {m : MethodId} {args : Array Value} {below : List Frame} {meth : Method} {c : Code} {Q : State → Prop} {D : va_G} {cy : Nat → ClassId} {B : Nat → Nat → Nat} {ids : List (Nat × Nat)} {A : Nat → Prop}
def fX11_way_20 (N : Nat)   (z : St) : Option ((Int32 ⊕ Nat) × St) := some (.inr 1, z)
set_option maxHeartbeats 4000000 in
set_option maxRecDepth 100000 in
theorem bX11_way_20 (hst : zSt B ids) (F : zFx p m c cX11_way 6 s args RX11 D cy B ids A) (hA : ∀ q : Nat, s.heap.size ≤ q → A q) (hAd : ∀ q, zAd B ids s.heap.size q ↔ A q) (hlf : l.stackTraces = false) (hret : meth.sig.returnType = (some .int)) (hlocks : meth.locks = false) (htab : ∀ x ∈ c.exceptionTable.toList, False) (hX : zXK A s s.heap) {r : (Int32 ⊕ Nat)} {z' : St} {N : Nat}    {cells slots : Nat} (hcs1 : cells + 1 ≤ rmX11_way.cells ∧ slots + 6 ≤ rmX11_way.slots) {z : St} {H : Heap} {locs : List Loc} {ls : Array Slot} (hr : zRep D cy B ids A s.heap z H locs) (hl : lv_has ls 6 []) (h : fX11_way_20 N z = some (r, z')) : W p l e rmX11_way s m args below meth c H locs cells slots (vx_MQ below (zQX D cy B ids (fun v => some (.int v)) (fun _ => True) r z' A) (zXC D cy B ids r z' A) args s rmX11_way.cells rmX11_way.slots A) (F0 m 20 ls []) := by
  unfold fX11_way_20 at h
  have hcs0 := zcs_0 hcs1
  obtain ⟨rfl, rfl⟩ := zret h
  exact zXt (text := "no such router or net") hlf F htab hX hlocks hl.1 (Or.inl rfl) zq_870 zq_22 (by decide +kernel) dX11_way_20 dX11_way_23 dX11_way_24 dX11_way_26 dX11_way_29 (by decide) (by decide) hcs1.1 hcs1.2 hr hcs1.1 hcs1.2
def fX11_way_39 (N : Nat)   (z : St) : Option ((Int32 ⊕ Nat) × St) := some (.inr 1, z)
set_option maxHeartbeats 4000000 in
set_option maxRecDepth 100000 in
theorem bX11_way_39 (hst : zSt B ids) (F : zFx p m c cX11_way 6 s args RX11 D cy B ids A) (hA : ∀ q : Nat, s.heap.size ≤ q → A q) (hAd : ∀ q, zAd B ids s.heap.size q ↔ A q) (hlf : l.stackTraces = false) (hret : meth.sig.returnType = (some .int)) (hlocks : meth.locks = false) (htab : ∀ x ∈ c.exceptionTable.toList, False) (hX : zXK A s s.heap) {r : (Int32 ⊕ Nat)} {z' : St} {N : Nat}    {cells slots : Nat} (hcs1 : cells + 1 ≤ rmX11_way.cells ∧ slots + 6 ≤ rmX11_way.slots) {z : St} {H : Heap} {locs : List Loc} {ls : Array Slot} (hr : zRep D cy B ids A s.heap z H locs) (hl : lv_has ls 6 []) (h : fX11_way_39 N z = some (r, z')) : W p l e rmX11_way s m args below meth c H locs cells slots (vx_MQ below (zQX D cy B ids (fun v => some (.int v)) (fun _ => True) r z' A) (zXC D cy B ids r z' A) args s rmX11_way.cells rmX11_way.slots A) (F0 m 39 ls []) := by
  unfold fX11_way_39 at h
  have hcs0 := zcs_0 hcs1
  obtain ⟨rfl, rfl⟩ := zret h
  exact zXtw (text := "what is not 0 .. 2") hlf F htab hX hlocks hl.1 (Or.inl rfl) zq_870 zq_22 (by decide +kernel) dX11_way_39 dX11_way_42 dX11_way_43 dX11_way_46 dX11_way_49 (by decide) (by decide) hcs1.1 hcs1.2 hr hcs1.1 hcs1.2
def fX11_way (N : Nat)  (x0 : Nat) (x1 : Int32) (x2 : Int32) (x3 : Int32) (z : St) : Option ((Int32 ⊕ Nat) × St) := zc (fX11_routerOf N x0 x1 z) fun r1 z2 => zo r1 (fX11_way_20 N z2) fun a6 => zc (fX11_netOf N x0 x2 z2) fun r7 z8 => zo r7 (fX11_way_20 N z8) fun a12 => if x3 < 0 then (fX11_way_39 N z8) else (if x3 ≤ (2 : Int32) then (zl (zgR z8 1 10 a6) fun y15 => zd y15 fun a16 => zl (zgR z8 9 12 a16) fun y17 => if ¬ x3 = 0 then (if ¬ x3 = (1 : Int32) then (zd y17 fun a20 => zk x2 24 <| some (.inl (zgA z8 108 a20 (Int32.toNatClampNeg x2)), z8)) else (zd y17 fun a22 => zk x2 24 <| some (.inl (zgA z8 107 a22 (Int32.toNatClampNeg x2)), z8))) else (zd y17 fun a24 => zk x2 24 <| some (.inl (zgA z8 106 a24 (Int32.toNatClampNeg x2)), z8))) else (fX11_way_39 N z8))
set_option maxHeartbeats 4000000 in
set_option maxRecDepth 100000 in
theorem bX11_way_0 (hst : zSt B ids) (F : zFx p m c cX11_way 6 s args RX11 D cy B ids A) (hA : ∀ q : Nat, s.heap.size ≤ q → A q) (hAd : ∀ q, zAd B ids s.heap.size q ↔ A q) (hlf : l.stackTraces = false) (hret : meth.sig.returnType = (some .int)) (hlocks : meth.locks = false) (htab : ∀ x ∈ c.exceptionTable.toList, False) (hX : zXK A s s.heap) {r : (Int32 ⊕ Nat)} {z' : St} {N : Nat}  (x0 : Nat) (x1 : Int32) (x2 : Int32) (x3 : Int32) (hx0 : (11, x0) ∈ ids) {cells slots : Nat} (hcs1 : cells + 1 ≤ rmX11_way.cells ∧ slots + 6 ≤ rmX11_way.slots) {z : St} {H : Heap} {locs : List Loc} {ls : Array Slot} (hr : zRep D cy B ids A s.heap z H locs) (hl : lv_has ls 6 [(0, .ref (B 11 x0)), (1, .int x1), (2, .int x2), (3, .int x3)]) (h : fX11_way N x0 x1 x2 x3 z = some (r, z')) : W p l e rmX11_way s m args below meth c H locs cells slots (vx_MQ below (zQX D cy B ids (fun v => some (.int v)) (fun _ => True) r z' A) (zXC D cy B ids r z' A) args s rmX11_way.cells rmX11_way.slots A) (F0 m 0 ls []) := by
  unfold fX11_way at h
  have hcs0 := zcs_0 hcs1
  refine lv_aload_n F.1 F.2.1 dX11_way_0 rfl (lv_at hl 0 rfl) ?_
  refine lv_iload_n F.1 F.2.1 dX11_way_1 rfl (lv_at hl 1 rfl) ?_
  replace h := zc_some h
  obtain ⟨r1, z2, hc3, h⟩ := h
  refine zr_callr (zrun_V (As := [.int x1]) (rest := []) zq_985 zq_987 zs_X11_routerOf zq_988 zq_1 hdX11_routerOf (by decide) (T := TX11) (N := 21) rfl (okX11_routerOf l D cy B ids hst N x0 hx0 x1  hr.2.2 hc3) F hr hx0 hl.1 rfl (by decide) dX11_way_2 rfl rfl hroX11_way_X11_routerOf hcs0) F hA hr (fun H locs hw4 hr => ?_)
  clear hc3
  refine zr_astore (lv' := [(4, va_rf (Option.map (B 1) r1)), (0, .ref (B 11 x0)), (1, .int x1), (2, .int x2), (3, .int x3)]) F.1 F.2.1 dX11_way_5 hl (by decide) rfl (fun ls hl => ?_)
  refine zr_aload F.1 F.2.1 dX11_way_7 (lv_at hl 0 rfl) ?_
  refine zr_ifnull (tgt := 20) F.1 F.2.1 dX11_way_9 (by decide) (fun e5 => ?_) (fun a6 e5 => ?_)
  · replace h := zo_n e5 h
    subst e5
    exact bX11_way_20 hst F hA hAd hlf hret hlocks htab hX   hcs1 hr (lv_sub hl [] rfl) h
  · replace h := zo_s e5 h
    subst e5
    refine lv_aload_n F.1 F.2.1 dX11_way_12 rfl (lv_at hl 1 rfl) ?_
    refine lv_iload_n F.1 F.2.1 dX11_way_13 rfl (lv_at hl 3 rfl) ?_
    replace h := zc_some h
    obtain ⟨r7, z8, hc9, h⟩ := h
    refine zr_callr (zrun_V (As := [.int x2]) (rest := []) zq_903 zq_905 zs_X11_netOf zq_906 zq_1 hdX11_netOf (by decide) (T := TX11) (N := 21) rfl (okX11_netOf l D cy B ids hst N x0 hx0 x2  hr.2.2 hc9) F hr hx0 hl.1 rfl (by decide) dX11_way_14 rfl rfl hroX11_way_X11_netOf hcs0) F hA hr (fun H locs hw10 hr => ?_)
    clear hc9
    refine zr_ifnonnull (tgt := 30) F.1 F.2.1 dX11_way_17 (by decide) (fun e11 => ?_) (fun a12 e11 => ?_)
    · replace h := zo_n e11 h
      subst e11
      exact bX11_way_20 hst F hA hAd hlf hret hlocks htab hX   hcs1 hr (lv_sub hl [] rfl) h
    · replace h := zo_s e11 h
      subst e11
      refine lv_iload_n F.1 F.2.1 dX11_way_30 rfl (lv_at hl 4 rfl) ?_
      refine lv_if_lt (tgt := 39) F.1 F.2.1 dX11_way_31 (by decide) (fun c13 => ?_) (fun c13 => ?_)
      · replace h := zi_t c13 h
        exact bX11_way_39 hst F hA hAd hlf hret hlocks htab hX   hcs1 hr (lv_sub hl [] rfl) h
      · replace h := zi_f c13 h
        refine lv_iload_n F.1 F.2.1 dX11_way_34 rfl (lv_at hl 4 rfl) ?_
        refine lv_iconst (v := (2 : Int32)) F.1 F.2.1 dX11_way_35 (by decide) ?_
        refine lv_icmp_le (tgt := 50) F.1 F.2.1 dX11_way_36 (by decide) (fun c14 => ?_) (fun c14 => ?_)
        · replace h := zi_t c14 h
          refine lv_aload F.1 F.2.1 dX11_way_50 (lv_at hl 0 rfl) ?_
          refine gf11_395 F (hw4 _ rfl) hr dX11_way_52 (fun y15 ey15 => ?_)
          replace h := zl_sub ey15 h
          have hy15 := zal_g hr (hw4 _ rfl) (j := 10) rfl ey15
          clear ey15
          replace h := zd_some h
          obtain ⟨a16, rfl, h⟩ := h
          refine gf11_399 F (hy15 _ rfl) hr dX11_way_55 (fun y17 ey17 => ?_)
          replace h := zl_sub ey17 h
          have hy17 := zal_g hr (hy15 _ rfl) (j := 12) rfl ey17
          clear ey17
          refine zr_astore (lv' := [(5, va_rf (Option.map (B 0) y17)), (4, .ref (B 1 a6)), (0, .ref (B 11 x0)), (1, .int x1), (2, .int x2), (3, .int x3)]) F.1 F.2.1 dX11_way_58 hl (by decide) rfl (fun ls hl => ?_)
          refine lv_iload_n F.1 F.2.1 dX11_way_60 rfl (lv_at hl 5 rfl) ?_
          refine lv_if_ne (tgt := 72) F.1 F.2.1 dX11_way_61 (by decide) (fun c18 => ?_) (fun c18 => ?_)
          · replace h := zi_t c18 h
            refine lv_iload_n F.1 F.2.1 dX11_way_72 rfl (lv_at hl 5 rfl) ?_
            refine lv_iconst (v := (1 : Int32)) F.1 F.2.1 dX11_way_73 (by decide) ?_
            refine lv_icmp_ne (tgt := 87) F.1 F.2.1 dX11_way_74 (by decide) (fun c19 => ?_) (fun c19 => ?_)
            · replace h := zi_t c19 h
              refine zr_aload F.1 F.2.1 dX11_way_87 (lv_at hl 0 rfl) ?_
              replace h := zd_some h
              obtain ⟨a20, rfl, h⟩ := h
              refine gf11_413 F (hy17 _ rfl) hr dX11_way_89 ?_
              refine lv_iload_n F.1 F.2.1 dX11_way_92 rfl (lv_at hl 4 rfl) ?_
              replace h := zk_some h
              obtain ⟨c21, h⟩ := h
              refine zr_iald (k := 108) (by decide) rfl (by decide) F (zal_a F (hy17 _ rfl) (j := 12) rfl) hr dX11_way_93 c21 ?_
              obtain ⟨rfl, rfl⟩ := zret h
              exact zXe_i F hret hlocks dX11_way_94 hr hcs0.1 hcs0.2
            · replace h := zi_f (fun q => q c19) h
              refine zr_aload F.1 F.2.1 dX11_way_77 (lv_at hl 0 rfl) ?_
              replace h := zd_some h
              obtain ⟨a22, rfl, h⟩ := h
              refine gf11_410 F (hy17 _ rfl) hr dX11_way_79 ?_
              refine lv_iload_n F.1 F.2.1 dX11_way_82 rfl (lv_at hl 4 rfl) ?_
              replace h := zk_some h
              obtain ⟨c23, h⟩ := h
              refine zr_iald (k := 107) (by decide) rfl (by decide) F (zal_a F (hy17 _ rfl) (j := 11) rfl) hr dX11_way_83 c23 ?_
              refine lv_goto (tgt := 94) F.1 F.2.1 dX11_way_84 (by decide) ?_
              obtain ⟨rfl, rfl⟩ := zret h
              exact zXe_i F hret hlocks dX11_way_94 hr hcs0.1 hcs0.2
          · replace h := zi_f (fun q => q c18) h
            refine zr_aload F.1 F.2.1 dX11_way_64 (lv_at hl 0 rfl) ?_
            replace h := zd_some h
            obtain ⟨a24, rfl, h⟩ := h
            refine gf11_405 F (hy17 _ rfl) hr dX11_way_66 ?_
            refine lv_iload_n F.1 F.2.1 dX11_way_69 rfl (lv_at hl 4 rfl) ?_
            replace h := zk_some h
            obtain ⟨c25, h⟩ := h
            refine zr_iald (k := 106) (by decide) rfl (by decide) F (zal_a F (hy17 _ rfl) (j := 10) rfl) hr dX11_way_70 c25 ?_
            obtain ⟨rfl, rfl⟩ := zret h
            exact zXe_i F hret hlocks dX11_way_71 hr hcs0.1 hcs0.2
        · replace h := zi_f c14 h
          exact bX11_way_39 hst F hA hAd hlf hret hlocks htab hX   hcs1 hr (lv_sub hl [] rfl) h
end SX11_way
set_option maxRecDepth 100000 in
theorem okX11_way (l : Launch) (hlf : l.stackTraces = false) (D : va_G) (cy : Nat → ClassId) (B : Nat → Nat → Nat) (ids : List (Nat × Nat)) (hst : zSt B ids) (N : Nat) (x0 : Nat) (hx0 : (11, x0) ∈ ids) (x1 : Int32) (x2 : Int32) (x3 : Int32) {z : St} {r : (Int32 ⊕ Nat)} {z' : St} (hW : zWf ids z) (h : fX11_way N x0 x1 x2 x3 z = some (r, z')) : zMX l yX11_way (zws yX11_way cX11_way 6 (some .int)) rmX11_way D cy B ids [.ref (B 11 x0), .int x1, .int x2, .int x3] (fun v => some (.int v)) (fun _ => True) r z z' :=
  zMX_of hst hW (by decide +kernel) (Nat.le_of_ble_eq_true rfl) (fun p e s m args below meth c A ls F hA hAd hret hlocks htab hX hr hl => bX11_way_0 hst F hA hAd hlf hret hlocks htab hX x0 x1 x2 x3 hx0 (by decide) hr hl h)
abbrev rmX11_friends : Room := { frames := 6, cells := 1, slots := 6, locals := 100 }
theorem hdX11_friends : yX11_friends.cls ≠ "java/lang/invoke/MethodHandle" ∧ yX11_friends.cls ≠ "java/lang/invoke/VarHandle" ∧ (parseMethodDescriptor yX11_friends.desc).map (fun d => d.parameters.length) = some 3 := by decide +kernel
theorem hroX11_friends_X11_keyOf : rmX11_keyOf.frames + 1 ≤ rmX11_friends.frames ∧ 8 + (2 + 11) + rmX11_keyOf.locals ≤ rmX11_friends.locals := by decide
theorem hroX11_friends_X11_netOf : rmX11_netOf.frames + 1 ≤ rmX11_friends.frames ∧ 8 + (2 + 11) + rmX11_netOf.locals ≤ rmX11_friends.locals := by decide
theorem hroX11_friends_X11_routerOf : rmX11_routerOf.frames + 1 ≤ rmX11_friends.frames ∧ 8 + (3 + 11) + rmX11_routerOf.locals ≤ rmX11_friends.locals := by decide
theorem hroX11_friends_X1_portOn : rmX1_portOn.frames + 1 ≤ rmX11_friends.frames ∧ 8 + (3 + 11) + rmX1_portOn.locals ≤ rmX11_friends.locals := by decide
section SX11_friends
variable {p : Program} {l : Launch} {e : Env} {s : State} {m : MethodId} {args : Array Value} {below : List Frame} {meth : Method} {c : Code} {Q : State → Prop} {D : va_G} {cy : Nat → ClassId} {B : Nat → Nat → Nat} {ids : List (Nat × Nat)} {A : Nat → Prop}
def fX11_friends_20 (N : Nat)   (z : St) : Option ((Int32 ⊕ Nat) × St) := some (.inr 1, z)
set_option maxHeartbeats 4000000 in
set_option maxRecDepth 100000 in
theorem bX11_friends_20 (hst : zSt B ids) (F : zFx p m c cX11_friends 6 s args RX11 D cy B ids A) (hA : ∀ q : Nat, s.heap.size ≤ q → A q) (hAd : ∀ q, zAd B ids s.heap.size q ↔ A q) (hlf : l.stackTraces = false) (hret : meth.sig.returnType = (some .boolean)) (hlocks : meth.locks = false) (htab : ∀ x ∈ c.exceptionTable.toList, False) (hX : zXK A s s.heap) {r : (Int32 ⊕ Nat)} {z' : St} {N : Nat}    {cells slots : Nat} (hcs1 : cells + 1 ≤ rmX11_friends.cells ∧ slots + 6 ≤ rmX11_friends.slots) {z : St} {H : Heap} {locs : List Loc} {ls : Array Slot} (hr : zRep D cy B ids A s.heap z H locs) (hl : lv_has ls 6 []) (h : fX11_friends_20 N z = some (r, z')) : W p l e rmX11_friends s m args below meth c H locs cells slots (vx_MQ below (zQX D cy B ids (fun v => some (.int v)) (fun v => v = 0 ∨ v = 1) r z' A) (zXC D cy B ids r z' A) args s rmX11_friends.cells rmX11_friends.slots A) (F0 m 20 ls []) := by
  unfold fX11_friends_20 at h
  have hcs0 := zcs_0 hcs1
  obtain ⟨rfl, rfl⟩ := zret h
  exact zXtw (text := "no such router") hlf F htab hX hlocks hl.1 (Or.inl rfl) zq_870 zq_22 (by decide +kernel) dX11_friends_20 dX11_friends_23 dX11_friends_24 dX11_friends_27 dX11_friends_30 (by decide) (by decide) hcs1.1 hcs1.2 hr hcs1.1 hcs1.2
def fX11_friends (N : Nat)  (x0 : Nat) (x1 : Int32) (x2 : Int32) (x3 : Int32) (z : St) : Option ((Int32 ⊕ Nat) × St) := zc (fX11_routerOf N x0 x1 z) fun r1 z2 => zo r1 (fX11_friends_20 N z2) fun a6 => zc (fX11_routerOf N x0 x2 z2) fun r7 z8 => zo r7 (fX11_friends_20 N z8) fun a12 => zc (fX11_netOf N x0 x3 z8) fun r13 z14 => zo r13 (some (.inr 1, z14)) fun a18 => zc (fX1_portOn N a6 x3 z14) fun r19 z20 => zo r19 (some (.inl (0 : Int32), z20)) fun a24 => zl (zgR z20 1 10 a6) fun y25 => zd y25 fun a26 => zc (fX11_keyOf N a24 x2 z20) fun r27 z28 => zk r27 96 <| if (zgA z28 133 a26 (Int32.toNatClampNeg r27)) = 0 then (some (.inl (0 : Int32), z28)) else (some (.inl (1 : Int32), z28))
set_option maxHeartbeats 4000000 in
set_option maxRecDepth 100000 in
theorem bX11_friends_0 (hst : zSt B ids) (F : zFx p m c cX11_friends 6 s args RX11 D cy B ids A) (hA : ∀ q : Nat, s.heap.size ≤ q → A q) (hAd : ∀ q, zAd B ids s.heap.size q ↔ A q) (hlf : l.stackTraces = false) (hret : meth.sig.returnType = (some .boolean)) (hlocks : meth.locks = false) (htab : ∀ x ∈ c.exceptionTable.toList, False) (hX : zXK A s s.heap) {r : (Int32 ⊕ Nat)} {z' : St} {N : Nat}  (x0 : Nat) (x1 : Int32) (x2 : Int32) (x3 : Int32) (hx0 : (11, x0) ∈ ids) {cells slots : Nat} (hcs1 : cells + 1 ≤ rmX11_friends.cells ∧ slots + 6 ≤ rmX11_friends.slots) {z : St} {H : Heap} {locs : List Loc} {ls : Array Slot} (hr : zRep D cy B ids A s.heap z H locs) (hl : lv_has ls 6 [(0, .ref (B 11 x0)), (1, .int x1), (2, .int x2), (3, .int x3)]) (h : fX11_friends N x0 x1 x2 x3 z = some (r, z')) : W p l e rmX11_friends s m args below meth c H locs cells slots (vx_MQ below (zQX D cy B ids (fun v => some (.int v)) (fun v => v = 0 ∨ v = 1) r z' A) (zXC D cy B ids r z' A) args s rmX11_friends.cells rmX11_friends.slots A) (F0 m 0 ls []) := by
  unfold fX11_friends at h
  have hcs0 := zcs_0 hcs1
  refine lv_aload_n F.1 F.2.1 dX11_friends_0 rfl (lv_at hl 0 rfl) ?_
  refine lv_iload_n F.1 F.2.1 dX11_friends_1 rfl (lv_at hl 1 rfl) ?_
  replace h := zc_some h
  obtain ⟨r1, z2, hc3, h⟩ := h
  refine zr_callr (zrun_V (As := [.int x1]) (rest := []) zq_985 zq_987 zs_X11_routerOf zq_988 zq_1 hdX11_routerOf (by decide) (T := TX11) (N := 21) rfl (okX11_routerOf l D cy B ids hst N x0 hx0 x1  hr.2.2 hc3) F hr hx0 hl.1 rfl (by decide) dX11_friends_2 rfl rfl hroX11_friends_X11_routerOf hcs0) F hA hr (fun H locs hw4 hr => ?_)
  clear hc3
  refine zr_astore (lv' := [(4, va_rf (Option.map (B 1) r1)), (0, .ref (B 11 x0)), (1, .int x1), (2, .int x2), (3, .int x3)]) F.1 F.2.1 dX11_friends_5 hl (by decide) rfl (fun ls hl => ?_)
  refine zr_aload F.1 F.2.1 dX11_friends_7 (lv_at hl 0 rfl) ?_
  refine zr_ifnull (tgt := 20) F.1 F.2.1 dX11_friends_9 (by decide) (fun e5 => ?_) (fun a6 e5 => ?_)
  · replace h := zo_n e5 h
    subst e5
    exact bX11_friends_20 hst F hA hAd hlf hret hlocks htab hX   hcs1 hr (lv_sub hl [] rfl) h
  · replace h := zo_s e5 h
    subst e5
    refine lv_aload_n F.1 F.2.1 dX11_friends_12 rfl (lv_at hl 1 rfl) ?_
    refine lv_iload_n F.1 F.2.1 dX11_friends_13 rfl (lv_at hl 3 rfl) ?_
    replace h := zc_some h
    obtain ⟨r7, z8, hc9, h⟩ := h
    refine zr_callr (zrun_V (As := [.int x2]) (rest := []) zq_985 zq_987 zs_X11_routerOf zq_988 zq_1 hdX11_routerOf (by decide) (T := TX11) (N := 21) rfl (okX11_routerOf l D cy B ids hst N x0 hx0 x2  hr.2.2 hc9) F hr hx0 hl.1 rfl (by decide) dX11_friends_14 rfl rfl hroX11_friends_X11_routerOf hcs0) F hA hr (fun H locs hw10 hr => ?_)
    clear hc9
    refine zr_ifnonnull (tgt := 31) F.1 F.2.1 dX11_friends_17 (by decide) (fun e11 => ?_) (fun a12 e11 => ?_)
    · replace h := zo_n e11 h
      subst e11
      exact bX11_friends_20 hst F hA hAd hlf hret hlocks htab hX   hcs1 hr (lv_sub hl [] rfl) h
    · replace h := zo_s e11 h
      subst e11
      refine lv_aload_n F.1 F.2.1 dX11_friends_31 rfl (lv_at hl 1 rfl) ?_
      refine lv_iload_n F.1 F.2.1 dX11_friends_32 rfl (lv_at hl 4 rfl) ?_
      replace h := zc_some h
      obtain ⟨r13, z14, hc15, h⟩ := h
      refine zr_callr (zrun_V (As := [.int x3]) (rest := []) zq_903 zq_905 zs_X11_netOf zq_906 zq_1 hdX11_netOf (by decide) (T := TX11) (N := 21) rfl (okX11_netOf l D cy B ids hst N x0 hx0 x3  hr.2.2 hc15) F hr hx0 hl.1 rfl (by decide) dX11_friends_33 rfl rfl hroX11_friends_X11_netOf hcs0) F hA hr (fun H locs hw16 hr => ?_)
      clear hc15
      refine zr_ifnonnull (tgt := 49) F.1 F.2.1 dX11_friends_36 (by decide) (fun e17 => ?_) (fun a18 e17 => ?_)
      · replace h := zo_n e17 h
        subst e17
        obtain ⟨rfl, rfl⟩ := zret h
        exact zXt (text := "no such net") hlf F htab hX hlocks hl.1 (Or.inl rfl) zq_870 zq_22 (by decide +kernel) dX11_friends_39 dX11_friends_42 dX11_friends_43 dX11_friends_45 dX11_friends_48 (by decide) (by decide) hcs1.1 hcs1.2 hr hcs1.1 hcs1.2
      · replace h := zo_s e17 h
        subst e17
        refine lv_aload F.1 F.2.1 dX11_friends_49 (lv_at hl 0 rfl) ?_
        refine lv_iload_n F.1 F.2.1 dX11_friends_51 rfl (lv_at hl 4 rfl) ?_
        replace h := zc_some h
        obtain ⟨r19, z20, hc21, h⟩ := h
        refine zr_callr (zrun_VN (As := [.int x3]) (rest := []) zn_293 zq_295 zs_X1_portOn zq_297 zq_9 hdX1_portOn (by decide) (T := TX1) (N := 13) rfl (okX1_portOn l D cy B ids hst N a6 (hw4 _ rfl) x3  hr.2.2 hc21) F hr (hw4 _ rfl) hl.1 rfl (by decide) dX11_friends_52 rfl rfl hroX11_friends_X1_portOn hcs0) F hA hr (fun H locs hw22 hr => ?_)
        clear hc21
        refine zr_astore (lv' := [(5, va_rf (Option.map (B 8) r19)), (4, .ref (B 1 a6)), (0, .ref (B 11 x0)), (1, .int x1), (2, .int x2), (3, .int x3)]) F.1 F.2.1 dX11_friends_55 hl (by decide) rfl (fun ls hl => ?_)
        refine zr_aload F.1 F.2.1 dX11_friends_57 (lv_at hl 0 rfl) ?_
        refine zr_ifnull (tgt := 84) F.1 F.2.1 dX11_friends_59 (by decide) (fun e23 => ?_) (fun a24 e23 => ?_)
        · replace h := zo_n e23 h
          subst e23
          refine lv_iconst (v := (0 : Int32)) F.1 F.2.1 dX11_friends_84 (by decide) ?_
          obtain ⟨rfl, rfl⟩ := zret h
          exact zXe_z F hret hlocks dX11_friends_85 (by decide) hr hcs0.1 hcs0.2
        · replace h := zo_s e23 h
          subst e23
          refine lv_aload F.1 F.2.1 dX11_friends_62 (lv_at hl 1 rfl) ?_
          refine gf11_395 F (hw4 _ rfl) hr dX11_friends_64 (fun y25 ey25 => ?_)
          replace h := zl_sub ey25 h
          have hy25 := zal_g hr (hw4 _ rfl) (j := 10) rfl ey25
          clear ey25
          replace h := zd_some h
          obtain ⟨a26, rfl, h⟩ := h
          refine gf11_418 F (hy25 _ rfl) hr dX11_friends_67 ?_
          refine lv_aload F.1 F.2.1 dX11_friends_70 (lv_at hl 0 rfl) ?_
          refine lv_iload_n F.1 F.2.1 dX11_friends_72 rfl (lv_at hl 4 rfl) ?_
          replace h := zc_some h
          obtain ⟨r27, z28, hc29, h⟩ := h
          refine zr_calli (zrun_S (As := [.ref (B 8 a24), .int x2]) (rest := [.ref (B 133 a26)]) zq_1165 zq_1166 zq_1167 zq_1 hdX11_keyOf (okX11_keyOf l D cy B ids hst N a24 (hw22 _ rfl) x2  hr.2.2 hc29) F hr hl.1 rfl (Nat.le_of_ble_eq_true rfl) dX11_friends_73 rfl rfl hroX11_friends_X11_keyOf hcs0) F hA hr (fun H locs hw30 hr => ?_)
          clear hc29
          replace h := zk_some h
          obtain ⟨c31, h⟩ := h
          refine zr_zald (k := 133) (by decide) rfl (by decide) F (zal_a F (hy25 _ rfl) (j := 3) rfl) hr dX11_friends_76 c31 ?_
          refine lv_if_eq (tgt := 84) F.1 F.2.1 dX11_friends_77 (by decide) (fun c32 => ?_) (fun c32 => ?_)
          · replace h := zi_t c32 h
            refine lv_iconst (v := (0 : Int32)) F.1 F.2.1 dX11_friends_84 (by decide) ?_
            obtain ⟨rfl, rfl⟩ := zret h
            exact zXe_z F hret hlocks dX11_friends_85 (by decide) hr hcs0.1 hcs0.2
          · replace h := zi_f c32 h
            refine lv_iconst (v := (1 : Int32)) F.1 F.2.1 dX11_friends_80 (by decide) ?_
            refine lv_goto (tgt := 85) F.1 F.2.1 dX11_friends_81 (by decide) ?_
            obtain ⟨rfl, rfl⟩ := zret h
            exact zXe_z F hret hlocks dX11_friends_85 (by decide) hr hcs0.1 hcs0.2
end SX11_friends
set_option maxRecDepth 100000 in
theorem okX11_friends (l : Launch) (hlf : l.stackTraces = false) (D : va_G) (cy : Nat → ClassId) (B : Nat → Nat → Nat) (ids : List (Nat × Nat)) (hst : zSt B ids) (N : Nat) (x0 : Nat) (hx0 : (11, x0) ∈ ids) (x1 : Int32) (x2 : Int32) (x3 : Int32) {z : St} {r : (Int32 ⊕ Nat)} {z' : St} (hW : zWf ids z) (h : fX11_friends N x0 x1 x2 x3 z = some (r, z')) : zMX l yX11_friends (zws yX11_friends cX11_friends 6 (some .boolean)) rmX11_friends D cy B ids [.ref (B 11 x0), .int x1, .int x2, .int x3] (fun v => some (.int v)) (fun v => v = 0 ∨ v = 1) r z z' :=
  zMX_of hst hW (by decide +kernel) (Nat.le_of_ble_eq_true rfl) (fun p e s m args below meth c A ls F hA hAd hret hlocks htab hX hr hl => bX11_friends_0 hst F hA hAd hlf hret hlocks htab hX x0 x1 x2 x3 hx0 (by decide) hr hl h)
abbrev rmX11_advert : Room := { frames := 6, cells := 1, slots := 6, locals := 100 }
theorem hdX11_advert : yX11_advert.cls ≠ "java/lang/invoke/MethodHandle" ∧ yX11_advert.cls ≠ "java/lang/invoke/VarHandle" ∧ (parseMethodDescriptor yX11_advert.desc).map (fun d => d.parameters.length) = some 2 := by decide +kernel
theorem hroX11_advert_X11_routerOf : rmX11_routerOf.frames + 1 ≤ rmX11_advert.frames ∧ 8 + (3 + 11) + rmX11_routerOf.locals ≤ rmX11_advert.locals := by decide
section SX11_advert
variable {p : Program} {l : Launch} {e : Env} {s : State} {m : MethodId} {args : Array Value} {below : List Frame} {meth : Method} {c : Code} {Q : State → Prop} {D : va_G} {cy : Nat → ClassId} {B : Nat → Nat → Nat} {ids : List (Nat × Nat)} {A : Nat → Prop}
def fX11_advert_18 (N : Nat)   (z : St) : Option ((Int32 ⊕ Nat) × St) := some (.inr 1, z)
set_option maxHeartbeats 4000000 in
set_option maxRecDepth 100000 in
theorem bX11_advert_18 (hst : zSt B ids) (F : zFx p m c cX11_advert 5 s args RX11 D cy B ids A) (hA : ∀ q : Nat, s.heap.size ≤ q → A q) (hAd : ∀ q, zAd B ids s.heap.size q ↔ A q) (hlf : l.stackTraces = false) (hret : meth.sig.returnType = (some .int)) (hlocks : meth.locks = false) (htab : ∀ x ∈ c.exceptionTable.toList, False) (hX : zXK A s s.heap) {r : (Int32 ⊕ Nat)} {z' : St} {N : Nat}    {cells slots : Nat} (hcs1 : cells + 1 ≤ rmX11_advert.cells ∧ slots + 6 ≤ rmX11_advert.slots) {z : St} {H : Heap} {locs : List Loc} {ls : Array Slot} (hr : zRep D cy B ids A s.heap z H locs) (hl : lv_has ls 5 []) (h : fX11_advert_18 N z = some (r, z')) : W p l e rmX11_advert s m args below meth c H locs cells slots (vx_MQ below (zQX D cy B ids (fun v => some (.int v)) (fun _ => True) r z' A) (zXC D cy B ids r z' A) args s rmX11_advert.cells rmX11_advert.slots A) (F0 m 18 ls []) := by
  unfold fX11_advert_18 at h
  have hcs0 := zcs_0 hcs1
  obtain ⟨rfl, rfl⟩ := zret h
  exact zXtw (text := "no such router") hlf F htab hX hlocks hl.1 (Or.inl rfl) zq_870 zq_22 (by decide +kernel) dX11_advert_18 dX11_advert_21 dX11_advert_22 dX11_advert_25 dX11_advert_28 (by decide) (by decide) hcs1.1 hcs1.2 hr hcs1.1 hcs1.2
def fX11_advert (N : Nat)  (x0 : Nat) (x1 : Int32) (x2 : Int32) (z : St) : Option ((Int32 ⊕ Nat) × St) := zc (fX11_routerOf N x0 x1 z) fun r1 z2 => zo r1 (fX11_advert_18 N z2) fun a6 => zc (fX11_routerOf N x0 x2 z2) fun r7 z8 => zo r7 (fX11_advert_18 N z8) fun a12 => zl (zgR z8 1 10 a6) fun y13 => zd y13 fun a14 => zl (zgR z8 9 12 a14) fun y15 => zd y15 fun a16 => zk x2 16 <| zl (zgA z8 100 a16 (Int32.toNatClampNeg x2)) fun v18 => if ¬ v18 = 0 then (some (.inl v18, z8)) else (some (.inl (-1 : Int32), z8))
set_option maxHeartbeats 4000000 in
set_option maxRecDepth 100000 in
theorem bX11_advert_0 (hst : zSt B ids) (F : zFx p m c cX11_advert 5 s args RX11 D cy B ids A) (hA : ∀ q : Nat, s.heap.size ≤ q → A q) (hAd : ∀ q, zAd B ids s.heap.size q ↔ A q) (hlf : l.stackTraces = false) (hret : meth.sig.returnType = (some .int)) (hlocks : meth.locks = false) (htab : ∀ x ∈ c.exceptionTable.toList, False) (hX : zXK A s s.heap) {r : (Int32 ⊕ Nat)} {z' : St} {N : Nat}  (x0 : Nat) (x1 : Int32) (x2 : Int32) (hx0 : (11, x0) ∈ ids) {cells slots : Nat} (hcs1 : cells + 1 ≤ rmX11_advert.cells ∧ slots + 6 ≤ rmX11_advert.slots) {z : St} {H : Heap} {locs : List Loc} {ls : Array Slot} (hr : zRep D cy B ids A s.heap z H locs) (hl : lv_has ls 5 [(0, .ref (B 11 x0)), (1, .int x1), (2, .int x2)]) (h : fX11_advert N x0 x1 x2 z = some (r, z')) : W p l e rmX11_advert s m args below meth c H locs cells slots (vx_MQ below (zQX D cy B ids (fun v => some (.int v)) (fun _ => True) r z' A) (zXC D cy B ids r z' A) args s rmX11_advert.cells rmX11_advert.slots A) (F0 m 0 ls []) := by
  unfold fX11_advert at h
  have hcs0 := zcs_0 hcs1
  refine lv_aload_n F.1 F.2.1 dX11_advert_0 rfl (lv_at hl 0 rfl) ?_
  refine lv_iload_n F.1 F.2.1 dX11_advert_1 rfl (lv_at hl 1 rfl) ?_
  replace h := zc_some h
  obtain ⟨r1, z2, hc3, h⟩ := h
  refine zr_callr (zrun_V (As := [.int x1]) (rest := []) zq_985 zq_987 zs_X11_routerOf zq_988 zq_1 hdX11_routerOf (by decide) (T := TX11) (N := 21) rfl (okX11_routerOf l D cy B ids hst N x0 hx0 x1  hr.2.2 hc3) F hr hx0 hl.1 rfl (by decide) dX11_advert_2 rfl rfl hroX11_advert_X11_routerOf hcs0) F hA hr (fun H locs hw4 hr => ?_)
  clear hc3
  refine zr_astore_n (lv' := [(3, va_rf (Option.map (B 1) r1)), (0, .ref (B 11 x0)), (1, .int x1), (2, .int x2)]) F.1 F.2.1 dX11_advert_5 rfl hl (by decide) rfl (fun ls hl => ?_)
  refine zr_aload_n F.1 F.2.1 dX11_advert_6 rfl (lv_at hl 0 rfl) ?_
  refine zr_ifnull (tgt := 18) F.1 F.2.1 dX11_advert_7 (by decide) (fun e5 => ?_) (fun a6 e5 => ?_)
  · replace h := zo_n e5 h
    subst e5
    exact bX11_advert_18 hst F hA hAd hlf hret hlocks htab hX   hcs1 hr (lv_sub hl [] rfl) h
  · replace h := zo_s e5 h
    subst e5
    refine lv_aload_n F.1 F.2.1 dX11_advert_10 rfl (lv_at hl 1 rfl) ?_
    refine lv_iload_n F.1 F.2.1 dX11_advert_11 rfl (lv_at hl 3 rfl) ?_
    replace h := zc_some h
    obtain ⟨r7, z8, hc9, h⟩ := h
    refine zr_callr (zrun_V (As := [.int x2]) (rest := []) zq_985 zq_987 zs_X11_routerOf zq_988 zq_1 hdX11_routerOf (by decide) (T := TX11) (N := 21) rfl (okX11_routerOf l D cy B ids hst N x0 hx0 x2  hr.2.2 hc9) F hr hx0 hl.1 rfl (by decide) dX11_advert_12 rfl rfl hroX11_advert_X11_routerOf hcs0) F hA hr (fun H locs hw10 hr => ?_)
    clear hc9
    refine zr_ifnonnull (tgt := 29) F.1 F.2.1 dX11_advert_15 (by decide) (fun e11 => ?_) (fun a12 e11 => ?_)
    · replace h := zo_n e11 h
      subst e11
      exact bX11_advert_18 hst F hA hAd hlf hret hlocks htab hX   hcs1 hr (lv_sub hl [] rfl) h
    · replace h := zo_s e11 h
      subst e11
      refine lv_aload_n F.1 F.2.1 dX11_advert_29 rfl (lv_at hl 0 rfl) ?_
      refine gf11_395 F (hw4 _ rfl) hr dX11_advert_30 (fun y13 ey13 => ?_)
      replace h := zl_sub ey13 h
      have hy13 := zal_g hr (hw4 _ rfl) (j := 10) rfl ey13
      clear ey13
      replace h := zd_some h
      obtain ⟨a14, rfl, h⟩ := h
      refine gf11_399 F (hy13 _ rfl) hr dX11_advert_33 (fun y15 ey15 => ?_)
      replace h := zl_sub ey15 h
      have hy15 := zal_g hr (hy13 _ rfl) (j := 12) rfl ey15
      clear ey15
      replace h := zd_some h
      obtain ⟨a16, rfl, h⟩ := h
      refine gf11_426 F (hy15 _ rfl) hr dX11_advert_36 ?_
      refine lv_iload_n F.1 F.2.1 dX11_advert_39 rfl (lv_at hl 3 rfl) ?_
      replace h := zk_some h
      obtain ⟨c17, h⟩ := h
      refine zr_iald (k := 100) (by decide) rfl (by decide) F (zal_a F (hy15 _ rfl) (j := 1) rfl) hr dX11_advert_40 c17 ?_
      refine lv_topi (fun v18 ev18 => ?_)
      replace h := zl_sub ev18 h
      refine lv_istore (lv' := [(4, .int v18), (3, .ref (B 1 a6)), (0, .ref (B 11 x0)), (1, .int x1), (2, .int x2)]) F.1 F.2.1 dX11_advert_41 hl (by decide) rfl (fun ls hl => ?_)
      refine lv_iload F.1 F.2.1 dX11_advert_43 (lv_at hl 0 rfl) ?_
      refine lv_if_ne (tgt := 52) F.1 F.2.1 dX11_advert_45 (by decide) (fun c19 => ?_) (fun c19 => ?_)
      · replace h := zi_t c19 h
        refine lv_iload F.1 F.2.1 dX11_advert_52 (lv_at hl 0 rfl) ?_
        obtain ⟨rfl, rfl⟩ := zret h
        exact zXe_i F hret hlocks dX11_advert_54 hr hcs0.1 hcs0.2
      · replace h := zi_f (fun q => q c19) h
        refine lv_iconst (v := (-1 : Int32)) F.1 F.2.1 dX11_advert_48 (by decide) ?_
        refine lv_goto (tgt := 54) F.1 F.2.1 dX11_advert_49 (by decide) ?_
        obtain ⟨rfl, rfl⟩ := zret h
        exact zXe_i F hret hlocks dX11_advert_54 hr hcs0.1 hcs0.2
end SX11_advert
set_option maxRecDepth 100000 in
theorem okX11_advert (l : Launch) (hlf : l.stackTraces = false) (D : va_G) (cy : Nat → ClassId) (B : Nat → Nat → Nat) (ids : List (Nat × Nat)) (hst : zSt B ids) (N : Nat) (x0 : Nat) (hx0 : (11, x0) ∈ ids) (x1 : Int32) (x2 : Int32) {z : St} {r : (Int32 ⊕ Nat)} {z' : St} (hW : zWf ids z) (h : fX11_advert N x0 x1 x2 z = some (r, z')) : zMX l yX11_advert (zws yX11_advert cX11_advert 5 (some .int)) rmX11_advert D cy B ids [.ref (B 11 x0), .int x1, .int x2] (fun v => some (.int v)) (fun _ => True) r z z' :=
  zMX_of hst hW (by decide +kernel) (Nat.le_of_ble_eq_true rfl) (fun p e s m args below meth c A ls F hA hAd hret hlocks htab hX hr hl => bX11_advert_0 hst F hA hAd hlf hret hlocks htab hX x0 x1 x2 hx0 (by decide) hr hl h)
abbrev rmX11_count : Room := { frames := 6, cells := 1, slots := 6, locals := 100 }
theorem hdX11_count : yX11_count.cls ≠ "java/lang/invoke/MethodHandle" ∧ yX11_count.cls ≠ "java/lang/invoke/VarHandle" ∧ (parseMethodDescriptor yX11_count.desc).map (fun d => d.parameters.length) = some 2 := by decide +kernel
theorem hroX11_count_X11_boxOf : rmX11_boxOf.frames + 1 ≤ rmX11_count.frames ∧ 8 + (2 + 11) + rmX11_boxOf.locals ≤ rmX11_count.locals := by decide
theorem hroX11_count_X11_netOf : rmX11_netOf.frames + 1 ≤ rmX11_count.frames ∧ 8 + (2 + 11) + rmX11_netOf.locals ≤ rmX11_count.locals := by decide
section SX11_count
variable {p : Program} {l : Launch} {e : Env} {s : State} {m : MethodId} {args : Array Value} {below : List Frame} {meth : Method} {c : Code} {Q : State → Prop} {D : va_G} {cy : Nat → ClassId} {B : Nat → Nat → Nat} {ids : List (Nat × Nat)} {A : Nat → Prop}
def fX11_count_10 (N : Nat)   (z : St) : Option ((Int32 ⊕ Nat) × St) := some (.inr 1, z)
set_option maxHeartbeats 4000000 in
set_option maxRecDepth 100000 in
theorem bX11_count_10 (hst : zSt B ids) (F : zFx p m c cX11_count 4 s args RX11 D cy B ids A) (hA : ∀ q : Nat, s.heap.size ≤ q → A q) (hAd : ∀ q, zAd B ids s.heap.size q ↔ A q) (hlf : l.stackTraces = false) (hret : meth.sig.returnType = (some .int)) (hlocks : meth.locks = false) (htab : ∀ x ∈ c.exceptionTable.toList, False) (hX : zXK A s s.heap) {r : (Int32 ⊕ Nat)} {z' : St} {N : Nat}    {cells slots : Nat} (hcs1 : cells + 1 ≤ rmX11_count.cells ∧ slots + 6 ≤ rmX11_count.slots) {z : St} {H : Heap} {locs : List Loc} {ls : Array Slot} (hr : zRep D cy B ids A s.heap z H locs) (hl : lv_has ls 4 []) (h : fX11_count_10 N z = some (r, z')) : W p l e rmX11_count s m args below meth c H locs cells slots (vx_MQ below (zQX D cy B ids (fun v => some (.int v)) (fun _ => True) r z' A) (zXC D cy B ids r z' A) args s rmX11_count.cells rmX11_count.slots A) (F0 m 10 ls []) := by
  unfold fX11_count_10 at h
  have hcs0 := zcs_0 hcs1
  obtain ⟨rfl, rfl⟩ := zret h
  exact zXtw (text := "what is not 0 .. 7") hlf F htab hX hlocks hl.1 (Or.inl rfl) zq_870 zq_22 (by decide +kernel) dX11_count_10 dX11_count_13 dX11_count_14 dX11_count_17 dX11_count_20 (by decide) (by decide) hcs1.1 hcs1.2 hr hcs1.1 hcs1.2
def fX11_count (N : Nat)  (x0 : Nat) (x1 : Int32) (x2 : Int32) (z : St) : Option ((Int32 ⊕ Nat) × St) := if x2 < 0 then (fX11_count_10 N z) else (if x2 ≤ (7 : Int32) then (if (2 : Int32) ≤ x2 then (zc (fX11_boxOf N x0 x1 z) fun r4 z5 => zo r4 (some (.inr 1, z5)) fun a9 => zk x2 8 <| some (.inl (zgA z5 113 a9 (Int32.toNatClampNeg x2)), z5)) else (zc (fX11_netOf N x0 x1 z) fun r11 z12 => zo r11 (some (.inr 1, z12)) fun a16 => if ¬ x2 = 0 then (some (.inl (zgI z12 5 10 a16), z12)) else (some (.inl (zgI z12 5 9 a16), z12)))) else (fX11_count_10 N z))
set_option maxHeartbeats 4000000 in
set_option maxRecDepth 100000 in
theorem bX11_count_0 (hst : zSt B ids) (F : zFx p m c cX11_count 4 s args RX11 D cy B ids A) (hA : ∀ q : Nat, s.heap.size ≤ q → A q) (hAd : ∀ q, zAd B ids s.heap.size q ↔ A q) (hlf : l.stackTraces = false) (hret : meth.sig.returnType = (some .int)) (hlocks : meth.locks = false) (htab : ∀ x ∈ c.exceptionTable.toList, False) (hX : zXK A s s.heap) {r : (Int32 ⊕ Nat)} {z' : St} {N : Nat}  (x0 : Nat) (x1 : Int32) (x2 : Int32) (hx0 : (11, x0) ∈ ids) {cells slots : Nat} (hcs1 : cells + 1 ≤ rmX11_count.cells ∧ slots + 6 ≤ rmX11_count.slots) {z : St} {H : Heap} {locs : List Loc} {ls : Array Slot} (hr : zRep D cy B ids A s.heap z H locs) (hl : lv_has ls 4 [(0, .ref (B 11 x0)), (1, .int x1), (2, .int x2)]) (h : fX11_count N x0 x1 x2 z = some (r, z')) : W p l e rmX11_count s m args below meth c H locs cells slots (vx_MQ below (zQX D cy B ids (fun v => some (.int v)) (fun _ => True) r z' A) (zXC D cy B ids r z' A) args s rmX11_count.cells rmX11_count.slots A) (F0 m 0 ls []) := by
  unfold fX11_count at h
  have hcs0 := zcs_0 hcs1
  refine lv_iload_n F.1 F.2.1 dX11_count_0 rfl (lv_at hl 2 rfl) ?_
  refine lv_if_lt (tgt := 10) F.1 F.2.1 dX11_count_1 (by decide) (fun c1 => ?_) (fun c1 => ?_)
  · replace h := zi_t c1 h
    exact bX11_count_10 hst F hA hAd hlf hret hlocks htab hX   hcs1 hr (lv_sub hl [] rfl) h
  · replace h := zi_f c1 h
    refine lv_iload_n F.1 F.2.1 dX11_count_4 rfl (lv_at hl 2 rfl) ?_
    refine lv_bipush (v := (7 : Int32)) F.1 F.2.1 dX11_count_5 (by decide) ?_
    refine lv_icmp_le (tgt := 21) F.1 F.2.1 dX11_count_7 (by decide) (fun c2 => ?_) (fun c2 => ?_)
    · replace h := zi_t c2 h
      refine lv_iload_n F.1 F.2.1 dX11_count_21 rfl (lv_at hl 2 rfl) ?_
      refine lv_iconst (v := (2 : Int32)) F.1 F.2.1 dX11_count_22 (by decide) ?_
      refine lv_icmp_ge (tgt := 62) F.1 F.2.1 dX11_count_23 (by decide) (fun c3 => ?_) (fun c3 => ?_)
      · replace h := zi_t c3 h
        refine lv_aload_n F.1 F.2.1 dX11_count_62 rfl (lv_at hl 0 rfl) ?_
        refine lv_iload_n F.1 F.2.1 dX11_count_63 rfl (lv_at hl 1 rfl) ?_
        replace h := zc_some h
        obtain ⟨r4, z5, hc6, h⟩ := h
        refine zr_callr (zrun_V (As := [.int x1]) (rest := []) zq_899 zq_901 zs_X11_boxOf zq_902 zq_1 hdX11_boxOf (by decide) (T := TX11) (N := 21) rfl (okX11_boxOf l D cy B ids hst N x0 hx0 x1  hr.2.2 hc6) F hr hx0 hl.1 rfl (by decide) dX11_count_64 rfl rfl hroX11_count_X11_boxOf hcs0) F hA hr (fun H locs hw7 hr => ?_)
        clear hc6
        refine zr_astore_n (lv' := [(3, va_rf (Option.map (B 1) r4)), (0, .ref (B 11 x0)), (1, .int x1), (2, .int x2)]) F.1 F.2.1 dX11_count_67 rfl hl (by decide) rfl (fun ls hl => ?_)
        refine zr_aload_n F.1 F.2.1 dX11_count_68 rfl (lv_at hl 0 rfl) ?_
        refine zr_ifnonnull (tgt := 83) F.1 F.2.1 dX11_count_69 (by decide) (fun e8 => ?_) (fun a9 e8 => ?_)
        · replace h := zo_n e8 h
          subst e8
          obtain ⟨rfl, rfl⟩ := zret h
          exact zXtw (text := "no such box") hlf F htab hX hlocks hl.1 (Or.inl rfl) zq_870 zq_22 (by decide +kernel) dX11_count_72 dX11_count_75 dX11_count_76 dX11_count_79 dX11_count_82 (by decide) (by decide) hcs1.1 hcs1.2 hr hcs1.1 hcs1.2
        · replace h := zo_s e8 h
          subst e8
          refine lv_aload_n F.1 F.2.1 dX11_count_83 rfl (lv_at hl 0 rfl) ?_
          refine gf11_439 F (hw7 _ rfl) hr dX11_count_84 ?_
          refine lv_iload_n F.1 F.2.1 dX11_count_87 rfl (lv_at hl 3 rfl) ?_
          replace h := zk_some h
          obtain ⟨c10, h⟩ := h
          refine zr_iald (k := 113) (by decide) rfl (by decide) F (zal_a F (hw7 _ rfl) (j := 4) rfl) hr dX11_count_88 c10 ?_
          obtain ⟨rfl, rfl⟩ := zret h
          exact zXe_i F hret hlocks dX11_count_89 hr hcs0.1 hcs0.2
      · replace h := zi_f c3 h
        refine lv_aload_n F.1 F.2.1 dX11_count_26 rfl (lv_at hl 0 rfl) ?_
        refine lv_iload_n F.1 F.2.1 dX11_count_27 rfl (lv_at hl 1 rfl) ?_
        replace h := zc_some h
        obtain ⟨r11, z12, hc13, h⟩ := h
        refine zr_callr (zrun_V (As := [.int x1]) (rest := []) zq_903 zq_905 zs_X11_netOf zq_906 zq_1 hdX11_netOf (by decide) (T := TX11) (N := 21) rfl (okX11_netOf l D cy B ids hst N x0 hx0 x1  hr.2.2 hc13) F hr hx0 hl.1 rfl (by decide) dX11_count_28 rfl rfl hroX11_count_X11_netOf hcs0) F hA hr (fun H locs hw14 hr => ?_)
        clear hc13
        refine zr_astore_n (lv' := [(3, va_rf (Option.map (B 5) r11)), (0, .ref (B 11 x0)), (1, .int x1), (2, .int x2)]) F.1 F.2.1 dX11_count_31 rfl hl (by decide) rfl (fun ls hl => ?_)
        refine zr_aload_n F.1 F.2.1 dX11_count_32 rfl (lv_at hl 0 rfl) ?_
        refine zr_ifnonnull (tgt := 46) F.1 F.2.1 dX11_count_33 (by decide) (fun e15 => ?_) (fun a16 e15 => ?_)
        · replace h := zo_n e15 h
          subst e15
          obtain ⟨rfl, rfl⟩ := zret h
          exact zXt (text := "no such net") hlf F htab hX hlocks hl.1 (Or.inl rfl) zq_870 zq_22 (by decide +kernel) dX11_count_36 dX11_count_39 dX11_count_40 dX11_count_42 dX11_count_45 (by decide) (by decide) hcs1.1 hcs1.2 hr hcs1.1 hcs1.2
        · replace h := zo_s e15 h
          subst e15
          refine lv_iload_n F.1 F.2.1 dX11_count_46 rfl (lv_at hl 3 rfl) ?_
          refine lv_if_ne (tgt := 57) F.1 F.2.1 dX11_count_47 (by decide) (fun c17 => ?_) (fun c17 => ?_)
          · replace h := zi_t c17 h
            refine lv_aload_n F.1 F.2.1 dX11_count_57 rfl (lv_at hl 0 rfl) ?_
            refine gf11_434 F (hw14 _ rfl) hr dX11_count_58 ?_
            obtain ⟨rfl, rfl⟩ := zret h
            exact zXe_i F hret hlocks dX11_count_61 hr hcs0.1 hcs0.2
          · replace h := zi_f (fun q => q c17) h
            refine lv_aload_n F.1 F.2.1 dX11_count_50 rfl (lv_at hl 0 rfl) ?_
            refine gf11_431 F (hw14 _ rfl) hr dX11_count_51 ?_
            refine lv_goto (tgt := 61) F.1 F.2.1 dX11_count_54 (by decide) ?_
            obtain ⟨rfl, rfl⟩ := zret h
            exact zXe_i F hret hlocks dX11_count_61 hr hcs0.1 hcs0.2
    · replace h := zi_f c2 h
      exact bX11_count_10 hst F hA hAd hlf hret hlocks htab hX   hcs1 hr (lv_sub hl [] rfl) h
end SX11_count
set_option maxRecDepth 100000 in
theorem okX11_count (l : Launch) (hlf : l.stackTraces = false) (D : va_G) (cy : Nat → ClassId) (B : Nat → Nat → Nat) (ids : List (Nat × Nat)) (hst : zSt B ids) (N : Nat) (x0 : Nat) (hx0 : (11, x0) ∈ ids) (x1 : Int32) (x2 : Int32) {z : St} {r : (Int32 ⊕ Nat)} {z' : St} (hW : zWf ids z) (h : fX11_count N x0 x1 x2 z = some (r, z')) : zMX l yX11_count (zws yX11_count cX11_count 4 (some .int)) rmX11_count D cy B ids [.ref (B 11 x0), .int x1, .int x2] (fun v => some (.int v)) (fun _ => True) r z z' :=
  zMX_of hst hW (by decide +kernel) (Nat.le_of_ble_eq_true rfl) (fun p e s m args below meth c A ls F hA hAd hret hlocks htab hX hr hl => bX11_count_0 hst F hA hAd hlf hret hlocks htab hX x0 x1 x2 hx0 (by decide) hr hl h)
