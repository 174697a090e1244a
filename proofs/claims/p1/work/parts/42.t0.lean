abbrev rmX11_net : Room := { frames := 6, cells := 1, slots := 6, locals := 100 }
theorem hdX11_net : yX11_net.cls ≠ "java/lang/invoke/MethodHandle" ∧ yX11_net.cls ≠ "java/lang/invoke/VarHandle" ∧ (parseMethodDescriptor yX11_net.desc).map (fun d => d.parameters.length) = some 2 := by decide +kernel
theorem hroX11_net_X11_changeWorld : rmX11_changeWorld.frames + 1 ≤ rmX11_net.frames ∧ 8 + (1 + 11) + rmX11_changeWorld.locals ≤ rmX11_net.locals := by decide
section SX11_net
variable {p : Program} {l : Launch} {e : Env} {s : State} {m : MethodId} {args : Array Value} {below : List Frame} {meth : Method} {c : Code} {Q : State → Prop} {D : va_G} {cy : Nat → ClassId} {B : Nat → Nat → Nat} {ids : List (Nat × Nat)} {A : Nat → Prop}
def fX11_net_13 (N : Nat)   (z : St) : Option ((Int32 ⊕ Nat) × St) := some (.inr 1, z)
set_option maxHeartbeats 4000000 in
set_option maxRecDepth 100000 in
theorem bX11_net_13 (hst : zSt B ids) (F : zFx p m c cX11_net 3 s args RX11 D cy B ids A) (hA : ∀ q : Nat, s.heap.size ≤ q → A q) (hAd : ∀ q, zAd B ids s.heap.size q ↔ A q) (hlf : l.stackTraces = false) (hret : meth.sig.returnType = (some .int)) (hlocks : meth.locks = false) (htab : ∀ x ∈ c.exceptionTable.toList, False) (hX : zXK A s s.heap) {r : (Int32 ⊕ Nat)} {z' : St} {N : Nat}    {cells slots : Nat} (hcs1 : cells + 1 ≤ rmX11_net.cells ∧ slots + 6 ≤ rmX11_net.slots) {z : St} {H : Heap} {locs : List Loc} {ls : Array Slot} (hr : zRep D cy B ids A s.heap z H locs) (hl : lv_has ls 3 []) (h : fX11_net_13 N z = some (r, z')) : W p l e rmX11_net s m args below meth c H locs cells slots (vx_MQ below (zQX D cy B ids (fun v => some (.int v)) (fun _ => True) r z' A) (zXC D cy B ids r z' A) args s rmX11_net.cells rmX11_net.slots A) (F0 m 13 ls []) := by
  unfold fX11_net_13 at h
  have hcs0 := zcs_0 hcs1
  obtain ⟨rfl, rfl⟩ := zret h
  exact zXt (text := "largest is not 100 .. 1500") hlf F htab hX hlocks hl.1 (Or.inl rfl) zq_870 zq_22 (by decide +kernel) dX11_net_13 dX11_net_16 dX11_net_17 dX11_net_19 dX11_net_22 (by decide) (by decide) hcs1.1 hcs1.2 hr hcs1.1 hcs1.2
def fX11_net_34 (N : Nat)   (z : St) : Option ((Int32 ⊕ Nat) × St) := some (.inr 1, z)
set_option maxHeartbeats 4000000 in
set_option maxRecDepth 100000 in
theorem bX11_net_34 (hst : zSt B ids) (F : zFx p m c cX11_net 3 s args RX11 D cy B ids A) (hA : ∀ q : Nat, s.heap.size ≤ q → A q) (hAd : ∀ q, zAd B ids s.heap.size q ↔ A q) (hlf : l.stackTraces = false) (hret : meth.sig.returnType = (some .int)) (hlocks : meth.locks = false) (htab : ∀ x ∈ c.exceptionTable.toList, False) (hX : zXK A s s.heap) {r : (Int32 ⊕ Nat)} {z' : St} {N : Nat}    {cells slots : Nat} (hcs1 : cells + 1 ≤ rmX11_net.cells ∧ slots + 6 ≤ rmX11_net.slots) {z : St} {H : Heap} {locs : List Loc} {ls : Array Slot} (hr : zRep D cy B ids A s.heap z H locs) (hl : lv_has ls 3 []) (h : fX11_net_34 N z = some (r, z')) : W p l e rmX11_net s m args below meth c H locs cells slots (vx_MQ below (zQX D cy B ids (fun v => some (.int v)) (fun _ => True) r z' A) (zXC D cy B ids r z' A) args s rmX11_net.cells rmX11_net.slots A) (F0 m 34 ls []) := by
  unfold fX11_net_34 at h
  have hcs0 := zcs_0 hcs1
  obtain ⟨rfl, rfl⟩ := zret h
  exact zXt (text := "delay is not 1 .. 50") hlf F htab hX hlocks hl.1 (Or.inl rfl) zq_870 zq_22 (by decide +kernel) dX11_net_34 dX11_net_37 dX11_net_38 dX11_net_40 dX11_net_43 (by decide) (by decide) hcs1.1 hcs1.2 hr hcs1.1 hcs1.2
def fX11_net (N : Nat)  (x0 : Nat) (x1 : Int32) (x2 : Int32) (z : St) : Option ((Int32 ⊕ Nat) × St) := if x1 < (100 : Int32) then (fX11_net_13 N z) else (if x1 ≤ (1500 : Int32) then (if x2 < (1 : Int32) then (fX11_net_34 N z) else (if x2 ≤ (50 : Int32) then (if (zgI z 11 1 x0) < (24 : Int32) then (zk (zgI z 11 1 x0) 24 <| zl (zgQ z 139 x0 (Int32.toNatClampNeg (zgI z 11 1 x0))) fun y7 => zd y7 fun a8 => zl (zsI z 5 1 a8 x1) fun z9 => zk (zgI z9 11 1 x0) 24 <| zl (zgQ z9 139 x0 (Int32.toNatClampNeg (zgI z9 11 1 x0))) fun y11 => zd y11 fun a12 => zl (zsI z9 5 2 a12 x2) fun z13 => zl (zsI z13 11 1 x0 ((zgI z13 11 1 x0) + (1 : Int32))) fun z14 => zc (fX11_changeWorld N x0 z14) fun _ z16 => some (.inl ((zgI z16 11 1 x0) - (1 : Int32)), z16)) else (some (.inr 2, z))) else (fX11_net_34 N z))) else (fX11_net_13 N z))
set_option maxHeartbeats 4000000 in
set_option maxRecDepth 100000 in
theorem bX11_net_0 (hst : zSt B ids) (F : zFx p m c cX11_net 3 s args RX11 D cy B ids A) (hA : ∀ q : Nat, s.heap.size ≤ q → A q) (hAd : ∀ q, zAd B ids s.heap.size q ↔ A q) (hlf : l.stackTraces = false) (hret : meth.sig.returnType = (some .int)) (hlocks : meth.locks = false) (htab : ∀ x ∈ c.exceptionTable.toList, False) (hX : zXK A s s.heap) {r : (Int32 ⊕ Nat)} {z' : St} {N : Nat}  (x0 : Nat) (x1 : Int32) (x2 : Int32) (hx0 : (11, x0) ∈ ids) {cells slots : Nat} (hcs1 : cells + 1 ≤ rmX11_net.cells ∧ slots + 6 ≤ rmX11_net.slots) {z : St} {H : Heap} {locs : List Loc} {ls : Array Slot} (hr : zRep D cy B ids A s.heap z H locs) (hl : lv_has ls 3 [(0, .ref (B 11 x0)), (1, .int x1), (2, .int x2)]) (h : fX11_net N x0 x1 x2 z = some (r, z')) : W p l e rmX11_net s m args below meth c H locs cells slots (vx_MQ below (zQX D cy B ids (fun v => some (.int v)) (fun _ => True) r z' A) (zXC D cy B ids r z' A) args s rmX11_net.cells rmX11_net.slots A) (F0 m 0 ls []) := by
  unfold fX11_net at h
  have hcs0 := zcs_0 hcs1
  refine lv_iload_n F.1 F.2.1 dX11_net_0 rfl (lv_at hl 1 rfl) ?_
  refine lv_bipush (v := (100 : Int32)) F.1 F.2.1 dX11_net_1 (by decide) ?_
  refine lv_icmp_lt (tgt := 13) F.1 F.2.1 dX11_net_3 (by decide) (fun c1 => ?_) (fun c1 => ?_)
  · replace h := zi_t c1 h
    exact bX11_net_13 hst F hA hAd hlf hret hlocks htab hX   hcs1 hr (lv_sub hl [] rfl) h
  · replace h := zi_f c1 h
    refine lv_iload_n F.1 F.2.1 dX11_net_6 rfl (lv_at hl 1 rfl) ?_
    refine lv_sipush (v := (1500 : Int32)) F.1 F.2.1 dX11_net_7 (by decide) ?_
    refine lv_icmp_le (tgt := 23) F.1 F.2.1 dX11_net_10 (by decide) (fun c2 => ?_) (fun c2 => ?_)
    · replace h := zi_t c2 h
      refine lv_iload_n F.1 F.2.1 dX11_net_23 rfl (lv_at hl 2 rfl) ?_
      refine lv_iconst (v := (1 : Int32)) F.1 F.2.1 dX11_net_24 (by decide) ?_
      refine lv_icmp_lt (tgt := 34) F.1 F.2.1 dX11_net_25 (by decide) (fun c3 => ?_) (fun c3 => ?_)
      · replace h := zi_t c3 h
        exact bX11_net_34 hst F hA hAd hlf hret hlocks htab hX   hcs1 hr (lv_sub hl [] rfl) h
      · replace h := zi_f c3 h
        refine lv_iload_n F.1 F.2.1 dX11_net_28 rfl (lv_at hl 2 rfl) ?_
        refine lv_bipush (v := (50 : Int32)) F.1 F.2.1 dX11_net_29 (by decide) ?_
        refine lv_icmp_le (tgt := 44) F.1 F.2.1 dX11_net_31 (by decide) (fun c4 => ?_) (fun c4 => ?_)
        · replace h := zi_t c4 h
          refine lv_aload_n F.1 F.2.1 dX11_net_44 rfl (lv_at hl 0 rfl) ?_
          refine gf11_85 F hx0 hr dX11_net_45 ?_
          refine lv_bipush (v := (24 : Int32)) F.1 F.2.1 dX11_net_48 (by decide) ?_
          refine lv_icmp_lt (tgt := 63) F.1 F.2.1 dX11_net_50 (by decide) (fun c5 => ?_) (fun c5 => ?_)
          · replace h := zi_t c5 h
            refine lv_aload_n F.1 F.2.1 dX11_net_63 rfl (lv_at hl 0 rfl) ?_
            refine gf11_11 F hx0 hr dX11_net_64 ?_
            refine lv_aload_n F.1 F.2.1 dX11_net_67 rfl (lv_at hl 0 rfl) ?_
            refine gf11_85 F hx0 hr dX11_net_68 ?_
            replace h := zk_some h
            obtain ⟨c6, h⟩ := h
            refine zr_aaldv (k := 139) (by decide) rfl rfl (zlen_d (by decide)) F (zal_a F hx0 (j := 0) rfl) hr dX11_net_71 c6 (fun y7 ey7 => ?_)
            replace h := zl_sub ey7 h
            have hy7 := zal_q hr (zal_a F hx0 (j := 0) rfl) rfl ey7
            clear ey7
            refine lv_iload_n F.1 F.2.1 dX11_net_72 rfl (lv_at hl 1 rfl) ?_
            replace h := zd_some h
            obtain ⟨a8, rfl, h⟩ := h
            refine pf11_90 F (hy7 _ rfl) hr dX11_net_73 x1 (fun H locs z9 ez9 hr => ?_)
            replace h := zl_sub ez9 h
            clear ez9
            refine lv_aload_n F.1 F.2.1 dX11_net_76 rfl (lv_at hl 0 rfl) ?_
            refine gf11_11 F hx0 hr dX11_net_77 ?_
            refine lv_aload_n F.1 F.2.1 dX11_net_80 rfl (lv_at hl 0 rfl) ?_
            refine gf11_85 F hx0 hr dX11_net_81 ?_
            replace h := zk_some h
            obtain ⟨c10, h⟩ := h
            refine zr_aaldv (k := 139) (by decide) rfl rfl (zlen_d (by decide)) F (zal_a F hx0 (j := 0) rfl) hr dX11_net_84 c10 (fun y11 ey11 => ?_)
            replace h := zl_sub ey11 h
            have hy11 := zal_q hr (zal_a F hx0 (j := 0) rfl) rfl ey11
            clear ey11
            refine lv_iload_n F.1 F.2.1 dX11_net_85 rfl (lv_at hl 2 rfl) ?_
            replace h := zd_some h
            obtain ⟨a12, rfl, h⟩ := h
            refine pf11_93 F (hy11 _ rfl) hr dX11_net_86 x2 (fun H locs z13 ez13 hr => ?_)
            replace h := zl_sub ez13 h
            clear ez13
            refine lv_aload_n F.1 F.2.1 dX11_net_89 rfl (lv_at hl 0 rfl) ?_
            refine lv_dup F.1 F.2.1 dX11_net_90 rfl ?_
            refine gf11_85 F hx0 hr dX11_net_91 ?_
            refine lv_iconst (v := (1 : Int32)) F.1 F.2.1 dX11_net_94 (by decide) ?_
            refine lv_iadd F.1 F.2.1 dX11_net_95 ?_
            refine pf11_85 F hx0 hr dX11_net_96 ((zgI z13 11 1 x0) + (1 : Int32)) (fun H locs z14 ez14 hr => ?_)
            replace h := zl_sub ez14 h
            clear ez14
            refine lv_aload_n F.1 F.2.1 dX11_net_99 rfl (lv_at hl 0 rfl) ?_
            replace h := zc_some h
            obtain ⟨r15, z16, hc17, h⟩ := h
            refine zr_callv (zrun_V (As := []) (rest := []) zq_888 zq_890 zs_X11_changeWorld zq_891 zq_1 hdX11_changeWorld (by decide) (T := TX11) (N := 21) rfl (okX11_changeWorld l D cy B ids hst N x0 hx0 hr.2.2 hc17) F hr hx0 hl.1 rfl (by decide) dX11_net_100 rfl rfl hroX11_net_X11_changeWorld hcs0) F hA hr (fun H locs hw18 hr => ?_)
            clear hc17
            refine lv_aload_n F.1 F.2.1 dX11_net_103 rfl (lv_at hl 0 rfl) ?_
            refine gf11_85 F hx0 hr dX11_net_104 ?_
            refine lv_iconst (v := (1 : Int32)) F.1 F.2.1 dX11_net_107 (by decide) ?_
            refine lv_isub F.1 F.2.1 dX11_net_108 ?_
            obtain ⟨rfl, rfl⟩ := zret h
            exact zXe_i F hret hlocks dX11_net_109 hr hcs0.1 hcs0.2
          · replace h := zi_f c5 h
            obtain ⟨rfl, rfl⟩ := zret h
            exact zXt (text := "there are 24 nets") hlf F htab hX hlocks hl.1 (Or.inr rfl) zq_335 zq_8 (by decide +kernel) dX11_net_53 dX11_net_56 dX11_net_57 dX11_net_59 dX11_net_62 (by decide) (by decide) hcs1.1 hcs1.2 hr hcs1.1 hcs1.2
        · replace h := zi_f c4 h
          exact bX11_net_34 hst F hA hAd hlf hret hlocks htab hX   hcs1 hr (lv_sub hl [] rfl) h
    · replace h := zi_f c2 h
      exact bX11_net_13 hst F hA hAd hlf hret hlocks htab hX   hcs1 hr (lv_sub hl [] rfl) h
end SX11_net
set_option maxRecDepth 100000 in
theorem okX11_net (l : Launch) (hlf : l.stackTraces = false) (D : va_G) (cy : Nat → ClassId) (B : Nat → Nat → Nat) (ids : List (Nat × Nat)) (hst : zSt B ids) (N : Nat) (x0 : Nat) (hx0 : (11, x0) ∈ ids) (x1 : Int32) (x2 : Int32) {z : St} {r : (Int32 ⊕ Nat)} {z' : St} (hW : zWf ids z) (h : fX11_net N x0 x1 x2 z = some (r, z')) : zMX l yX11_net (zws yX11_net cX11_net 3 (some .int)) rmX11_net D cy B ids [.ref (B 11 x0), .int x1, .int x2] (fun v => some (.int v)) (fun _ => True) r z z' :=
  zMX_of hst hW (by decide +kernel) (Nat.le_of_ble_eq_true rfl) (fun p e s m args below meth c A ls F hA hAd hret hlocks htab hX hr hl => bX11_net_0 hst F hA hAd hlf hret hlocks htab hX x0 x1 x2 hx0 (by decide) hr hl h)
abbrev rmX11_cost : Room := { frames := 6, cells := 1, slots := 6, locals := 100 }
theorem hdX11_cost : yX11_cost.cls ≠ "java/lang/invoke/MethodHandle" ∧ yX11_cost.cls ≠ "java/lang/invoke/VarHandle" ∧ (parseMethodDescriptor yX11_cost.desc).map (fun d => d.parameters.length) = some 3 := by decide +kernel
theorem hroX11_cost_X11_changeWorld : rmX11_changeWorld.frames + 1 ≤ rmX11_cost.frames ∧ 8 + (1 + 11) + rmX11_changeWorld.locals ≤ rmX11_cost.locals := by decide
theorem hroX11_cost_X11_netOf : rmX11_netOf.frames + 1 ≤ rmX11_cost.frames ∧ 8 + (2 + 11) + rmX11_netOf.locals ≤ rmX11_cost.locals := by decide
theorem hroX11_cost_X11_routerOf : rmX11_routerOf.frames + 1 ≤ rmX11_cost.frames ∧ 8 + (3 + 11) + rmX11_routerOf.locals ≤ rmX11_cost.locals := by decide
theorem hroX11_cost_X1_portOn : rmX1_portOn.frames + 1 ≤ rmX11_cost.frames ∧ 8 + (3 + 11) + rmX1_portOn.locals ≤ rmX11_cost.locals := by decide
section SX11_cost
variable {p : Program} {l : Launch} {e : Env} {s : State} {m : MethodId} {args : Array Value} {below : List Frame} {meth : Method} {c : Code} {Q : State → Prop} {D : va_G} {cy : Nat → ClassId} {B : Nat → Nat → Nat} {ids : List (Nat × Nat)} {A : Nat → Prop}
def fX11_cost_20 (N : Nat)   (z : St) : Option ((Int32 ⊕ Nat) × St) := some (.inr 1, z)
set_option maxHeartbeats 4000000 in
set_option maxRecDepth 100000 in
theorem bX11_cost_20 (hst : zSt B ids) (F : zFx p m c cX11_cost 7 s args RX11 D cy B ids A) (hA : ∀ q : Nat, s.heap.size ≤ q → A q) (hAd : ∀ q, zAd B ids s.heap.size q ↔ A q) (hlf : l.stackTraces = false) (hret : meth.sig.returnType = (some .int)) (hlocks : meth.locks = false) (htab : ∀ x ∈ c.exceptionTable.toList, False) (hX : zXK A s s.heap) {r : (Int32 ⊕ Nat)} {z' : St} {N : Nat}    {cells slots : Nat} (hcs1 : cells + 1 ≤ rmX11_cost.cells ∧ slots + 6 ≤ rmX11_cost.slots) {z : St} {H : Heap} {locs : List Loc} {ls : Array Slot} (hr : zRep D cy B ids A s.heap z H locs) (hl : lv_has ls 7 []) (h : fX11_cost_20 N z = some (r, z')) : W p l e rmX11_cost s m args below meth c H locs cells slots (vx_MQ below (zQX D cy B ids (fun v => some (.int v)) (fun _ => True) r z' A) (zXC D cy B ids r z' A) args s rmX11_cost.cells rmX11_cost.slots A) (F0 m 20 ls []) := by
  unfold fX11_cost_20 at h
  have hcs0 := zcs_0 hcs1
  obtain ⟨rfl, rfl⟩ := zret h
  exact zXt (text := "no such router or net") hlf F htab hX hlocks hl.1 (Or.inl rfl) zq_870 zq_22 (by decide +kernel) dX11_cost_20 dX11_cost_23 dX11_cost_24 dX11_cost_26 dX11_cost_29 (by decide) (by decide) hcs1.1 hcs1.2 hr hcs1.1 hcs1.2
def fX11_cost_65 (N : Nat)   (z : St) : Option ((Int32 ⊕ Nat) × St) := some (.inr 1, z)
set_option maxHeartbeats 4000000 in
set_option maxRecDepth 100000 in
theorem bX11_cost_65 (hst : zSt B ids) (F : zFx p m c cX11_cost 7 s args RX11 D cy B ids A) (hA : ∀ q : Nat, s.heap.size ≤ q → A q) (hAd : ∀ q, zAd B ids s.heap.size q ↔ A q) (hlf : l.stackTraces = false) (hret : meth.sig.returnType = (some .int)) (hlocks : meth.locks = false) (htab : ∀ x ∈ c.exceptionTable.toList, False) (hX : zXK A s s.heap) {r : (Int32 ⊕ Nat)} {z' : St} {N : Nat}    {cells slots : Nat} (hcs1 : cells + 1 ≤ rmX11_cost.cells ∧ slots + 6 ≤ rmX11_cost.slots) {z : St} {H : Heap} {locs : List Loc} {ls : Array Slot} (hr : zRep D cy B ids A s.heap z H locs) (hl : lv_has ls 7 []) (h : fX11_cost_65 N z = some (r, z')) : W p l e rmX11_cost s m args below meth c H locs cells slots (vx_MQ below (zQX D cy B ids (fun v => some (.int v)) (fun _ => True) r z' A) (zXC D cy B ids r z' A) args s rmX11_cost.cells rmX11_cost.slots A) (F0 m 65 ls []) := by
  unfold fX11_cost_65 at h
  have hcs0 := zcs_0 hcs1
  obtain ⟨rfl, rfl⟩ := zret h
  exact zXt (text := "cost is not 1 .. 1000") hlf F htab hX hlocks hl.1 (Or.inl rfl) zq_870 zq_22 (by decide +kernel) dX11_cost_65 dX11_cost_68 dX11_cost_69 dX11_cost_71 dX11_cost_74 (by decide) (by decide) hcs1.1 hcs1.2 hr hcs1.1 hcs1.2
def fX11_cost (N : Nat)  (x0 : Nat) (x1 : Int32) (x2 : Int32) (x3 : Int32) (z : St) : Option ((Int32 ⊕ Nat) × St) := zc (fX11_routerOf N x0 x1 z) fun r1 z2 => zo r1 (fX11_cost_20 N z2) fun a6 => zc (fX11_netOf N x0 x2 z2) fun r7 z8 => zo r7 (fX11_cost_20 N z8) fun a12 => zc (fX1_portOn N a6 x2 z8) fun r13 z14 => zo r13 (some (.inr 1, z14)) fun a18 => if x3 < (1 : Int32) then (fX11_cost_65 N z14) else (if x3 ≤ (1000 : Int32) then (zl (zgI z14 8 5 a18) fun v21 => if x3 = v21 then (some (.inl v21, z14)) else (zl (zsI z14 8 5 a18 x3) fun z23 => zc (fX11_changeWorld N x0 z23) fun _ z25 => some (.inl v21, z25))) else (fX11_cost_65 N z14))
set_option maxHeartbeats 4000000 in
set_option maxRecDepth 100000 in
theorem bX11_cost_0 (hst : zSt B ids) (F : zFx p m c cX11_cost 7 s args RX11 D cy B ids A) (hA : ∀ q : Nat, s.heap.size ≤ q → A q) (hAd : ∀ q, zAd B ids s.heap.size q ↔ A q) (hlf : l.stackTraces = false) (hret : meth.sig.returnType = (some .int)) (hlocks : meth.locks = false) (htab : ∀ x ∈ c.exceptionTable.toList, False) (hX : zXK A s s.heap) {r : (Int32 ⊕ Nat)} {z' : St} {N : Nat}  (x0 : Nat) (x1 : Int32) (x2 : Int32) (x3 : Int32) (hx0 : (11, x0) ∈ ids) {cells slots : Nat} (hcs1 : cells + 1 ≤ rmX11_cost.cells ∧ slots + 6 ≤ rmX11_cost.slots) {z : St} {H : Heap} {locs : List Loc} {ls : Array Slot} (hr : zRep D cy B ids A s.heap z H locs) (hl : lv_has ls 7 [(0, .ref (B 11 x0)), (1, .int x1), (2, .int x2), (3, .int x3)]) (h : fX11_cost N x0 x1 x2 x3 z = some (r, z')) : W p l e rmX11_cost s m args below meth c H locs cells slots (vx_MQ below (zQX D cy B ids (fun v => some (.int v)) (fun _ => True) r z' A) (zXC D cy B ids r z' A) args s rmX11_cost.cells rmX11_cost.slots A) (F0 m 0 ls []) := by
  unfold fX11_cost at h
  have hcs0 := zcs_0 hcs1
  refine lv_aload_n F.1 F.2.1 dX11_cost_0 rfl (lv_at hl 0 rfl) ?_
  refine lv_iload_n F.1 F.2.1 dX11_cost_1 rfl (lv_at hl 1 rfl) ?_
  replace h := zc_some h
  obtain ⟨r1, z2, hc3, h⟩ := h
  refine zr_callr (zrun_V (As := [.int x1]) (rest := []) zq_985 zq_987 zs_X11_routerOf zq_988 zq_1 hdX11_routerOf (by decide) (T := TX11) (N := 21) rfl (okX11_routerOf l D cy B ids hst N x0 hx0 x1  hr.2.2 hc3) F hr hx0 hl.1 rfl (by decide) dX11_cost_2 rfl rfl hroX11_cost_X11_routerOf hcs0) F hA hr (fun H locs hw4 hr => ?_)
  clear hc3
  refine zr_astore (lv' := [(4, va_rf (Option.map (B 1) r1)), (0, .ref (B 11 x0)), (1, .int x1), (2, .int x2), (3, .int x3)]) F.1 F.2.1 dX11_cost_5 hl (by decide) rfl (fun ls hl => ?_)
  refine zr_aload F.1 F.2.1 dX11_cost_7 (lv_at hl 0 rfl) ?_
  refine zr_ifnull (tgt := 20) F.1 F.2.1 dX11_cost_9 (by decide) (fun e5 => ?_) (fun a6 e5 => ?_)
  · replace h := zo_n e5 h
    subst e5
    exact bX11_cost_20 hst F hA hAd hlf hret hlocks htab hX   hcs1 hr (lv_sub hl [] rfl) h
  · replace h := zo_s e5 h
    subst e5
    refine lv_aload_n F.1 F.2.1 dX11_cost_12 rfl (lv_at hl 1 rfl) ?_
    refine lv_iload_n F.1 F.2.1 dX11_cost_13 rfl (lv_at hl 3 rfl) ?_
    replace h := zc_some h
    obtain ⟨r7, z8, hc9, h⟩ := h
    refine zr_callr (zrun_V (As := [.int x2]) (rest := []) zq_903 zq_905 zs_X11_netOf zq_906 zq_1 hdX11_netOf (by decide) (T := TX11) (N := 21) rfl (okX11_netOf l D cy B ids hst N x0 hx0 x2  hr.2.2 hc9) F hr hx0 hl.1 rfl (by decide) dX11_cost_14 rfl rfl hroX11_cost_X11_netOf hcs0) F hA hr (fun H locs hw10 hr => ?_)
    clear hc9
    refine zr_ifnonnull (tgt := 30) F.1 F.2.1 dX11_cost_17 (by decide) (fun e11 => ?_) (fun a12 e11 => ?_)
    · replace h := zo_n e11 h
      subst e11
      exact bX11_cost_20 hst F hA hAd hlf hret hlocks htab hX   hcs1 hr (lv_sub hl [] rfl) h
    · replace h := zo_s e11 h
      subst e11
      refine lv_aload F.1 F.2.1 dX11_cost_30 (lv_at hl 0 rfl) ?_
      refine lv_iload_n F.1 F.2.1 dX11_cost_32 rfl (lv_at hl 3 rfl) ?_
      replace h := zc_some h
      obtain ⟨r13, z14, hc15, h⟩ := h
      refine zr_callr (zrun_VN (As := [.int x2]) (rest := []) zn_293 zq_295 zs_X1_portOn zq_297 zq_9 hdX1_portOn (by decide) (T := TX1) (N := 13) rfl (okX1_portOn l D cy B ids hst N a6 (hw4 _ rfl) x2  hr.2.2 hc15) F hr (hw4 _ rfl) hl.1 rfl (by decide) dX11_cost_33 rfl rfl hroX11_cost_X1_portOn hcs0) F hA hr (fun H locs hw16 hr => ?_)
      clear hc15
      refine zr_astore (lv' := [(5, va_rf (Option.map (B 8) r13)), (4, .ref (B 1 a6)), (0, .ref (B 11 x0)), (1, .int x1), (2, .int x2), (3, .int x3)]) F.1 F.2.1 dX11_cost_36 hl (by decide) rfl (fun ls hl => ?_)
      refine zr_aload F.1 F.2.1 dX11_cost_38 (lv_at hl 0 rfl) ?_
      refine zr_ifnonnull (tgt := 53) F.1 F.2.1 dX11_cost_40 (by decide) (fun e17 => ?_) (fun a18 e17 => ?_)
      · replace h := zo_n e17 h
        subst e17
        obtain ⟨rfl, rfl⟩ := zret h
        exact zXt (text := "the router is not on the net") hlf F htab hX hlocks hl.1 (Or.inl rfl) zq_870 zq_22 (by decide +kernel) dX11_cost_43 dX11_cost_46 dX11_cost_47 dX11_cost_49 dX11_cost_52 (by decide) (by decide) hcs1.1 hcs1.2 hr hcs1.1 hcs1.2
      · replace h := zo_s e17 h
        subst e17
        refine lv_iload_n F.1 F.2.1 dX11_cost_53 rfl (lv_at hl 5 rfl) ?_
        refine lv_iconst (v := (1 : Int32)) F.1 F.2.1 dX11_cost_54 (by decide) ?_
        refine lv_icmp_lt (tgt := 65) F.1 F.2.1 dX11_cost_55 (by decide) (fun c19 => ?_) (fun c19 => ?_)
        · replace h := zi_t c19 h
          exact bX11_cost_65 hst F hA hAd hlf hret hlocks htab hX   hcs1 hr (lv_sub hl [] rfl) h
        · replace h := zi_f c19 h
          refine lv_iload_n F.1 F.2.1 dX11_cost_58 rfl (lv_at hl 5 rfl) ?_
          refine lv_sipush (v := (1000 : Int32)) F.1 F.2.1 dX11_cost_59 (by decide) ?_
          refine lv_icmp_le (tgt := 75) F.1 F.2.1 dX11_cost_62 (by decide) (fun c20 => ?_) (fun c20 => ?_)
          · replace h := zi_t c20 h
            refine lv_aload F.1 F.2.1 dX11_cost_75 (lv_at hl 0 rfl) ?_
            refine gf11_153 F (hw16 _ rfl) hr dX11_cost_77 ?_
            refine lv_topi (fun v21 ev21 => ?_)
            replace h := zl_sub ev21 h
            refine lv_istore (lv' := [(6, .int v21), (5, .ref (B 8 a18)), (4, .ref (B 1 a6)), (0, .ref (B 11 x0)), (1, .int x1), (2, .int x2), (3, .int x3)]) F.1 F.2.1 dX11_cost_80 hl (by decide) rfl (fun ls hl => ?_)
            refine lv_iload_n F.1 F.2.1 dX11_cost_82 rfl (lv_at hl 6 rfl) ?_
            refine lv_iload F.1 F.2.1 dX11_cost_83 (lv_at hl 0 rfl) ?_
            refine lv_icmp_eq (tgt := 98) F.1 F.2.1 dX11_cost_85 (by decide) (fun c22 => ?_) (fun c22 => ?_)
            · replace h := zi_t c22 h
              refine lv_iload F.1 F.2.1 dX11_cost_98 (lv_at hl 0 rfl) ?_
              obtain ⟨rfl, rfl⟩ := zret h
              exact zXe_i F hret hlocks dX11_cost_100 hr hcs0.1 hcs0.2
            · replace h := zi_f c22 h
              refine lv_aload F.1 F.2.1 dX11_cost_88 (lv_at hl 1 rfl) ?_
              refine lv_iload_n F.1 F.2.1 dX11_cost_90 rfl (lv_at hl 6 rfl) ?_
              refine pf11_153 F (hw16 _ rfl) hr dX11_cost_91 x3 (fun H locs z23 ez23 hr => ?_)
              replace h := zl_sub ez23 h
              clear ez23
              refine lv_aload_n F.1 F.2.1 dX11_cost_94 rfl (lv_at hl 3 rfl) ?_
              replace h := zc_some h
              obtain ⟨r24, z25, hc26, h⟩ := h
              refine zr_callv (zrun_V (As := []) (rest := []) zq_888 zq_890 zs_X11_changeWorld zq_891 zq_1 hdX11_changeWorld (by decide) (T := TX11) (N := 21) rfl (okX11_changeWorld l D cy B ids hst N x0 hx0 hr.2.2 hc26) F hr hx0 hl.1 rfl (by decide) dX11_cost_95 rfl rfl hroX11_cost_X11_changeWorld hcs0) F hA hr (fun H locs hw27 hr => ?_)
              clear hc26
              refine lv_iload F.1 F.2.1 dX11_cost_98 (lv_at hl 0 rfl) ?_
              obtain ⟨rfl, rfl⟩ := zret h
              exact zXe_i F hret hlocks dX11_cost_100 hr hcs0.1 hcs0.2
          · replace h := zi_f c20 h
            exact bX11_cost_65 hst F hA hAd hlf hret hlocks htab hX   hcs1 hr (lv_sub hl [] rfl) h
end SX11_cost
set_option maxRecDepth 100000 in
theorem okX11_cost (l : Launch) (hlf : l.stackTraces = false) (D : va_G) (cy : Nat → ClassId) (B : Nat → Nat → Nat) (ids : List (Nat × Nat)) (hst : zSt B ids) (N : Nat) (x0 : Nat) (hx0 : (11, x0) ∈ ids) (x1 : Int32) (x2 : Int32) (x3 : Int32) {z : St} {r : (Int32 ⊕ Nat)} {z' : St} (hW : zWf ids z) (h : fX11_cost N x0 x1 x2 x3 z = some (r, z')) : zMX l yX11_cost (zws yX11_cost cX11_cost 7 (some .int)) rmX11_cost D cy B ids [.ref (B 11 x0), .int x1, .int x2, .int x3] (fun v => some (.int v)) (fun _ => True) r z z' :=
  zMX_of hst hW (by decide +kernel) (Nat.le_of_ble_eq_true rfl) (fun p e s m args below meth c A ls F hA hAd hret hlocks htab hX hr hl => bX11_cost_0 hst F hA hAd hlf hret hlocks htab hX x0 x1 x2 x3 hx0 (by decide) hr hl h)
abbrev rmX11_link : Room := { frames := 6, cells := 1, slots := 6, locals := 100 }
theorem hdX11_link : yX11_link.cls ≠ "java/lang/invoke/MethodHandle" ∧ yX11_link.cls ≠ "java/lang/invoke/VarHandle" ∧ (parseMethodDescriptor yX11_link.desc).map (fun d => d.parameters.length) = some 2 := by decide +kernel
theorem hroX11_link_X11_changeWorld : rmX11_changeWorld.frames + 1 ≤ rmX11_link.frames ∧ 8 + (1 + 11) + rmX11_changeWorld.locals ≤ rmX11_link.locals := by decide
theorem hroX11_link_X11_loseAllOn : rmX11_loseAllOn.frames + 1 ≤ rmX11_link.frames ∧ 8 + (6 + 11) + rmX11_loseAllOn.locals ≤ rmX11_link.locals := by decide
theorem hroX11_link_X11_netOf : rmX11_netOf.frames + 1 ≤ rmX11_link.frames ∧ 8 + (2 + 11) + rmX11_netOf.locals ≤ rmX11_link.locals := by decide
section SX11_link
variable {p : Program} {l : Launch} {e : Env} {s : State} {m : MethodId} {args : Array Value} {below : List Frame} {meth : Method} {c : Code} {Q : State → Prop} {D : va_G} {cy : Nat → ClassId} {B : Nat → Nat → Nat} {ids : List (Nat × Nat)} {A : Nat → Prop}
def fX11_link_44 (N : Nat)  (x0 : Nat) (z : St) : Option ((Int32 ⊕ Nat) × St) := zc (fX11_changeWorld N x0 z) fun _ z2 => some (.inl (1 : Int32), z2)
set_option maxHeartbeats 4000000 in
set_option maxRecDepth 100000 in
theorem bX11_link_44 (hst : zSt B ids) (F : zFx p m c cX11_link 4 s args RX11 D cy B ids A) (hA : ∀ q : Nat, s.heap.size ≤ q → A q) (hAd : ∀ q, zAd B ids s.heap.size q ↔ A q) (hlf : l.stackTraces = false) (hret : meth.sig.returnType = (some .boolean)) (hlocks : meth.locks = false) (htab : ∀ x ∈ c.exceptionTable.toList, False) (hX : zXK A s s.heap) {r : (Int32 ⊕ Nat)} {z' : St} {N : Nat}  (x0 : Nat) (hx0 : (11, x0) ∈ ids) {cells slots : Nat} (hcs1 : cells + 1 ≤ rmX11_link.cells ∧ slots + 6 ≤ rmX11_link.slots) {z : St} {H : Heap} {locs : List Loc} {ls : Array Slot} (hr : zRep D cy B ids A s.heap z H locs) (hl : lv_has ls 4 [(0, .ref (B 11 x0))]) (h : fX11_link_44 N x0 z = some (r, z')) : W p l e rmX11_link s m args below meth c H locs cells slots (vx_MQ below (zQX D cy B ids (fun v => some (.int v)) (fun v => v = 0 ∨ v = 1) r z' A) (zXC D cy B ids r z' A) args s rmX11_link.cells rmX11_link.slots A) (F0 m 44 ls []) := by
  unfold fX11_link_44 at h
  have hcs0 := zcs_0 hcs1
  refine lv_aload_n F.1 F.2.1 dX11_link_44 rfl (lv_at hl 0 rfl) ?_
  replace h := zc_some h
  obtain ⟨r1, z2, hc3, h⟩ := h
  refine zr_callv (zrun_V (As := []) (rest := []) zq_888 zq_890 zs_X11_changeWorld zq_891 zq_1 hdX11_changeWorld (by decide) (T := TX11) (N := 21) rfl (okX11_changeWorld l D cy B ids hst N x0 hx0 hr.2.2 hc3) F hr hx0 hl.1 rfl (by decide) dX11_link_45 rfl rfl hroX11_link_X11_changeWorld hcs0) F hA hr (fun H locs hw4 hr => ?_)
  clear hc3
  refine lv_iconst (v := (1 : Int32)) F.1 F.2.1 dX11_link_48 (by decide) ?_
  obtain ⟨rfl, rfl⟩ := zret h
  exact zXe_z F hret hlocks dX11_link_49 (by decide) hr hcs0.1 hcs0.2
def fX11_link (N : Nat)  (x0 : Nat) (x1 : Int32) (x2 : Int32) (z : St) : Option ((Int32 ⊕ Nat) × St) := zc (fX11_netOf N x0 x1 z) fun r1 z2 => zo r1 (some (.inr 1, z2)) fun a6 => if ¬ (zgI z2 5 3 a6) = x2 then (zq (x2 = 0 ∨ x2 = 1) <| zl (zsI z2 5 3 a6 x2) fun z8 => if ¬ x2 = 0 then (fX11_link_44 N x0 z8) else (zc (fX11_loseAllOn N x0 x1 z8) fun _ z12 => fX11_link_44 N x0 z12)) else (some (.inl (0 : Int32), z2))
set_option maxHeartbeats 4000000 in
set_option maxRecDepth 100000 in
theorem bX11_link_0 (hst : zSt B ids) (F : zFx p m c cX11_link 4 s args RX11 D cy B ids A) (hA : ∀ q : Nat, s.heap.size ≤ q → A q) (hAd : ∀ q, zAd B ids s.heap.size q ↔ A q) (hlf : l.stackTraces = false) (hret : meth.sig.returnType = (some .boolean)) (hlocks : meth.locks = false) (htab : ∀ x ∈ c.exceptionTable.toList, False) (hX : zXK A s s.heap) {r : (Int32 ⊕ Nat)} {z' : St} {N : Nat}  (x0 : Nat) (x1 : Int32) (x2 : Int32) (hx0 : (11, x0) ∈ ids) {cells slots : Nat} (hcs1 : cells + 1 ≤ rmX11_link.cells ∧ slots + 6 ≤ rmX11_link.slots) {z : St} {H : Heap} {locs : List Loc} {ls : Array Slot} (hr : zRep D cy B ids A s.heap z H locs) (hl : lv_has ls 4 [(0, .ref (B 11 x0)), (1, .int x1), (2, .int x2)]) (h : fX11_link N x0 x1 x2 z = some (r, z')) : W p l e rmX11_link s m args below meth c H locs cells slots (vx_MQ below (zQX D cy B ids (fun v => some (.int v)) (fun v => v = 0 ∨ v = 1) r z' A) (zXC D cy B ids r z' A) args s rmX11_link.cells rmX11_link.slots A) (F0 m 0 ls []) := by
  unfold fX11_link at h
  have hcs0 := zcs_0 hcs1
  refine lv_aload_n F.1 F.2.1 dX11_link_0 rfl (lv_at hl 0 rfl) ?_
  refine lv_iload_n F.1 F.2.1 dX11_link_1 rfl (lv_at hl 1 rfl) ?_
  replace h := zc_some h
  obtain ⟨r1, z2, hc3, h⟩ := h
  refine zr_callr (zrun_V (As := [.int x1]) (rest := []) zq_903 zq_905 zs_X11_netOf zq_906 zq_1 hdX11_netOf (by decide) (T := TX11) (N := 21) rfl (okX11_netOf l D cy B ids hst N x0 hx0 x1  hr.2.2 hc3) F hr hx0 hl.1 rfl (by decide) dX11_link_2 rfl rfl hroX11_link_X11_netOf hcs0) F hA hr (fun H locs hw4 hr => ?_)
  clear hc3
  refine zr_astore_n (lv' := [(3, va_rf (Option.map (B 5) r1)), (0, .ref (B 11 x0)), (1, .int x1), (2, .int x2)]) F.1 F.2.1 dX11_link_5 rfl hl (by decide) rfl (fun ls hl => ?_)
  refine zr_aload_n F.1 F.2.1 dX11_link_6 rfl (lv_at hl 0 rfl) ?_
  refine zr_ifnonnull (tgt := 20) F.1 F.2.1 dX11_link_7 (by decide) (fun e5 => ?_) (fun a6 e5 => ?_)
  · replace h := zo_n e5 h
    subst e5
    obtain ⟨rfl, rfl⟩ := zret h
    exact zXt (text := "no such net") hlf F htab hX hlocks hl.1 (Or.inl rfl) zq_870 zq_22 (by decide +kernel) dX11_link_10 dX11_link_13 dX11_link_14 dX11_link_16 dX11_link_19 (by decide) (by decide) hcs1.1 hcs1.2 hr hcs1.1 hcs1.2
  · replace h := zo_s e5 h
    subst e5
    refine lv_aload_n F.1 F.2.1 dX11_link_20 rfl (lv_at hl 0 rfl) ?_
    refine gf11_158 F (hw4 _ rfl) hr dX11_link_21 ?_
    refine lv_iload_n F.1 F.2.1 dX11_link_24 rfl (lv_at hl 3 rfl) ?_
    refine lv_icmp_ne (tgt := 30) F.1 F.2.1 dX11_link_25 (by decide) (fun c7 => ?_) (fun c7 => ?_)
    · replace h := zi_t c7 h
      refine lv_aload_n F.1 F.2.1 dX11_link_30 rfl (lv_at hl 0 rfl) ?_
      refine lv_iload_n F.1 F.2.1 dX11_link_31 rfl (lv_at hl 3 rfl) ?_
      replace h := zq_some h
      obtain ⟨c9, h⟩ := h
      refine pf11_158 F (hw4 _ rfl) hr dX11_link_32 x2 c9 (fun H locs z8 ez8 hr => ?_)
      replace h := zl_sub ez8 h
      clear ez8
      refine lv_iload_n F.1 F.2.1 dX11_link_35 rfl (lv_at hl 3 rfl) ?_
      refine lv_if_ne (tgt := 44) F.1 F.2.1 dX11_link_36 (by decide) (fun c10 => ?_) (fun c10 => ?_)
      · replace h := zi_t c10 h
        exact bX11_link_44 hst F hA hAd hlf hret hlocks htab hX  x0 hx0 hcs1 hr (lv_sub hl [1] rfl) h
      · replace h := zi_f (fun q => q c10) h
        refine lv_aload_n F.1 F.2.1 dX11_link_39 rfl (lv_at hl 1 rfl) ?_
        refine lv_iload_n F.1 F.2.1 dX11_link_40 rfl (lv_at hl 2 rfl) ?_
        replace h := zc_some h
        obtain ⟨r11, z12, hc13, h⟩ := h
        refine zr_callv (zrun_V (As := [.int x1]) (rest := []) zq_1000 zq_1002 zs_X11_loseAllOn zq_1003 zq_1 hdX11_loseAllOn (by decide) (T := TX11) (N := 21) rfl (okX11_loseAllOn l D cy B ids hst N x0 hx0 x1  hr.2.2 hc13) F hr hx0 hl.1 rfl (by decide) dX11_link_41 rfl rfl hroX11_link_X11_loseAllOn hcs0) F hA hr (fun H locs hw14 hr => ?_)
        clear hc13
        exact bX11_link_44 hst F hA hAd hlf hret hlocks htab hX  x0 hx0 hcs1 hr (lv_sub hl [1] rfl) h
    · replace h := zi_f (fun q => q c7) h
      refine lv_iconst (v := (0 : Int32)) F.1 F.2.1 dX11_link_28 (by decide) ?_
      obtain ⟨rfl, rfl⟩ := zret h
      exact zXe_z F hret hlocks dX11_link_29 (by decide) hr hcs0.1 hcs0.2
end SX11_link
set_option maxRecDepth 100000 in
theorem okX11_link (l : Launch) (hlf : l.stackTraces = false) (D : va_G) (cy : Nat → ClassId) (B : Nat → Nat → Nat) (ids : List (Nat × Nat)) (hst : zSt B ids) (N : Nat) (x0 : Nat) (hx0 : (11, x0) ∈ ids) (x1 : Int32) (x2 : Int32) {z : St} {r : (Int32 ⊕ Nat)} {z' : St} (hW : zWf ids z) (h : fX11_link N x0 x1 x2 z = some (r, z')) : zMX l yX11_link (zws yX11_link cX11_link 4 (some .boolean)) rmX11_link D cy B ids [.ref (B 11 x0), .int x1, .int x2] (fun v => some (.int v)) (fun v => v = 0 ∨ v = 1) r z z' :=
  zMX_of hst hW (by decide +kernel) (Nat.le_of_ble_eq_true rfl) (fun p e s m args below meth c A ls F hA hAd hret hlocks htab hX hr hl => bX11_link_0 hst F hA hAd hlf hret hlocks htab hX x0 x1 x2 hx0 (by decide) hr hl h)
abbrev rmX11_fates : Room := { frames := 6, cells := 1, slots := 6, locals := 100 }
theorem hdX11_fates : yX11_fates.cls ≠ "java/lang/invoke/MethodHandle" ∧ yX11_fates.cls ≠ "java/lang/invoke/VarHandle" ∧ (parseMethodDescriptor yX11_fates.desc).map (fun d => d.parameters.length) = some 3 := by decide +kernel
theorem hroX11_fates_X11_netOf : rmX11_netOf.frames + 1 ≤ rmX11_fates.frames ∧ 8 + (2 + 11) + rmX11_netOf.locals ≤ rmX11_fates.locals := by decide
theorem hroX11_fates_X5_addFate : rmX5_addFate.frames + 1 ≤ rmX11_fates.frames ∧ 8 + (2 + 11) + rmX5_addFate.locals ≤ rmX11_fates.locals := by decide
section SX11_fates
variable {p : Program} {l : Launch} {e : Env} {s : State} {m : MethodId} {args : Array Value} {below : List Frame} {meth : Method} {c : Code} {Q : State → Prop} {D : va_G} {cy : Nat → ClassId} {B : Nat → Nat → Nat} {ids : List (Nat × Nat)} {A : Nat → Prop}
def fX11_fates_35 (N : Nat)   (z : St) : Option ((Int32 ⊕ Nat) × St) := some (.inr 1, z)
set_option maxHeartbeats 4000000 in
set_option maxRecDepth 100000 in
theorem bX11_fates_35 (hst : zSt B ids) (F : zFx p m c cX11_fates 7 s args RX11 D cy B ids A) (hA : ∀ q : Nat, s.heap.size ≤ q → A q) (hAd : ∀ q, zAd B ids s.heap.size q ↔ A q) (hlf : l.stackTraces = false) (hret : meth.sig.returnType = (some .int)) (hlocks : meth.locks = false) (htab : ∀ x ∈ c.exceptionTable.toList, False) (hX : zXK A s s.heap) {r : (Int32 ⊕ Nat)} {z' : St} {N : Nat}    {cells slots : Nat} (hcs1 : cells + 1 ≤ rmX11_fates.cells ∧ slots + 6 ≤ rmX11_fates.slots) {z : St} {H : Heap} {locs : List Loc} {ls : Array Slot} (hr : zRep D cy B ids A s.heap z H locs) (hl : lv_has ls 7 []) (h : fX11_fates_35 N z = some (r, z')) : W p l e rmX11_fates s m args below meth c H locs cells slots (vx_MQ below (zQX D cy B ids (fun v => some (.int v)) (fun _ => True) r z' A) (zXC D cy B ids r z' A) args s rmX11_fates.cells rmX11_fates.slots A) (F0 m 35 ls []) := by
  unfold fX11_fates_35 at h
  have hcs0 := zcs_0 hcs1
  obtain ⟨rfl, rfl⟩ := zret h
  exact zXt (text := "n is not 1 .. 32") hlf F htab hX hlocks hl.1 (Or.inl rfl) zq_870 zq_22 (by decide +kernel) dX11_fates_35 dX11_fates_38 dX11_fates_39 dX11_fates_41 dX11_fates_44 (by decide) (by decide) hcs1.1 hcs1.2 hr hcs1.1 hcs1.2
def fX11_fates_71b (N : Nat) (K71 : Int64 → Int32 → Nat → Int32 → St → Option ((Int32 ⊕ Nat) × St)) (x2 : Int64) (x4 : Int32) (x5 : Nat) (x6 : Int32) (z : St) : Option ((Int32 ⊕ Nat) × St) := if x4 ≤ x6 then (some (.inl (zgI z 5 6 x5), z)) else (zc (fX5_addFate N x5 ((Int64.toInt32 (((x2).toUInt64 >>> ((((2 : Int32) * x6)).toInt64.toUInt64 &&& Int64.toUInt64 63)).toInt64)) &&& (3 : Int32)) z) fun _ z3 => zl (x6 + 1) fun v6 => K71 x2 x4 x5 v6 z3)
def fX11_fates_71 (N : Nat)  : Nat → Int64 → Int32 → Nat → Int32 → St → Option ((Int32 ⊕ Nat) × St)
  | 0 => fun _ _ _ _ _ => none
  | n + 1 => fX11_fates_71b N (fX11_fates_71 N  n)
set_option maxHeartbeats 4000000 in
set_option maxRecDepth 100000 in
theorem bX11_fates_71 (hst : zSt B ids) (F : zFx p m c cX11_fates 7 s args RX11 D cy B ids A) (hA : ∀ q : Nat, s.heap.size ≤ q → A q) (hAd : ∀ q, zAd B ids s.heap.size q ↔ A q) (hlf : l.stackTraces = false) (hret : meth.sig.returnType = (some .int)) (hlocks : meth.locks = false) (htab : ∀ x ∈ c.exceptionTable.toList, False) (hX : zXK A s s.heap) {r : (Int32 ⊕ Nat)} {z' : St} {N : Nat} {K71 : Int64 → Int32 → Nat → Int32 → St → Option ((Int32 ⊕ Nat) × St)} (hK71 : ∀ (x2 : Int64) (x4 : Int32) (x5 : Nat) (x6 : Int32) (hx5 : (5, x5) ∈ ids) {cells slots : Nat} (hcs1 : cells + 1 ≤ rmX11_fates.cells ∧ slots + 6 ≤ rmX11_fates.slots) {z : St} {H : Heap} {locs : List Loc} {ls : Array Slot} (hr : zRep D cy B ids A s.heap z H locs) (hl : lv_has ls 7 [(2, .long x2), (4, .int x4), (5, .ref (B 5 x5)), (6, .int x6)]), K71 x2 x4 x5 x6 z = some (r, z') → W p l e rmX11_fates s m args below meth c H locs cells slots (vx_MQ below (zQX D cy B ids (fun v => some (.int v)) (fun _ => True) r z' A) (zXC D cy B ids r z' A) args s rmX11_fates.cells rmX11_fates.slots A) (F0 m 71 ls [])) (x2 : Int64) (x4 : Int32) (x5 : Nat) (x6 : Int32) (hx5 : (5, x5) ∈ ids) {cells slots : Nat} (hcs1 : cells + 1 ≤ rmX11_fates.cells ∧ slots + 6 ≤ rmX11_fates.slots) {z : St} {H : Heap} {locs : List Loc} {ls : Array Slot} (hr : zRep D cy B ids A s.heap z H locs) (hl : lv_has ls 7 [(2, .long x2), (4, .int x4), (5, .ref (B 5 x5)), (6, .int x6)]) (h : fX11_fates_71b N K71 x2 x4 x5 x6 z = some (r, z')) : W p l e rmX11_fates s m args below meth c H locs cells slots (vx_MQ below (zQX D cy B ids (fun v => some (.int v)) (fun _ => True) r z' A) (zXC D cy B ids r z' A) args s rmX11_fates.cells rmX11_fates.slots A) (F0 m 71 ls []) := by
  unfold fX11_fates_71b at h
  have hcs0 := zcs_0 hcs1
  refine lv_iload F.1 F.2.1 dX11_fates_71 (lv_at hl 3 rfl) ?_
  refine lv_iload F.1 F.2.1 dX11_fates_73 (lv_at hl 1 rfl) ?_
  refine lv_icmp_ge (tgt := 98) F.1 F.2.1 dX11_fates_75 (by decide) (fun c1 => ?_) (fun c1 => ?_)
  · replace h := zi_t c1 h
    refine lv_aload F.1 F.2.1 dX11_fates_98 (lv_at hl 2 rfl) ?_
    refine gf11_166 F hx5 hr dX11_fates_100 ?_
    obtain ⟨rfl, rfl⟩ := zret h
    exact zXe_i F hret hlocks dX11_fates_103 hr hcs0.1 hcs0.2
  · replace h := zi_f c1 h
    refine lv_aload F.1 F.2.1 dX11_fates_78 (lv_at hl 2 rfl) ?_
    refine lv_lload_n F.1 F.2.1 dX11_fates_80 rfl (lv_at hl 0 rfl) ?_
    refine lv_iconst (v := (2 : Int32)) F.1 F.2.1 dX11_fates_81 (by decide) ?_
    refine lv_iload F.1 F.2.1 dX11_fates_82 (lv_at hl 3 rfl) ?_
    refine lv_imul F.1 F.2.1 dX11_fates_84 ?_
    refine lv_lushr F.1 F.2.1 dX11_fates_85 rfl ?_
    refine lv_l2i F.1 F.2.1 dX11_fates_86 rfl ?_
    refine lv_iconst (v := (3 : Int32)) F.1 F.2.1 dX11_fates_87 (by decide) ?_
    refine lv_iand F.1 F.2.1 dX11_fates_88 ?_
    replace h := zc_some h
    obtain ⟨r2, z3, hc4, h⟩ := h
    refine zr_callv (zrun_VN (As := [.int ((Int64.toInt32 (((x2).toUInt64 >>> ((((2 : Int32) * x6)).toInt64.toUInt64 &&& Int64.toUInt64 63)).toInt64)) &&& (3 : Int32))]) (rest := []) zn_1021 zq_1023 zs_X5_addFate zq_1024 zq_3 hdX5_addFate (by decide) (T := TX5) (N := 11) rfl (okX5_addFate l D cy B ids hst N x5 hx5 ((Int64.toInt32 (((x2).toUInt64 >>> ((((2 : Int32) * x6)).toInt64.toUInt64 &&& Int64.toUInt64 63)).toInt64)) &&& (3 : Int32))  hr.2.2 hc4) F hr hx5 hl.1 rfl (by decide) dX11_fates_89 rfl rfl hroX11_fates_X5_addFate hcs0) F hA hr (fun H locs hw5 hr => ?_)
    clear hc4
    obtain ⟨v6, ev6⟩ : ∃ y : Int32, y = (x6 + 1) := ⟨_, rfl⟩
    replace h := zl_sub ev6 h
    refine lv_iinc (v := v6) (lv' := [(6, .int v6), (2, .long x2), (4, .int x4), (5, .ref (B 5 x5))]) F.1 F.2.1 dX11_fates_92 hl (k := 3) rfl (by rw [ev6]; rfl) (by decide) rfl (fun ls hl => ?_)
    refine lv_goto (tgt := 71) F.1 F.2.1 dX11_fates_95 (by decide) ?_
    exact hK71 x2 x4 x5 v6 hx5 hcs1 hr (lv_sub hl [1, 2, 3, 0] rfl) h
theorem lX11_fates_71 (hst : zSt B ids) (F : zFx p m c cX11_fates 7 s args RX11 D cy B ids A) (hA : ∀ q : Nat, s.heap.size ≤ q → A q) (hAd : ∀ q, zAd B ids s.heap.size q ↔ A q) (hlf : l.stackTraces = false) (hret : meth.sig.returnType = (some .int)) (hlocks : meth.locks = false) (htab : ∀ x ∈ c.exceptionTable.toList, False) (hX : zXK A s s.heap) {r : (Int32 ⊕ Nat)} {z' : St} {N : Nat}  : ∀ (n : Nat) (x2 : Int64) (x4 : Int32) (x5 : Nat) (x6 : Int32) (hx5 : (5, x5) ∈ ids) {cells slots : Nat} (hcs1 : cells + 1 ≤ rmX11_fates.cells ∧ slots + 6 ≤ rmX11_fates.slots) {z : St} {H : Heap} {locs : List Loc} {ls : Array Slot} (hr : zRep D cy B ids A s.heap z H locs) (hl : lv_has ls 7 [(2, .long x2), (4, .int x4), (5, .ref (B 5 x5)), (6, .int x6)]), fX11_fates_71 N  n x2 x4 x5 x6 z = some (r, z') → W p l e rmX11_fates s m args below meth c H locs cells slots (vx_MQ below (zQX D cy B ids (fun v => some (.int v)) (fun _ => True) r z' A) (zXC D cy B ids r z' A) args s rmX11_fates.cells rmX11_fates.slots A) (F0 m 71 ls []) := by
  intro n
  induction n with
  | zero => intro x2 x4 x5 x6 hx5 cells slots hcs1 z H locs ls hr hl h; cases h
  | succ n ih => intro x2 x4 x5 x6 hx5 cells slots hcs1 z H locs ls hr hl h; exact bX11_fates_71 hst F hA hAd hlf hret hlocks htab hX ih x2 x4 x5 x6 hx5 hcs1 hr hl h
def fX11_fates (N : Nat)  (x0 : Nat) (x1 : Int32) (x2 : Int64) (x4 : Int32) (z : St) : Option ((Int32 ⊕ Nat) × St) := zc (fX11_netOf N x0 x1 z) fun r1 z2 => zo r1 (some (.inr 1, z2)) fun a6 => if x4 < (1 : Int32) then (fX11_fates_35 N z2) else (if x4 ≤ (32 : Int32) then (if ((zgI z2 5 6 a6) + x4) ≤ (64 : Int32) then (fX11_fates_71 N N x2 x4 a6 (0 : Int32) z2) else (some (.inr 2, z2))) else (fX11_fates_35 N z2))
set_option maxHeartbeats 4000000 in
set_option maxRecDepth 100000 in
theorem bX11_fates_0 (hst : zSt B ids) (F : zFx p m c cX11_fates 7 s args RX11 D cy B ids A) (hA : ∀ q : Nat, s.heap.size ≤ q → A q) (hAd : ∀ q, zAd B ids s.heap.size q ↔ A q) (hlf : l.stackTraces = false) (hret : meth.sig.returnType = (some .int)) (hlocks : meth.locks = false) (htab : ∀ x ∈ c.exceptionTable.toList, False) (hX : zXK A s s.heap) {r : (Int32 ⊕ Nat)} {z' : St} {N : Nat}  (x0 : Nat) (x1 : Int32) (x2 : Int64) (x4 : Int32) (hx0 : (11, x0) ∈ ids) {cells slots : Nat} (hcs1 : cells + 1 ≤ rmX11_fates.cells ∧ slots + 6 ≤ rmX11_fates.slots) {z : St} {H : Heap} {locs : List Loc} {ls : Array Slot} (hr : zRep D cy B ids A s.heap z H locs) (hl : lv_has ls 7 [(0, .ref (B 11 x0)), (1, .int x1), (2, .long x2), (4, .int x4)]) (h : fX11_fates N x0 x1 x2 x4 z = some (r, z')) : W p l e rmX11_fates s m args below meth c H locs cells slots (vx_MQ below (zQX D cy B ids (fun v => some (.int v)) (fun _ => True) r z' A) (zXC D cy B ids r z' A) args s rmX11_fates.cells rmX11_fates.slots A) (F0 m 0 ls []) := by
  unfold fX11_fates at h
  have hcs0 := zcs_0 hcs1
  refine lv_aload_n F.1 F.2.1 dX11_fates_0 rfl (lv_at hl 0 rfl) ?_
  refine lv_iload_n F.1 F.2.1 dX11_fates_1 rfl (lv_at hl 1 rfl) ?_
  replace h := zc_some h
  obtain ⟨r1, z2, hc3, h⟩ := h
  refine zr_callr (zrun_V (As := [.int x1]) (rest := []) zq_903 zq_905 zs_X11_netOf zq_906 zq_1 hdX11_netOf (by decide) (T := TX11) (N := 21) rfl (okX11_netOf l D cy B ids hst N x0 hx0 x1  hr.2.2 hc3) F hr hx0 hl.1 rfl (by decide) dX11_fates_2 rfl rfl hroX11_fates_X11_netOf hcs0) F hA hr (fun H locs hw4 hr => ?_)
  clear hc3
  refine zr_astore (lv' := [(5, va_rf (Option.map (B 5) r1)), (0, .ref (B 11 x0)), (1, .int x1), (2, .long x2), (4, .int x4)]) F.1 F.2.1 dX11_fates_5 hl (by decide) rfl (fun ls hl => ?_)
  refine zr_aload F.1 F.2.1 dX11_fates_7 (lv_at hl 0 rfl) ?_
  refine zr_ifnonnull (tgt := 22) F.1 F.2.1 dX11_fates_9 (by decide) (fun e5 => ?_) (fun a6 e5 => ?_)
  · replace h := zo_n e5 h
    subst e5
    obtain ⟨rfl, rfl⟩ := zret h
    exact zXt (text := "no such net") hlf F htab hX hlocks hl.1 (Or.inl rfl) zq_870 zq_22 (by decide +kernel) dX11_fates_12 dX11_fates_15 dX11_fates_16 dX11_fates_18 dX11_fates_21 (by decide) (by decide) hcs1.1 hcs1.2 hr hcs1.1 hcs1.2
  · replace h := zo_s e5 h
    subst e5
    refine lv_iload F.1 F.2.1 dX11_fates_22 (lv_at hl 4 rfl) ?_
    refine lv_iconst (v := (1 : Int32)) F.1 F.2.1 dX11_fates_24 (by decide) ?_
    refine lv_icmp_lt (tgt := 35) F.1 F.2.1 dX11_fates_25 (by decide) (fun c7 => ?_) (fun c7 => ?_)
    · replace h := zi_t c7 h
      exact bX11_fates_35 hst F hA hAd hlf hret hlocks htab hX   hcs1 hr (lv_sub hl [] rfl) h
    · replace h := zi_f c7 h
      refine lv_iload F.1 F.2.1 dX11_fates_28 (lv_at hl 4 rfl) ?_
      refine lv_bipush (v := (32 : Int32)) F.1 F.2.1 dX11_fates_30 (by decide) ?_
      refine lv_icmp_le (tgt := 45) F.1 F.2.1 dX11_fates_32 (by decide) (fun c8 => ?_) (fun c8 => ?_)
      · replace h := zi_t c8 h
        refine lv_aload F.1 F.2.1 dX11_fates_45 (lv_at hl 0 rfl) ?_
        refine gf11_166 F (hw4 _ rfl) hr dX11_fates_47 ?_
        refine lv_iload F.1 F.2.1 dX11_fates_50 (lv_at hl 4 rfl) ?_
        refine lv_iadd F.1 F.2.1 dX11_fates_52 ?_
        refine lv_bipush (v := (64 : Int32)) F.1 F.2.1 dX11_fates_53 (by decide) ?_
        refine lv_icmp_le (tgt := 68) F.1 F.2.1 dX11_fates_55 (by decide) (fun c9 => ?_) (fun c9 => ?_)
        · replace h := zi_t c9 h
          refine lv_iconst (v := (0 : Int32)) F.1 F.2.1 dX11_fates_68 (by decide) ?_
          refine lv_istore (lv' := [(6, .int (0 : Int32)), (5, .ref (B 5 a6)), (0, .ref (B 11 x0)), (1, .int x1), (2, .long x2), (4, .int x4)]) F.1 F.2.1 dX11_fates_69 hl (by decide) rfl (fun ls hl => ?_)
          exact lX11_fates_71 hst F hA hAd hlf hret hlocks htab hX  _ x2 x4 a6 (0 : Int32) (hw4 _ rfl) hcs1 hr (lv_sub hl [4, 5, 1, 0] rfl) h
        · replace h := zi_f c9 h
          obtain ⟨rfl, rfl⟩ := zret h
          exact zXt (text := "more than 64 fates") hlf F htab hX hlocks hl.1 (Or.inr rfl) zq_335 zq_8 (by decide +kernel) dX11_fates_58 dX11_fates_61 dX11_fates_62 dX11_fates_64 dX11_fates_67 (by decide) (by decide) hcs1.1 hcs1.2 hr hcs1.1 hcs1.2
      · replace h := zi_f c8 h
        exact bX11_fates_35 hst F hA hAd hlf hret hlocks htab hX   hcs1 hr (lv_sub hl [] rfl) h
end SX11_fates
set_option maxRecDepth 100000 in
theorem okX11_fates (l : Launch) (hlf : l.stackTraces = false) (D : va_G) (cy : Nat → ClassId) (B : Nat → Nat → Nat) (ids : List (Nat × Nat)) (hst : zSt B ids) (N : Nat) (x0 : Nat) (hx0 : (11, x0) ∈ ids) (x1 : Int32) (x2 : Int64) (x4 : Int32) {z : St} {r : (Int32 ⊕ Nat)} {z' : St} (hW : zWf ids z) (h : fX11_fates N x0 x1 x2 x4 z = some (r, z')) : zMX l yX11_fates (zws yX11_fates cX11_fates 7 (some .int)) rmX11_fates D cy B ids [.ref (B 11 x0), .int x1, .long x2, .int x4] (fun v => some (.int v)) (fun _ => True) r z z' :=
  zMX_of hst hW (by decide +kernel) (Nat.le_of_ble_eq_true rfl) (fun p e s m args below meth c A ls F hA hAd hret hlocks htab hX hr hl => bX11_fates_0 hst F hA hAd hlf hret hlocks htab hX x0 x1 x2 x4 hx0 (by decide) hr hl h)
abbrev rmX11_run : Room := { frames := 7, cells := 1, slots := 6, locals := 217 }
theorem hdX11_run : yX11_run.cls ≠ "java/lang/invoke/MethodHandle" ∧ yX11_run.cls ≠ "java/lang/invoke/VarHandle" ∧ (parseMethodDescriptor yX11_run.desc).map (fun d => d.parameters.length) = some 1 := by decide +kernel
theorem hroX11_run_X11_doAskings : rmX11_doAskings.frames + 1 ≤ rmX11_run.frames ∧ 8 + (11 + 11) + rmX11_doAskings.locals ≤ rmX11_run.locals := by decide
theorem hroX11_run_X11_doHost : rmX11_doHost.frames + 1 ≤ rmX11_run.frames ∧ 8 + (6 + 11) + rmX11_doHost.locals ≤ rmX11_run.locals := by decide
theorem hroX11_run_X11_doRouter : rmX11_doRouter.frames + 1 ≤ rmX11_run.frames ∧ 8 + (5 + 11) + rmX11_doRouter.locals ≤ rmX11_run.locals := by decide
theorem hroX11_run_X11_givePartialUp : rmX11_givePartialUp.frames + 1 ≤ rmX11_run.frames ∧ 8 + (3 + 11) + rmX11_givePartialUp.locals ≤ rmX11_run.locals := by decide
theorem hroX11_run_X11_letArrive : rmX11_letArrive.frames + 1 ≤ rmX11_run.frames ∧ 8 + (7 + 11) + rmX11_letArrive.locals ≤ rmX11_run.locals := by decide
section SX11_run
variable {p : Program} {l : Launch} {e : Env} {s : State} {m : MethodId} {args : Array Value} {below : List Frame} {meth : Method} {c : Code} {Q : State → Prop} {D : va_G} {cy : Nat → ClassId} {B : Nat → Nat → Nat} {ids : List (Nat × Nat)} {A : Nat → Prop}
def fX11_run_12 (N : Nat)   (z : St) : Option ((Int32 ⊕ Nat) × St) := some (.inr 1, z)
set_option maxHeartbeats 4000000 in
set_option maxRecDepth 100000 in
theorem bX11_run_12 (hst : zSt B ids) (F : zFx p m c cX11_run 5 s args RX11 D cy B ids A) (hA : ∀ q : Nat, s.heap.size ≤ q → A q) (hAd : ∀ q, zAd B ids s.heap.size q ↔ A q) (hlf : l.stackTraces = false) (hret : meth.sig.returnType = (some .int)) (hlocks : meth.locks = false) (htab : ∀ x ∈ c.exceptionTable.toList, False) (hX : zXK A s s.heap) {r : (Int32 ⊕ Nat)} {z' : St} {N : Nat}    {cells slots : Nat} (hcs1 : cells + 1 ≤ rmX11_run.cells ∧ slots + 6 ≤ rmX11_run.slots) {z : St} {H : Heap} {locs : List Loc} {ls : Array Slot} (hr : zRep D cy B ids A s.heap z H locs) (hl : lv_has ls 5 []) (h : fX11_run_12 N z = some (r, z')) : W p l e rmX11_run s m args below meth c H locs cells slots (vx_MQ below (zQX D cy B ids (fun v => some (.int v)) (fun _ => True) r z' A) (zXC D cy B ids r z' A) args s rmX11_run.cells rmX11_run.slots A) (F0 m 12 ls []) := by
  unfold fX11_run_12 at h
  have hcs0 := zcs_0 hcs1
  obtain ⟨rfl, rfl⟩ := zret h
  exact zXt (text := "ticks is not 1 .. 1000") hlf F htab hX hlocks hl.1 (Or.inl rfl) zq_870 zq_22 (by decide +kernel) dX11_run_12 dX11_run_15 dX11_run_16 dX11_run_18 dX11_run_21 (by decide) (by decide) hcs1.1 hcs1.2 hr hcs1.1 hcs1.2
def fX11_run_117 (N : Nat) (K45 : Nat → Int32 → Int32 → St → Option ((Int32 ⊕ Nat) × St)) (K66 : Nat → Int32 → Int32 → Int32 → St → Option ((Int32 ⊕ Nat) × St)) (x0 : Nat) (x1 : Int32) (x2 : Int32) (x3 : Int32) (z : St) : Option ((Int32 ⊕ Nat) × St) := zl (x3 + 1) fun v1 => K66 x0 x1 x2 v1 z
set_option maxHeartbeats 4000000 in
set_option maxRecDepth 100000 in
theorem bX11_run_117 (hst : zSt B ids) (F : zFx p m c cX11_run 5 s args RX11 D cy B ids A) (hA : ∀ q : Nat, s.heap.size ≤ q → A q) (hAd : ∀ q, zAd B ids s.heap.size q ↔ A q) (hlf : l.stackTraces = false) (hret : meth.sig.returnType = (some .int)) (hlocks : meth.locks = false) (htab : ∀ x ∈ c.exceptionTable.toList, False) (hX : zXK A s s.heap) {r : (Int32 ⊕ Nat)} {z' : St} {N : Nat} {K45 : Nat → Int32 → Int32 → St → Option ((Int32 ⊕ Nat) × St)} {K66 : Nat → Int32 → Int32 → Int32 → St → Option ((Int32 ⊕ Nat) × St)} (hK45 : ∀ (x0 : Nat) (x1 : Int32) (x2 : Int32) (hx0 : (11, x0) ∈ ids) {cells slots : Nat} (hcs1 : cells + 1 ≤ rmX11_run.cells ∧ slots + 6 ≤ rmX11_run.slots) {z : St} {H : Heap} {locs : List Loc} {ls : Array Slot} (hr : zRep D cy B ids A s.heap z H locs) (hl : lv_has ls 5 [(0, .ref (B 11 x0)), (1, .int x1), (2, .int x2)]), K45 x0 x1 x2 z = some (r, z') → W p l e rmX11_run s m args below meth c H locs cells slots (vx_MQ below (zQX D cy B ids (fun v => some (.int v)) (fun _ => True) r z' A) (zXC D cy B ids r z' A) args s rmX11_run.cells rmX11_run.slots A) (F0 m 45 ls [])) (hK66 : ∀ (x0 : Nat) (x1 : Int32) (x2 : Int32) (x3 : Int32) (hx0 : (11, x0) ∈ ids) {cells slots : Nat} (hcs1 : cells + 1 ≤ rmX11_run.cells ∧ slots + 6 ≤ rmX11_run.slots) {z : St} {H : Heap} {locs : List Loc} {ls : Array Slot} (hr : zRep D cy B ids A s.heap z H locs) (hl : lv_has ls 5 [(0, .ref (B 11 x0)), (1, .int x1), (2, .int x2), (3, .int x3)]), K66 x0 x1 x2 x3 z = some (r, z') → W p l e rmX11_run s m args below meth c H locs cells slots (vx_MQ below (zQX D cy B ids (fun v => some (.int v)) (fun _ => True) r z' A) (zXC D cy B ids r z' A) args s rmX11_run.cells rmX11_run.slots A) (F0 m 66 ls [])) (x0 : Nat) (x1 : Int32) (x2 : Int32) (x3 : Int32) (hx0 : (11, x0) ∈ ids) {cells slots : Nat} (hcs1 : cells + 1 ≤ rmX11_run.cells ∧ slots + 6 ≤ rmX11_run.slots) {z : St} {H : Heap} {locs : List Loc} {ls : Array Slot} (hr : zRep D cy B ids A s.heap z H locs) (hl : lv_has ls 5 [(0, .ref (B 11 x0)), (1, .int x1), (2, .int x2), (3, .int x3)]) (h : fX11_run_117 N K45 K66 x0 x1 x2 x3 z = some (r, z')) : W p l e rmX11_run s m args below meth c H locs cells slots (vx_MQ below (zQX D cy B ids (fun v => some (.int v)) (fun _ => True) r z' A) (zXC D cy B ids r z' A) args s rmX11_run.cells rmX11_run.slots A) (F0 m 117 ls []) := by
  unfold fX11_run_117 at h
  have hcs0 := zcs_0 hcs1
  obtain ⟨v1, ev1⟩ : ∃ y : Int32, y = (x3 + 1) := ⟨_, rfl⟩
  replace h := zl_sub ev1 h
  refine lv_iinc (v := v1) (lv' := [(3, .int v1), (0, .ref (B 11 x0)), (1, .int x1), (2, .int x2)]) F.1 F.2.1 dX11_run_117 hl (k := 3) rfl (by rw [ev1]; rfl) (by decide) rfl (fun ls hl => ?_)
  refine lv_goto (tgt := 66) F.1 F.2.1 dX11_run_120 (by decide) ?_
  exact hK66 x0 x1 x2 v1 hx0 hcs1 hr (lv_sub hl [1, 2, 3, 0] rfl) h
def fX11_run_66b (N : Nat) (K45 : Nat → Int32 → Int32 → St → Option ((Int32 ⊕ Nat) × St)) (K66 : Nat → Int32 → Int32 → Int32 → St → Option ((Int32 ⊕ Nat) × St)) (x0 : Nat) (x1 : Int32) (x2 : Int32) (x3 : Int32) (z : St) : Option ((Int32 ⊕ Nat) × St) := if (zgI z 11 3 x0) ≤ x3 then (zl (x2 + 1) fun v2 => K45 x0 x1 v2 z) else (zk x3 16 <| zl (zgQ z 140 x0 (Int32.toNatClampNeg x3)) fun y4 => zd y4 fun a5 => zc (fX11_doAskings N x0 a5 z) fun _ z7 => zc (fX11_givePartialUp N x0 a5 z7) fun _ z11 => if (zgI z11 1 1 a5) = 0 then (zc (fX11_doHost N x0 a5 z11) fun _ z16 => fX11_run_117 N K45 K66 x0 x1 x2 x3 z16) else (zc (fX11_doRouter N x0 a5 z11) fun _ z20 => fX11_run_117 N K45 K66 x0 x1 x2 x3 z20))
def fX11_run_66 (N : Nat) (K45 : Nat → Int32 → Int32 → St → Option ((Int32 ⊕ Nat) × St)) : Nat → Nat → Int32 → Int32 → Int32 → St → Option ((Int32 ⊕ Nat) × St)
  | 0 => fun _ _ _ _ _ => none
  | n + 1 => fX11_run_66b N K45 (fX11_run_66 N K45 n)
set_option maxHeartbeats 4000000 in
set_option maxRecDepth 100000 in
theorem bX11_run_66 (hst : zSt B ids) (F : zFx p m c cX11_run 5 s args RX11 D cy B ids A) (hA : ∀ q : Nat, s.heap.size ≤ q → A q) (hAd : ∀ q, zAd B ids s.heap.size q ↔ A q) (hlf : l.stackTraces = false) (hret : meth.sig.returnType = (some .int)) (hlocks : meth.locks = false) (htab : ∀ x ∈ c.exceptionTable.toList, False) (hX : zXK A s s.heap) {r : (Int32 ⊕ Nat)} {z' : St} {N : Nat} {K45 : Nat → Int32 → Int32 → St → Option ((Int32 ⊕ Nat) × St)} {K66 : Nat → Int32 → Int32 → Int32 → St → Option ((Int32 ⊕ Nat) × St)} (hK45 : ∀ (x0 : Nat) (x1 : Int32) (x2 : Int32) (hx0 : (11, x0) ∈ ids) {cells slots : Nat} (hcs1 : cells + 1 ≤ rmX11_run.cells ∧ slots + 6 ≤ rmX11_run.slots) {z : St} {H : Heap} {locs : List Loc} {ls : Array Slot} (hr : zRep D cy B ids A s.heap z H locs) (hl : lv_has ls 5 [(0, .ref (B 11 x0)), (1, .int x1), (2, .int x2)]), K45 x0 x1 x2 z = some (r, z') → W p l e rmX11_run s m args below meth c H locs cells slots (vx_MQ below (zQX D cy B ids (fun v => some (.int v)) (fun _ => True) r z' A) (zXC D cy B ids r z' A) args s rmX11_run.cells rmX11_run.slots A) (F0 m 45 ls [])) (hK66 : ∀ (x0 : Nat) (x1 : Int32) (x2 : Int32) (x3 : Int32) (hx0 : (11, x0) ∈ ids) {cells slots : Nat} (hcs1 : cells + 1 ≤ rmX11_run.cells ∧ slots + 6 ≤ rmX11_run.slots) {z : St} {H : Heap} {locs : List Loc} {ls : Array Slot} (hr : zRep D cy B ids A s.heap z H locs) (hl : lv_has ls 5 [(0, .ref (B 11 x0)), (1, .int x1), (2, .int x2), (3, .int x3)]), K66 x0 x1 x2 x3 z = some (r, z') → W p l e rmX11_run s m args below meth c H locs cells slots (vx_MQ below (zQX D cy B ids (fun v => some (.int v)) (fun _ => True) r z' A) (zXC D cy B ids r z' A) args s rmX11_run.cells rmX11_run.slots A) (F0 m 66 ls [])) (x0 : Nat) (x1 : Int32) (x2 : Int32) (x3 : Int32) (hx0 : (11, x0) ∈ ids) {cells slots : Nat} (hcs1 : cells + 1 ≤ rmX11_run.cells ∧ slots + 6 ≤ rmX11_run.slots) {z : St} {H : Heap} {locs : List Loc} {ls : Array Slot} (hr : zRep D cy B ids A s.heap z H locs) (hl : lv_has ls 5 [(0, .ref (B 11 x0)), (1, .int x1), (2, .int x2), (3, .int x3)]) (h : fX11_run_66b N K45 K66 x0 x1 x2 x3 z = some (r, z')) : W p l e rmX11_run s m args below meth c H locs cells slots (vx_MQ below (zQX D cy B ids (fun v => some (.int v)) (fun _ => True) r z' A) (zXC D cy B ids r z' A) args s rmX11_run.cells rmX11_run.slots A) (F0 m 66 ls []) := by
  unfold fX11_run_66b at h
  have hcs0 := zcs_0 hcs1
  refine lv_iload_n F.1 F.2.1 dX11_run_66 rfl (lv_at hl 3 rfl) ?_
  refine lv_aload_n F.1 F.2.1 dX11_run_67 rfl (lv_at hl 0 rfl) ?_
  refine gf11_61 F hx0 hr dX11_run_68 ?_
  refine lv_icmp_ge (tgt := 123) F.1 F.2.1 dX11_run_71 (by decide) (fun c1 => ?_) (fun c1 => ?_)
  · replace h := zi_t c1 h
    obtain ⟨v2, ev2⟩ : ∃ y : Int32, y = (x2 + 1) := ⟨_, rfl⟩
    replace h := zl_sub ev2 h
    refine lv_iinc (v := v2) (lv' := [(2, .int v2), (0, .ref (B 11 x0)), (1, .int x1), (3, .int x3)]) F.1 F.2.1 dX11_run_123 hl (k := 2) rfl (by rw [ev2]; rfl) (by decide) rfl (fun ls hl => ?_)
    refine lv_goto (tgt := 45) F.1 F.2.1 dX11_run_126 (by decide) ?_
    exact hK45 x0 x1 v2 hx0 hcs1 hr (lv_sub hl [1, 2, 0] rfl) h
  · replace h := zi_f c1 h
    refine lv_aload_n F.1 F.2.1 dX11_run_74 rfl (lv_at hl 0 rfl) ?_
    refine gf11_17 F hx0 hr dX11_run_75 ?_
    refine lv_iload_n F.1 F.2.1 dX11_run_78 rfl (lv_at hl 3 rfl) ?_
    replace h := zk_some h
    obtain ⟨c3, h⟩ := h
    refine zr_aaldv (k := 140) (by decide) rfl rfl (zlen_d (by decide)) F (zal_a F hx0 (j := 2) rfl) hr dX11_run_79 c3 (fun y4 ey4 => ?_)
    replace h := zl_sub ey4 h
    have hy4 := zal_q hr (zal_a F hx0 (j := 2) rfl) rfl ey4
    clear ey4
    refine zr_astore (lv' := [(4, va_rf (Option.map (B 1) y4)), (0, .ref (B 11 x0)), (1, .int x1), (2, .int x2), (3, .int x3)]) F.1 F.2.1 dX11_run_80 hl (by decide) rfl (fun ls hl => ?_)
    refine lv_aload_n F.1 F.2.1 dX11_run_82 rfl (lv_at hl 1 rfl) ?_
    refine zr_aload F.1 F.2.1 dX11_run_83 (lv_at hl 0 rfl) ?_
    replace h := zd_some h
    obtain ⟨a5, rfl, h⟩ := h
    replace h := zc_some h
    obtain ⟨r6, z7, hc8, h⟩ := h
    refine zr_callv (zrun_V (As := [.ref (B 1 a5)]) (rest := []) zq_1465 zq_1467 zs_X11_doAskings zq_1468 zq_1 hdX11_doAskings (by decide) (T := TX11) (N := 21) rfl (okX11_doAskings l D cy B ids hst N x0 hx0 a5 (hy4 _ rfl) hr.2.2 hc8) F hr hx0 hl.1 rfl (by decide) dX11_run_85 rfl rfl hroX11_run_X11_doAskings hcs0) F hA hr (fun H locs hw9 hr => ?_)
    clear hc8
    refine lv_aload_n F.1 F.2.1 dX11_run_88 rfl (lv_at hl 1 rfl) ?_
    refine lv_aload F.1 F.2.1 dX11_run_89 (lv_at hl 0 rfl) ?_
    replace h := zc_some h
    obtain ⟨r10, z11, hc12, h⟩ := h
    refine zr_callv (zrun_V (As := [.ref (B 1 a5)]) (rest := []) zq_1477 zq_1479 zs_X11_givePartialUp zq_1480 zq_1 hdX11_givePartialUp (by decide) (T := TX11) (N := 21) rfl (okX11_givePartialUp l D cy B ids hst N x0 hx0 a5 (hy4 _ rfl) hr.2.2 hc12) F hr hx0 hl.1 rfl (by decide) dX11_run_91 rfl rfl hroX11_run_X11_givePartialUp hcs0) F hA hr (fun H locs hw13 hr => ?_)
    clear hc12
    refine lv_aload F.1 F.2.1 dX11_run_94 (lv_at hl 0 rfl) ?_
    refine gf11_109 F (hy4 _ rfl) hr dX11_run_96 ?_
    refine lv_if_eq (tgt := 111) F.1 F.2.1 dX11_run_99 (by decide) (fun c14 => ?_) (fun c14 => ?_)
    · replace h := zi_t c14 h
      refine lv_aload_n F.1 F.2.1 dX11_run_111 rfl (lv_at hl 1 rfl) ?_
      refine lv_aload F.1 F.2.1 dX11_run_112 (lv_at hl 0 rfl) ?_
      replace h := zc_some h
      obtain ⟨r15, z16, hc17, h⟩ := h
      refine zr_callv (zrun_V (As := [.ref (B 1 a5)]) (rest := []) zq_1587 zq_1589 zs_X11_doHost zq_1590 zq_1 hdX11_doHost (by decide) (T := TX11) (N := 21) rfl (okX11_doHost l D cy B ids hst N x0 hx0 a5 (hy4 _ rfl) hr.2.2 hc17) F hr hx0 hl.1 rfl (by decide) dX11_run_114 rfl rfl hroX11_run_X11_doHost hcs0) F hA hr (fun H locs hw18 hr => ?_)
      clear hc17
      exact bX11_run_117 hst F hA hAd hlf hret hlocks htab hX hK45 hK66 x0 x1 x2 x3 hx0 hcs1 hr (lv_sub hl [1, 2, 3, 4] rfl) h
    · replace h := zi_f c14 h
      refine lv_aload_n F.1 F.2.1 dX11_run_102 rfl (lv_at hl 1 rfl) ?_
      refine lv_aload F.1 F.2.1 dX11_run_103 (lv_at hl 0 rfl) ?_
      replace h := zc_some h
      obtain ⟨r19, z20, hc21, h⟩ := h
      refine zr_callv (zrun_V (As := [.ref (B 1 a5)]) (rest := []) zq_1481 zq_1483 zs_X11_doRouter zq_1484 zq_1 hdX11_doRouter (by decide) (T := TX11) (N := 21) rfl (okX11_doRouter l D cy B ids hst N x0 hx0 a5 (hy4 _ rfl) hr.2.2 hc21) F hr hx0 hl.1 rfl (by decide) dX11_run_105 rfl rfl hroX11_run_X11_doRouter hcs0) F hA hr (fun H locs hw22 hr => ?_)
      clear hc21
      refine lv_goto (tgt := 117) F.1 F.2.1 dX11_run_108 (by decide) ?_
      exact bX11_run_117 hst F hA hAd hlf hret hlocks htab hX hK45 hK66 x0 x1 x2 x3 hx0 hcs1 hr (lv_sub hl [1, 2, 3, 4] rfl) h
theorem lX11_run_66 (hst : zSt B ids) (F : zFx p m c cX11_run 5 s args RX11 D cy B ids A) (hA : ∀ q : Nat, s.heap.size ≤ q → A q) (hAd : ∀ q, zAd B ids s.heap.size q ↔ A q) (hlf : l.stackTraces = false) (hret : meth.sig.returnType = (some .int)) (hlocks : meth.locks = false) (htab : ∀ x ∈ c.exceptionTable.toList, False) (hX : zXK A s s.heap) {r : (Int32 ⊕ Nat)} {z' : St} {N : Nat} {K45 : Nat → Int32 → Int32 → St → Option ((Int32 ⊕ Nat) × St)} (hK45 : ∀ (x0 : Nat) (x1 : Int32) (x2 : Int32) (hx0 : (11, x0) ∈ ids) {cells slots : Nat} (hcs1 : cells + 1 ≤ rmX11_run.cells ∧ slots + 6 ≤ rmX11_run.slots) {z : St} {H : Heap} {locs : List Loc} {ls : Array Slot} (hr : zRep D cy B ids A s.heap z H locs) (hl : lv_has ls 5 [(0, .ref (B 11 x0)), (1, .int x1), (2, .int x2)]), K45 x0 x1 x2 z = some (r, z') → W p l e rmX11_run s m args below meth c H locs cells slots (vx_MQ below (zQX D cy B ids (fun v => some (.int v)) (fun _ => True) r z' A) (zXC D cy B ids r z' A) args s rmX11_run.cells rmX11_run.slots A) (F0 m 45 ls [])) : ∀ (n : Nat) (x0 : Nat) (x1 : Int32) (x2 : Int32) (x3 : Int32) (hx0 : (11, x0) ∈ ids) {cells slots : Nat} (hcs1 : cells + 1 ≤ rmX11_run.cells ∧ slots + 6 ≤ rmX11_run.slots) {z : St} {H : Heap} {locs : List Loc} {ls : Array Slot} (hr : zRep D cy B ids A s.heap z H locs) (hl : lv_has ls 5 [(0, .ref (B 11 x0)), (1, .int x1), (2, .int x2), (3, .int x3)]), fX11_run_66 N K45 n x0 x1 x2 x3 z = some (r, z') → W p l e rmX11_run s m args below meth c H locs cells slots (vx_MQ below (zQX D cy B ids (fun v => some (.int v)) (fun _ => True) r z' A) (zXC D cy B ids r z' A) args s rmX11_run.cells rmX11_run.slots A) (F0 m 66 ls []) := by
  intro n
  induction n with
  | zero => intro x0 x1 x2 x3 hx0 cells slots hcs1 z H locs ls hr hl h; cases h
  | succ n ih => intro x0 x1 x2 x3 hx0 cells slots hcs1 z H locs ls hr hl h; exact bX11_run_66 hst F hA hAd hlf hret hlocks htab hX hK45 ih x0 x1 x2 x3 hx0 hcs1 hr hl h
def fX11_run_45b (N : Nat) (K45 : Nat → Int32 → Int32 → St → Option ((Int32 ⊕ Nat) × St)) (x0 : Nat) (x1 : Int32) (x2 : Int32) (z : St) : Option ((Int32 ⊕ Nat) × St) := if x1 ≤ x2 then (some (.inl (zgI z 11 4 x0), z)) else (zl (zsI z 11 4 x0 ((zgI z 11 4 x0) + (1 : Int32))) fun z2 => zc (fX11_letArrive N x0 z2) fun _ z4 => fX11_run_66 N K45 N x0 x1 x2 (0 : Int32) z4)
def fX11_run_45 (N : Nat)  : Nat → Nat → Int32 → Int32 → St → Option ((Int32 ⊕ Nat) × St)
  | 0 => fun _ _ _ _ => none
  | n + 1 => fX11_run_45b N (fX11_run_45 N  n)
set_option maxHeartbeats 4000000 in
set_option maxRecDepth 100000 in
theorem bX11_run_45 (hst : zSt B ids) (F : zFx p m c cX11_run 5 s args RX11 D cy B ids A) (hA : ∀ q : Nat, s.heap.size ≤ q → A q) (hAd : ∀ q, zAd B ids s.heap.size q ↔ A q) (hlf : l.stackTraces = false) (hret : meth.sig.returnType = (some .int)) (hlocks : meth.locks = false) (htab : ∀ x ∈ c.exceptionTable.toList, False) (hX : zXK A s s.heap) {r : (Int32 ⊕ Nat)} {z' : St} {N : Nat} {K45 : Nat → Int32 → Int32 → St → Option ((Int32 ⊕ Nat) × St)} (hK45 : ∀ (x0 : Nat) (x1 : Int32) (x2 : Int32) (hx0 : (11, x0) ∈ ids) {cells slots : Nat} (hcs1 : cells + 1 ≤ rmX11_run.cells ∧ slots + 6 ≤ rmX11_run.slots) {z : St} {H : Heap} {locs : List Loc} {ls : Array Slot} (hr : zRep D cy B ids A s.heap z H locs) (hl : lv_has ls 5 [(0, .ref (B 11 x0)), (1, .int x1), (2, .int x2)]), K45 x0 x1 x2 z = some (r, z') → W p l e rmX11_run s m args below meth c H locs cells slots (vx_MQ below (zQX D cy B ids (fun v => some (.int v)) (fun _ => True) r z' A) (zXC D cy B ids r z' A) args s rmX11_run.cells rmX11_run.slots A) (F0 m 45 ls [])) (x0 : Nat) (x1 : Int32) (x2 : Int32) (hx0 : (11, x0) ∈ ids) {cells slots : Nat} (hcs1 : cells + 1 ≤ rmX11_run.cells ∧ slots + 6 ≤ rmX11_run.slots) {z : St} {H : Heap} {locs : List Loc} {ls : Array Slot} (hr : zRep D cy B ids A s.heap z H locs) (hl : lv_has ls 5 [(0, .ref (B 11 x0)), (1, .int x1), (2, .int x2)]) (h : fX11_run_45b N K45 x0 x1 x2 z = some (r, z')) : W p l e rmX11_run s m args below meth c H locs cells slots (vx_MQ below (zQX D cy B ids (fun v => some (.int v)) (fun _ => True) r z' A) (zXC D cy B ids r z' A) args s rmX11_run.cells rmX11_run.slots A) (F0 m 45 ls []) := by
  unfold fX11_run_45b at h
  have hcs0 := zcs_0 hcs1
  refine lv_iload_n F.1 F.2.1 dX11_run_45 rfl (lv_at hl 2 rfl) ?_
  refine lv_iload_n F.1 F.2.1 dX11_run_46 rfl (lv_at hl 1 rfl) ?_
  refine lv_icmp_ge (tgt := 129) F.1 F.2.1 dX11_run_47 (by decide) (fun c1 => ?_) (fun c1 => ?_)
  · replace h := zi_t c1 h
    refine lv_aload_n F.1 F.2.1 dX11_run_129 rfl (lv_at hl 0 rfl) ?_
    refine gf11_176 F hx0 hr dX11_run_130 ?_
    obtain ⟨rfl, rfl⟩ := zret h
    exact zXe_i F hret hlocks dX11_run_133 hr hcs0.1 hcs0.2
  · replace h := zi_f c1 h
    refine lv_aload_n F.1 F.2.1 dX11_run_50 rfl (lv_at hl 0 rfl) ?_
    refine lv_dup F.1 F.2.1 dX11_run_51 rfl ?_
    refine gf11_176 F hx0 hr dX11_run_52 ?_
    refine lv_iconst (v := (1 : Int32)) F.1 F.2.1 dX11_run_55 (by decide) ?_
    refine lv_iadd F.1 F.2.1 dX11_run_56 ?_
    refine pf11_176 F hx0 hr dX11_run_57 ((zgI z 11 4 x0) + (1 : Int32)) (fun H locs z2 ez2 hr => ?_)
    replace h := zl_sub ez2 h
    clear ez2
    refine lv_aload_n F.1 F.2.1 dX11_run_60 rfl (lv_at hl 0 rfl) ?_
    replace h := zc_some h
    obtain ⟨r3, z4, hc5, h⟩ := h
    refine zr_callv (zrun_V (As := []) (rest := []) zq_1035 zq_1037 zs_X11_letArrive zq_1038 zq_1 hdX11_letArrive (by decide) (T := TX11) (N := 21) rfl (okX11_letArrive l D cy B ids hst N x0 hx0 hr.2.2 hc5) F hr hx0 hl.1 rfl (by decide) dX11_run_61 rfl rfl hroX11_run_X11_letArrive hcs0) F hA hr (fun H locs hw6 hr => ?_)
    clear hc5
    refine lv_iconst (v := (0 : Int32)) F.1 F.2.1 dX11_run_64 (by decide) ?_
    refine lv_istore_n (lv' := [(3, .int (0 : Int32)), (0, .ref (B 11 x0)), (1, .int x1), (2, .int x2)]) F.1 F.2.1 dX11_run_65 rfl hl (by decide) rfl (fun ls hl => ?_)
    exact lX11_run_66 hst F hA hAd hlf hret hlocks htab hX hK45 _ x0 x1 x2 (0 : Int32) hx0 hcs1 hr (lv_sub hl [1, 2, 3, 0] rfl) h
theorem lX11_run_45 (hst : zSt B ids) (F : zFx p m c cX11_run 5 s args RX11 D cy B ids A) (hA : ∀ q : Nat, s.heap.size ≤ q → A q) (hAd : ∀ q, zAd B ids s.heap.size q ↔ A q) (hlf : l.stackTraces = false) (hret : meth.sig.returnType = (some .int)) (hlocks : meth.locks = false) (htab : ∀ x ∈ c.exceptionTable.toList, False) (hX : zXK A s s.heap) {r : (Int32 ⊕ Nat)} {z' : St} {N : Nat}  : ∀ (n : Nat) (x0 : Nat) (x1 : Int32) (x2 : Int32) (hx0 : (11, x0) ∈ ids) {cells slots : Nat} (hcs1 : cells + 1 ≤ rmX11_run.cells ∧ slots + 6 ≤ rmX11_run.slots) {z : St} {H : Heap} {locs : List Loc} {ls : Array Slot} (hr : zRep D cy B ids A s.heap z H locs) (hl : lv_has ls 5 [(0, .ref (B 11 x0)), (1, .int x1), (2, .int x2)]), fX11_run_45 N  n x0 x1 x2 z = some (r, z') → W p l e rmX11_run s m args below meth c H locs cells slots (vx_MQ below (zQX D cy B ids (fun v => some (.int v)) (fun _ => True) r z' A) (zXC D cy B ids r z' A) args s rmX11_run.cells rmX11_run.slots A) (F0 m 45 ls []) := by
  intro n
  induction n with
  | zero => intro x0 x1 x2 hx0 cells slots hcs1 z H locs ls hr hl h; cases h
  | succ n ih => intro x0 x1 x2 hx0 cells slots hcs1 z H locs ls hr hl h; exact bX11_run_45 hst F hA hAd hlf hret hlocks htab hX ih x0 x1 x2 hx0 hcs1 hr hl h
def fX11_run (N : Nat)  (x0 : Nat) (x1 : Int32) (z : St) : Option ((Int32 ⊕ Nat) × St) := if x1 < (1 : Int32) then (fX11_run_12 N z) else (if x1 ≤ (1000 : Int32) then (if ((zgI z 11 4 x0) + x1) ≤ (400000 : Int32) then (fX11_run_45 N N x0 x1 (0 : Int32) z) else (some (.inr 2, z))) else (fX11_run_12 N z))
set_option maxHeartbeats 4000000 in
set_option maxRecDepth 100000 in
theorem bX11_run_0 (hst : zSt B ids) (F : zFx p m c cX11_run 5 s args RX11 D cy B ids A) (hA : ∀ q : Nat, s.heap.size ≤ q → A q) (hAd : ∀ q, zAd B ids s.heap.size q ↔ A q) (hlf : l.stackTraces = false) (hret : meth.sig.returnType = (some .int)) (hlocks : meth.locks = false) (htab : ∀ x ∈ c.exceptionTable.toList, False) (hX : zXK A s s.heap) {r : (Int32 ⊕ Nat)} {z' : St} {N : Nat}  (x0 : Nat) (x1 : Int32) (hx0 : (11, x0) ∈ ids) {cells slots : Nat} (hcs1 : cells + 1 ≤ rmX11_run.cells ∧ slots + 6 ≤ rmX11_run.slots) {z : St} {H : Heap} {locs : List Loc} {ls : Array Slot} (hr : zRep D cy B ids A s.heap z H locs) (hl : lv_has ls 5 [(0, .ref (B 11 x0)), (1, .int x1)]) (h : fX11_run N x0 x1 z = some (r, z')) : W p l e rmX11_run s m args below meth c H locs cells slots (vx_MQ below (zQX D cy B ids (fun v => some (.int v)) (fun _ => True) r z' A) (zXC D cy B ids r z' A) args s rmX11_run.cells rmX11_run.slots A) (F0 m 0 ls []) := by
  unfold fX11_run at h
  have hcs0 := zcs_0 hcs1
  refine lv_iload_n F.1 F.2.1 dX11_run_0 rfl (lv_at hl 1 rfl) ?_
  refine lv_iconst (v := (1 : Int32)) F.1 F.2.1 dX11_run_1 (by decide) ?_
  refine lv_icmp_lt (tgt := 12) F.1 F.2.1 dX11_run_2 (by decide) (fun c1 => ?_) (fun c1 => ?_)
  · replace h := zi_t c1 h
    exact bX11_run_12 hst F hA hAd hlf hret hlocks htab hX   hcs1 hr (lv_sub hl [] rfl) h
  · replace h := zi_f c1 h
    refine lv_iload_n F.1 F.2.1 dX11_run_5 rfl (lv_at hl 1 rfl) ?_
    refine lv_sipush (v := (1000 : Int32)) F.1 F.2.1 dX11_run_6 (by decide) ?_
    refine lv_icmp_le (tgt := 22) F.1 F.2.1 dX11_run_9 (by decide) (fun c2 => ?_) (fun c2 => ?_)
    · replace h := zi_t c2 h
      refine lv_aload_n F.1 F.2.1 dX11_run_22 rfl (lv_at hl 0 rfl) ?_
      refine gf11_176 F hx0 hr dX11_run_23 ?_
      refine lv_iload_n F.1 F.2.1 dX11_run_26 rfl (lv_at hl 1 rfl) ?_
      refine lv_iadd F.1 F.2.1 dX11_run_27 ?_
      refine lv_ldc (v := (400000)) F.1 F.2.1 F.2.2.2.1 (F.2.2.2.2.1 _ zq_1033) dX11_run_28 ?_
      refine lv_icmp_le (tgt := 43) F.1 F.2.1 dX11_run_30 (by decide) (fun c3 => ?_) (fun c3 => ?_)
      · replace h := zi_t c3 h
        refine lv_iconst (v := (0 : Int32)) F.1 F.2.1 dX11_run_43 (by decide) ?_
        refine lv_istore_n (lv' := [(2, .int (0 : Int32)), (0, .ref (B 11 x0)), (1, .int x1)]) F.1 F.2.1 dX11_run_44 rfl hl (by decide) rfl (fun ls hl => ?_)
        exact lX11_run_45 hst F hA hAd hlf hret hlocks htab hX  _ x0 x1 (0 : Int32) hx0 hcs1 hr (lv_sub hl [1, 2, 0] rfl) h
      · replace h := zi_f c3 h
        obtain ⟨rfl, rfl⟩ := zret h
        exact zXt (text := "the time would be more than 400000") hlf F htab hX hlocks hl.1 (Or.inr rfl) zq_335 zq_8 (by decide +kernel) dX11_run_33 dX11_run_36 dX11_run_37 dX11_run_39 dX11_run_42 (by decide) (by decide) hcs1.1 hcs1.2 hr hcs1.1 hcs1.2
    · replace h := zi_f c2 h
      exact bX11_run_12 hst F hA hAd hlf hret hlocks htab hX   hcs1 hr (lv_sub hl [] rfl) h
end SX11_run
set_option maxRecDepth 100000 in
theorem okX11_run (l : Launch) (hlf : l.stackTraces = false) (D : va_G) (cy : Nat → ClassId) (B : Nat → Nat → Nat) (ids : List (Nat × Nat)) (hst : zSt B ids) (N : Nat) (x0 : Nat) (hx0 : (11, x0) ∈ ids) (x1 : Int32) {z : St} {r : (Int32 ⊕ Nat)} {z' : St} (hW : zWf ids z) (h : fX11_run N x0 x1 z = some (r, z')) : zMX l yX11_run (zws yX11_run cX11_run 5 (some .int)) rmX11_run D cy B ids [.ref (B 11 x0), .int x1] (fun v => some (.int v)) (fun _ => True) r z z' :=
  zMX_of hst hW (by decide +kernel) (Nat.le_of_ble_eq_true rfl) (fun p e s m args below meth c A ls F hA hAd hret hlocks htab hX hr hl => bX11_run_0 hst F hA hAd hlf hret hlocks htab hX x0 x1 hx0 (by decide) hr hl h)
abbrev rmX11_listen : Room := { frames := 6, cells := 1, slots := 6, locals := 100 }
theorem hdX11_listen : yX11_listen.cls ≠ "java/lang/invoke/MethodHandle" ∧ yX11_listen.cls ≠ "java/lang/invoke/VarHandle" ∧ (parseMethodDescriptor yX11_listen.desc).map (fun d => d.parameters.length) = some 3 := by decide +kernel
theorem hroX11_listen_X11_hostOf : rmX11_hostOf.frames + 1 ≤ rmX11_listen.frames ∧ 8 + (3 + 11) + rmX11_hostOf.locals ≤ rmX11_listen.locals := by decide
theorem hroX11_listen_X11_stir : rmX11_stir.frames + 1 ≤ rmX11_listen.frames ∧ 8 + (1 + 11) + rmX11_stir.locals ≤ rmX11_listen.locals := by decide
theorem hroX11_listen_X1_listenerAt : rmX1_listenerAt.frames + 1 ≤ rmX11_listen.frames ∧ 8 + (3 + 11) + rmX1_listenerAt.locals ≤ rmX11_listen.locals := by decide
theorem hroX11_listen_X1_unusedDoor : rmX1_unusedDoor.frames + 1 ≤ rmX11_listen.frames ∧ 8 + (2 + 11) + rmX1_unusedDoor.locals ≤ rmX11_listen.locals := by decide
theorem hroX11_listen_X2_startListening : rmX2_startListening.frames + 1 ≤ rmX11_listen.frames ∧ 8 + (3 + 11) + rmX2_startListening.locals ≤ rmX11_listen.locals := by decide
section SX11_listen
variable {p : Program} {l : Launch} {e : Env} {s : State} {m : MethodId} {args : Array Value} {below : List Frame} {meth : Method} {c : Code} {Q : State → Prop} {D : va_G} {cy : Nat → ClassId} {B : Nat → Nat → Nat} {ids : List (Nat × Nat)} {A : Nat → Prop}
def fX11_listen_33 (N : Nat)   (z : St) : Option ((Int32 ⊕ Nat) × St) := some (.inr 1, z)
set_option maxHeartbeats 4000000 in
set_option maxRecDepth 100000 in
theorem bX11_listen_33 (hst : zSt B ids) (F : zFx p m c cX11_listen 6 s args RX11 D cy B ids A) (hA : ∀ q : Nat, s.heap.size ≤ q → A q) (hAd : ∀ q, zAd B ids s.heap.size q ↔ A q) (hlf : l.stackTraces = false) (hret : meth.sig.returnType = (some .int)) (hlocks : meth.locks = false) (htab : ∀ x ∈ c.exceptionTable.toList, False) (hX : zXK A s s.heap) {r : (Int32 ⊕ Nat)} {z' : St} {N : Nat}    {cells slots : Nat} (hcs1 : cells + 1 ≤ rmX11_listen.cells ∧ slots + 6 ≤ rmX11_listen.slots) {z : St} {H : Heap} {locs : List Loc} {ls : Array Slot} (hr : zRep D cy B ids A s.heap z H locs) (hl : lv_has ls 6 []) (h : fX11_listen_33 N z = some (r, z')) : W p l e rmX11_listen s m args below meth c H locs cells slots (vx_MQ below (zQX D cy B ids (fun v => some (.int v)) (fun _ => True) r z' A) (zXC D cy B ids r z' A) args s rmX11_listen.cells rmX11_listen.slots A) (F0 m 33 ls []) := by
  unfold fX11_listen_33 at h
  have hcs0 := zcs_0 hcs1
  obtain ⟨rfl, rfl⟩ := zret h
  exact zXt (text := "port is not 1 .. 49999") hlf F htab hX hlocks hl.1 (Or.inl rfl) zq_870 zq_22 (by decide +kernel) dX11_listen_33 dX11_listen_36 dX11_listen_37 dX11_listen_39 dX11_listen_42 (by decide) (by decide) hcs1.1 hcs1.2 hr hcs1.1 hcs1.2
def fX11_listen_53 (N : Nat)   (z : St) : Option ((Int32 ⊕ Nat) × St) := some (.inr 1, z)
set_option maxHeartbeats 4000000 in
set_option maxRecDepth 100000 in
theorem bX11_listen_53 (hst : zSt B ids) (F : zFx p m c cX11_listen 6 s args RX11 D cy B ids A) (hA : ∀ q : Nat, s.heap.size ≤ q → A q) (hAd : ∀ q, zAd B ids s.heap.size q ↔ A q) (hlf : l.stackTraces = false) (hret : meth.sig.returnType = (some .int)) (hlocks : meth.locks = false) (htab : ∀ x ∈ c.exceptionTable.toList, False) (hX : zXK A s s.heap) {r : (Int32 ⊕ Nat)} {z' : St} {N : Nat}    {cells slots : Nat} (hcs1 : cells + 1 ≤ rmX11_listen.cells ∧ slots + 6 ≤ rmX11_listen.slots) {z : St} {H : Heap} {locs : List Loc} {ls : Array Slot} (hr : zRep D cy B ids A s.heap z H locs) (hl : lv_has ls 6 []) (h : fX11_listen_53 N z = some (r, z')) : W p l e rmX11_listen s m args below meth c H locs cells slots (vx_MQ below (zQX D cy B ids (fun v => some (.int v)) (fun _ => True) r z' A) (zXC D cy B ids r z' A) args s rmX11_listen.cells rmX11_listen.slots A) (F0 m 53 ls []) := by
  unfold fX11_listen_53 at h
  have hcs0 := zcs_0 hcs1
  obtain ⟨rfl, rfl⟩ := zret h
  exact zXt (text := "backlog is not 1 .. 5") hlf F htab hX hlocks hl.1 (Or.inl rfl) zq_870 zq_22 (by decide +kernel) dX11_listen_53 dX11_listen_56 dX11_listen_57 dX11_listen_59 dX11_listen_62 (by decide) (by decide) hcs1.1 hcs1.2 hr hcs1.1 hcs1.2
def fX11_listen (N : Nat)  (x0 : Nat) (x1 : Int32) (x2 : Int32) (x3 : Int32) (z : St) : Option ((Int32 ⊕ Nat) × St) := zc (fX11_hostOf N x0 x1 z) fun r1 z2 => zo r1 (some (.inr 1, z2)) fun a6 => if x2 < (1 : Int32) then (fX11_listen_33 N z2) else (if x2 < (50000 : Int32) then (if x3 < (1 : Int32) then (fX11_listen_53 N z2) else (if x3 ≤ (5 : Int32) then (zc (fX1_unusedDoor N a6 z2) fun r11 z12 => if 0 ≤ r11 then (zc (fX1_listenerAt N a6 x2 z12) fun r16 z17 => if r16 < 0 then (zk r11 (zlen z17 119 a6) <| zl (zgQ z17 119 a6 (Int32.toNatClampNeg r11)) fun y22 => zd y22 fun a23 => zc (fX2_startListening N a23 x2 x3 z17) fun _ z25 => zc (fX11_stir N x0 z25) fun _ z29 => some (.inl r11, z29)) else (some (.inr 2, z17))) else (some (.inr 2, z12))) else (fX11_listen_53 N z2))) else (fX11_listen_33 N z2))
set_option maxHeartbeats 4000000 in
set_option maxRecDepth 100000 in
theorem bX11_listen_0 (hst : zSt B ids) (F : zFx p m c cX11_listen 6 s args RX11 D cy B ids A) (hA : ∀ q : Nat, s.heap.size ≤ q → A q) (hAd : ∀ q, zAd B ids s.heap.size q ↔ A q) (hlf : l.stackTraces = false) (hret : meth.sig.returnType = (some .int)) (hlocks : meth.locks = false) (htab : ∀ x ∈ c.exceptionTable.toList, False) (hX : zXK A s s.heap) {r : (Int32 ⊕ Nat)} {z' : St} {N : Nat}  (x0 : Nat) (x1 : Int32) (x2 : Int32) (x3 : Int32) (hx0 : (11, x0) ∈ ids) {cells slots : Nat} (hcs1 : cells + 1 ≤ rmX11_listen.cells ∧ slots + 6 ≤ rmX11_listen.slots) {z : St} {H : Heap} {locs : List Loc} {ls : Array Slot} (hr : zRep D cy B ids A s.heap z H locs) (hl : lv_has ls 6 [(0, .ref (B 11 x0)), (1, .int x1), (2, .int x2), (3, .int x3)]) (h : fX11_listen N x0 x1 x2 x3 z = some (r, z')) : W p l e rmX11_listen s m args below meth c H locs cells slots (vx_MQ below (zQX D cy B ids (fun v => some (.int v)) (fun _ => True) r z' A) (zXC D cy B ids r z' A) args s rmX11_listen.cells rmX11_listen.slots A) (F0 m 0 ls []) := by
  unfold fX11_listen at h
  have hcs0 := zcs_0 hcs1
  refine lv_aload_n F.1 F.2.1 dX11_listen_0 rfl (lv_at hl 0 rfl) ?_
  refine lv_iload_n F.1 F.2.1 dX11_listen_1 rfl (lv_at hl 1 rfl) ?_
  replace h := zc_some h
  obtain ⟨r1, z2, hc3, h⟩ := h
  refine zr_callr (zrun_V (As := [.int x1]) (rest := []) zq_1684 zq_1686 zs_X11_hostOf zq_1687 zq_1 hdX11_hostOf (by decide) (T := TX11) (N := 21) rfl (okX11_hostOf l D cy B ids hst N x0 hx0 x1  hr.2.2 hc3) F hr hx0 hl.1 rfl (by decide) dX11_listen_2 rfl rfl hroX11_listen_X11_hostOf hcs0) F hA hr (fun H locs hw4 hr => ?_)
  clear hc3
  refine zr_astore (lv' := [(4, va_rf (Option.map (B 1) r1)), (0, .ref (B 11 x0)), (1, .int x1), (2, .int x2), (3, .int x3)]) F.1 F.2.1 dX11_listen_5 hl (by decide) rfl (fun ls hl => ?_)
  refine zr_aload F.1 F.2.1 dX11_listen_7 (lv_at hl 0 rfl) ?_
  refine zr_ifnonnull (tgt := 22) F.1 F.2.1 dX11_listen_9 (by decide) (fun e5 => ?_) (fun a6 e5 => ?_)
  · replace h := zo_n e5 h
    subst e5
    obtain ⟨rfl, rfl⟩ := zret h
    exact zXt (text := "no such host") hlf F htab hX hlocks hl.1 (Or.inl rfl) zq_870 zq_22 (by decide +kernel) dX11_listen_12 dX11_listen_15 dX11_listen_16 dX11_listen_18 dX11_listen_21 (by decide) (by decide) hcs1.1 hcs1.2 hr hcs1.1 hcs1.2
  · replace h := zo_s e5 h
    subst e5
    refine lv_iload_n F.1 F.2.1 dX11_listen_22 rfl (lv_at hl 3 rfl) ?_
    refine lv_iconst (v := (1 : Int32)) F.1 F.2.1 dX11_listen_23 (by decide) ?_
    refine lv_icmp_lt (tgt := 33) F.1 F.2.1 dX11_listen_24 (by decide) (fun c7 => ?_) (fun c7 => ?_)
    · replace h := zi_t c7 h
      exact bX11_listen_33 hst F hA hAd hlf hret hlocks htab hX   hcs1 hr (lv_sub hl [] rfl) h
    · replace h := zi_f c7 h
      refine lv_iload_n F.1 F.2.1 dX11_listen_27 rfl (lv_at hl 3 rfl) ?_
      refine lv_ldc (v := (50000)) F.1 F.2.1 F.2.2.2.1 (F.2.2.2.2.1 _ zq_1689) dX11_listen_28 ?_
      refine lv_icmp_lt (tgt := 43) F.1 F.2.1 dX11_listen_30 (by decide) (fun c8 => ?_) (fun c8 => ?_)
      · replace h := zi_t c8 h
        refine lv_iload_n F.1 F.2.1 dX11_listen_43 rfl (lv_at hl 4 rfl) ?_
        refine lv_iconst (v := (1 : Int32)) F.1 F.2.1 dX11_listen_44 (by decide) ?_
        refine lv_icmp_lt (tgt := 53) F.1 F.2.1 dX11_listen_45 (by decide) (fun c9 => ?_) (fun c9 => ?_)
        · replace h := zi_t c9 h
          exact bX11_listen_53 hst F hA hAd hlf hret hlocks htab hX   hcs1 hr (lv_sub hl [] rfl) h
        · replace h := zi_f c9 h
          refine lv_iload_n F.1 F.2.1 dX11_listen_48 rfl (lv_at hl 4 rfl) ?_
          refine lv_iconst (v := (5 : Int32)) F.1 F.2.1 dX11_listen_49 (by decide) ?_
          refine lv_icmp_le (tgt := 63) F.1 F.2.1 dX11_listen_50 (by decide) (fun c10 => ?_) (fun c10 => ?_)
          · replace h := zi_t c10 h
            refine lv_aload F.1 F.2.1 dX11_listen_63 (lv_at hl 0 rfl) ?_
            replace h := zc_some h
            obtain ⟨r11, z12, hc13, h⟩ := h
            refine zr_calli (zrun_VN (As := []) (rest := []) zn_1692 zq_1239 zs_X1_unusedDoor zq_1240 zq_9 hdX1_unusedDoor (by decide) (T := TX1) (N := 13) rfl (okX1_unusedDoor l D cy B ids hst N a6 (hw4 _ rfl) hr.2.2 hc13) F hr (hw4 _ rfl) hl.1 rfl (by decide) dX11_listen_65 rfl rfl hroX11_listen_X1_unusedDoor hcs0) F hA hr (fun H locs hw14 hr => ?_)
            clear hc13
            refine lv_istore (lv' := [(5, .int r11), (4, .ref (B 1 a6)), (0, .ref (B 11 x0)), (1, .int x1), (2, .int x2), (3, .int x3)]) F.1 F.2.1 dX11_listen_68 hl (by decide) rfl (fun ls hl => ?_)
            refine lv_iload F.1 F.2.1 dX11_listen_70 (lv_at hl 0 rfl) ?_
            refine lv_if_ge (tgt := 85) F.1 F.2.1 dX11_listen_72 (by decide) (fun c15 => ?_) (fun c15 => ?_)
            · replace h := zi_t c15 h
              refine lv_aload F.1 F.2.1 dX11_listen_85 (lv_at hl 1 rfl) ?_
              refine lv_iload_n F.1 F.2.1 dX11_listen_87 rfl (lv_at hl 4 rfl) ?_
              replace h := zc_some h
              obtain ⟨r16, z17, hc18, h⟩ := h
              refine zr_calli (zrun_VN (As := [.int x2]) (rest := []) zn_1229 zq_1231 zs_X1_listenerAt zq_1232 zq_9 hdX1_listenerAt (by decide) (T := TX1) (N := 13) rfl (okX1_listenerAt l D cy B ids hst N a6 (hw4 _ rfl) x2  hr.2.2 hc18) F hr (hw4 _ rfl) hl.1 rfl (by decide) dX11_listen_88 rfl rfl hroX11_listen_X1_listenerAt hcs0) F hA hr (fun H locs hw19 hr => ?_)
              clear hc18
              refine lv_if_lt (tgt := 104) F.1 F.2.1 dX11_listen_91 (by decide) (fun c20 => ?_) (fun c20 => ?_)
              · replace h := zi_t c20 h
                refine lv_aload F.1 F.2.1 dX11_listen_104 (lv_at hl 1 rfl) ?_
                refine gf11_220 F (hw4 _ rfl) hr dX11_listen_106 ?_
                refine lv_iload F.1 F.2.1 dX11_listen_109 (lv_at hl 0 rfl) ?_
                replace h := zk_some h
                obtain ⟨c21, h⟩ := h
                refine zr_aaldv (k := 119) (by decide) rfl rfl rfl F (zal_a F (hw4 _ rfl) (j := 11) rfl) hr dX11_listen_111 c21 (fun y22 ey22 => ?_)
                replace h := zl_sub ey22 h
                have hy22 := zal_q hr (zal_a F (hw4 _ rfl) (j := 11) rfl) rfl ey22
                clear ey22
                refine lv_iload_n F.1 F.2.1 dX11_listen_112 rfl (lv_at hl 4 rfl) ?_
                refine lv_iload_n F.1 F.2.1 dX11_listen_113 rfl (lv_at hl 5 rfl) ?_
                replace h := zd_some h
                obtain ⟨a23, rfl, h⟩ := h
                replace h := zc_some h
                obtain ⟨r24, z25, hc26, h⟩ := h
                refine zr_callv (zrun_VN (As := [.int x2, .int x3]) (rest := []) zn_1695 zq_1697 zs_X2_startListening zq_1698 zq_12 hdX2_startListening (by decide) (T := TX2) (N := 13) rfl (okX2_startListening l D cy B ids hst N a23 (hy22 _ rfl) x2  x3  hr.2.2 hc26) F hr (hy22 _ rfl) hl.1 rfl (by decide) dX11_listen_114 rfl rfl hroX11_listen_X2_startListening hcs0) F hA hr (fun H locs hw27 hr => ?_)
                clear hc26
                refine lv_aload_n F.1 F.2.1 dX11_listen_117 rfl (lv_at hl 2 rfl) ?_
                replace h := zc_some h
                obtain ⟨r28, z29, hc30, h⟩ := h
                refine zr_callv (zrun_V (As := []) (rest := []) zq_858 zq_860 zs_X11_stir zq_861 zq_1 hdX11_stir (by decide) (T := TX11) (N := 21) rfl (okX11_stir l D cy B ids hst N x0 hx0 hr.2.2 hc30) F hr hx0 hl.1 rfl (by decide) dX11_listen_118 rfl rfl hroX11_listen_X11_stir hcs0) F hA hr (fun H locs hw31 hr => ?_)
                clear hc30
                refine lv_iload F.1 F.2.1 dX11_listen_121 (lv_at hl 0 rfl) ?_
                obtain ⟨rfl, rfl⟩ := zret h
                exact zXe_i F hret hlocks dX11_listen_123 hr hcs0.1 hcs0.2
              · replace h := zi_f c20 h
                obtain ⟨rfl, rfl⟩ := zret h
                exact zXt (text := "one listens there") hlf F htab hX hlocks hl.1 (Or.inr rfl) zq_335 zq_8 (by decide +kernel) dX11_listen_94 dX11_listen_97 dX11_listen_98 dX11_listen_100 dX11_listen_103 (by decide) (by decide) hcs1.1 hcs1.2 hr hcs1.1 hcs1.2
            · replace h := zi_f c15 h
              obtain ⟨rfl, rfl⟩ := zret h
              exact zXt (text := "no door is free") hlf F htab hX hlocks hl.1 (Or.inr rfl) zq_335 zq_8 (by decide +kernel) dX11_listen_75 dX11_listen_78 dX11_listen_79 dX11_listen_81 dX11_listen_84 (by decide) (by decide) hcs1.1 hcs1.2 hr hcs1.1 hcs1.2
          · replace h := zi_f c10 h
            exact bX11_listen_53 hst F hA hAd hlf hret hlocks htab hX   hcs1 hr (lv_sub hl [] rfl) h
      · replace h := zi_f c8 h
        exact bX11_listen_33 hst F hA hAd hlf hret hlocks htab hX   hcs1 hr (lv_sub hl [] rfl) h
end SX11_listen
set_option maxRecDepth 100000 in
theorem okX11_listen (l : Launch) (hlf : l.stackTraces = false) (D : va_G) (cy : Nat → ClassId) (B : Nat → Nat → Nat) (ids : List (Nat × Nat)) (hst : zSt B ids) (N : Nat) (x0 : Nat) (hx0 : (11, x0) ∈ ids) (x1 : Int32) (x2 : Int32) (x3 : Int32) {z : St} {r : (Int32 ⊕ Nat)} {z' : St} (hW : zWf ids z) (h : fX11_listen N x0 x1 x2 x3 z = some (r, z')) : zMX l yX11_listen (zws yX11_listen cX11_listen 6 (some .int)) rmX11_listen D cy B ids [.ref (B 11 x0), .int x1, .int x2, .int x3] (fun v => some (.int v)) (fun _ => True) r z z' :=
  zMX_of hst hW (by decide +kernel) (Nat.le_of_ble_eq_true rfl) (fun p e s m args below meth c A ls F hA hAd hret hlocks htab hX hr hl => bX11_listen_0 hst F hA hAd hlf hret hlocks htab hX x0 x1 x2 x3 hx0 (by decide) hr hl h)
abbrev rmX11_open : Room := { frames := 6, cells := 1, slots := 6, locals := 100 }
theorem hdX11_open : yX11_open.cls ≠ "java/lang/invoke/MethodHandle" ∧ yX11_open.cls ≠ "java/lang/invoke/VarHandle" ∧ (parseMethodDescriptor yX11_open.desc).map (fun d => d.parameters.length) = some 3 := by decide +kernel
theorem hroX11_open_X11_firstNumber : rmX11_firstNumber.frames + 1 ≤ rmX11_open.frames ∧ 8 + (2 + 11) + rmX11_firstNumber.locals ≤ rmX11_open.locals := by decide
theorem hroX11_open_X11_hostOf : rmX11_hostOf.frames + 1 ≤ rmX11_open.frames ∧ 8 + (3 + 11) + rmX11_hostOf.locals ≤ rmX11_open.locals := by decide
theorem hroX11_open_X11_stir : rmX11_stir.frames + 1 ≤ rmX11_open.frames ∧ 8 + (1 + 11) + rmX11_stir.locals ≤ rmX11_open.locals := by decide
theorem hroX11_open_X1_hasAddress : rmX1_hasAddress.frames + 1 ≤ rmX11_open.frames ∧ 8 + (3 + 11) + rmX1_hasAddress.locals ≤ rmX11_open.locals := by decide
theorem hroX11_open_X1_unusedDoor : rmX1_unusedDoor.frames + 1 ≤ rmX11_open.frames ∧ 8 + (2 + 11) + rmX1_unusedDoor.locals ≤ rmX11_open.locals := by decide
theorem hroX11_open_X2_giveEnd : rmX2_giveEnd.frames + 1 ≤ rmX11_open.frames ∧ 8 + (4 + 11) + rmX2_giveEnd.locals ≤ rmX11_open.locals := by decide
theorem hroX11_open_X3_begin : rmX3_begin.frames + 1 ≤ rmX11_open.frames ∧ 8 + (4 + 11) + rmX3_begin.locals ≤ rmX11_open.locals := by decide
theorem hroX11_open_X3_startAsking : rmX3_startAsking.frames + 1 ≤ rmX11_open.frames ∧ 8 + (1 + 11) + rmX3_startAsking.locals ≤ rmX11_open.locals := by decide
section SX11_open
variable {p : Program} {l : Launch} {e : Env} {s : State} {m : MethodId} {args : Array Value} {below : List Frame} {meth : Method} {c : Code} {Q : State → Prop} {D : va_G} {cy : Nat → ClassId} {B : Nat → Nat → Nat} {ids : List (Nat × Nat)} {A : Nat → Prop}
def fX11_open_33 (N : Nat)   (z : St) : Option ((Int32 ⊕ Nat) × St) := some (.inr 1, z)
set_option maxHeartbeats 4000000 in
set_option maxRecDepth 100000 in
theorem bX11_open_33 (hst : zSt B ids) (F : zFx p m c cX11_open 8 s args RX11 D cy B ids A) (hA : ∀ q : Nat, s.heap.size ≤ q → A q) (hAd : ∀ q, zAd B ids s.heap.size q ↔ A q) (hlf : l.stackTraces = false) (hret : meth.sig.returnType = (some .int)) (hlocks : meth.locks = false) (htab : ∀ x ∈ c.exceptionTable.toList, False) (hX : zXK A s s.heap) {r : (Int32 ⊕ Nat)} {z' : St} {N : Nat}    {cells slots : Nat} (hcs1 : cells + 1 ≤ rmX11_open.cells ∧ slots + 6 ≤ rmX11_open.slots) {z : St} {H : Heap} {locs : List Loc} {ls : Array Slot} (hr : zRep D cy B ids A s.heap z H locs) (hl : lv_has ls 8 []) (h : fX11_open_33 N z = some (r, z')) : W p l e rmX11_open s m args below meth c H locs cells slots (vx_MQ below (zQX D cy B ids (fun v => some (.int v)) (fun _ => True) r z' A) (zXC D cy B ids r z' A) args s rmX11_open.cells rmX11_open.slots A) (F0 m 33 ls []) := by
  unfold fX11_open_33 at h
  have hcs0 := zcs_0 hcs1
  obtain ⟨rfl, rfl⟩ := zret h
  exact zXt (text := "port is not 1 .. 65535") hlf F htab hX hlocks hl.1 (Or.inl rfl) zq_870 zq_22 (by decide +kernel) dX11_open_33 dX11_open_36 dX11_open_37 dX11_open_39 dX11_open_42 (by decide) (by decide) hcs1.1 hcs1.2 hr hcs1.1 hcs1.2
def fX11_open (N : Nat)  (x0 : Nat) (x1 : Int32) (x2 : Int32) (x3 : Int32) (z : St) : Option ((Int32 ⊕ Nat) × St) := zc (fX11_hostOf N x0 x1 z) fun r1 z2 => zo r1 (some (.inr 1, z2)) fun a6 => if x3 < (1 : Int32) then (fX11_open_33 N z2) else (if x3 ≤ (65535 : Int32) then (zc (fX1_hasAddress N a6 x2 z2) fun r9 z10 => if r9 = 0 then (zc (fX1_unusedDoor N a6 z10) fun r14 z15 => if 0 ≤ r14 then (zk (0 : Int32) 6 <| zl (zgQ z15 112 a6 (Int32.toNatClampNeg (0 : Int32))) fun y20 => zo y20 (some (.inr 2, z15)) fun a22 => if ((50000 : Int32) + (zgI z15 1 12 a6)) ≤ (65535 : Int32) then (zk r14 (zlen z15 119 a6) <| zl (zgQ z15 119 a6 (Int32.toNatClampNeg r14)) fun y25 => zd y25 fun a26 => zc (fX2_giveEnd N a26 ((50000 : Int32) + (zgI z15 1 12 a6)) x2 x3 z15) fun _ z28 => zl (zsI z28 1 12 a6 ((zgI z28 1 12 a6) + (1 : Int32))) fun z31 => zl (zsI z31 11 7 x0 ((zgI z31 11 7 x0) + (1 : Int32))) fun z32 => zl (zgR z32 2 12 a26) fun y33 => zc (fX11_firstNumber N x0 a6 z32) fun r34 z35 => zl (zgR z35 8 1 a22) fun y38 => zd y38 fun a39 => zd y33 fun a40 => zc (fX3_begin N a40 r34 ((zgI z35 5 1 a39) - (40 : Int32)) (zgI z35 11 7 x0) z35) fun _ z42 => zl (zgR z42 2 12 a26) fun y45 => zd y45 fun a46 => zc (fX3_startAsking N a46 z42) fun _ z48 => zc (fX11_stir N x0 z48) fun _ z52 => some (.inl r14, z52)) else (some (.inr 2, z15))) else (some (.inr 2, z15))) else (some (.inr 1, z10))) else (fX11_open_33 N z2))
set_option maxHeartbeats 4000000 in
set_option maxRecDepth 100000 in
theorem bX11_open_0 (hst : zSt B ids) (F : zFx p m c cX11_open 8 s args RX11 D cy B ids A) (hA : ∀ q : Nat, s.heap.size ≤ q → A q) (hAd : ∀ q, zAd B ids s.heap.size q ↔ A q) (hlf : l.stackTraces = false) (hret : meth.sig.returnType = (some .int)) (hlocks : meth.locks = false) (htab : ∀ x ∈ c.exceptionTable.toList, False) (hX : zXK A s s.heap) {r : (Int32 ⊕ Nat)} {z' : St} {N : Nat}  (x0 : Nat) (x1 : Int32) (x2 : Int32) (x3 : Int32) (hx0 : (11, x0) ∈ ids) {cells slots : Nat} (hcs1 : cells + 1 ≤ rmX11_open.cells ∧ slots + 6 ≤ rmX11_open.slots) {z : St} {H : Heap} {locs : List Loc} {ls : Array Slot} (hr : zRep D cy B ids A s.heap z H locs) (hl : lv_has ls 8 [(0, .ref (B 11 x0)), (1, .int x1), (2, .int x2), (3, .int x3)]) (h : fX11_open N x0 x1 x2 x3 z = some (r, z')) : W p l e rmX11_open s m args below meth c H locs cells slots (vx_MQ below (zQX D cy B ids (fun v => some (.int v)) (fun _ => True) r z' A) (zXC D cy B ids r z' A) args s rmX11_open.cells rmX11_open.slots A) (F0 m 0 ls []) := by
  unfold fX11_open at h
  have hcs0 := zcs_0 hcs1
  refine lv_aload_n F.1 F.2.1 dX11_open_0 rfl (lv_at hl 0 rfl) ?_
  refine lv_iload_n F.1 F.2.1 dX11_open_1 rfl (lv_at hl 1 rfl) ?_
  replace h := zc_some h
  obtain ⟨r1, z2, hc3, h⟩ := h
  refine zr_callr (zrun_V (As := [.int x1]) (rest := []) zq_1684 zq_1686 zs_X11_hostOf zq_1687 zq_1 hdX11_hostOf (by decide) (T := TX11) (N := 21) rfl (okX11_hostOf l D cy B ids hst N x0 hx0 x1  hr.2.2 hc3) F hr hx0 hl.1 rfl (by decide) dX11_open_2 rfl rfl hroX11_open_X11_hostOf hcs0) F hA hr (fun H locs hw4 hr => ?_)
  clear hc3
  refine zr_astore (lv' := [(4, va_rf (Option.map (B 1) r1)), (0, .ref (B 11 x0)), (1, .int x1), (2, .int x2), (3, .int x3)]) F.1 F.2.1 dX11_open_5 hl (by decide) rfl (fun ls hl => ?_)
  refine zr_aload F.1 F.2.1 dX11_open_7 (lv_at hl 0 rfl) ?_
  refine zr_ifnonnull (tgt := 22) F.1 F.2.1 dX11_open_9 (by decide) (fun e5 => ?_) (fun a6 e5 => ?_)
  · replace h := zo_n e5 h
    subst e5
    obtain ⟨rfl, rfl⟩ := zret h
    exact zXt (text := "no such host") hlf F htab hX hlocks hl.1 (Or.inl rfl) zq_870 zq_22 (by decide +kernel) dX11_open_12 dX11_open_15 dX11_open_16 dX11_open_18 dX11_open_21 (by decide) (by decide) hcs1.1 hcs1.2 hr hcs1.1 hcs1.2
  · replace h := zo_s e5 h
    subst e5
    refine lv_iload_n F.1 F.2.1 dX11_open_22 rfl (lv_at hl 4 rfl) ?_
    refine lv_iconst (v := (1 : Int32)) F.1 F.2.1 dX11_open_23 (by decide) ?_
    refine lv_icmp_lt (tgt := 33) F.1 F.2.1 dX11_open_24 (by decide) (fun c7 => ?_) (fun c7 => ?_)
    · replace h := zi_t c7 h
      exact bX11_open_33 hst F hA hAd hlf hret hlocks htab hX   hcs1 hr (lv_sub hl [] rfl) h
    · replace h := zi_f c7 h
      refine lv_iload_n F.1 F.2.1 dX11_open_27 rfl (lv_at hl 4 rfl) ?_
      refine lv_ldc (v := (65535)) F.1 F.2.1 F.2.2.2.1 (F.2.2.2.2.1 _ zq_322) dX11_open_28 ?_
      refine lv_icmp_le (tgt := 43) F.1 F.2.1 dX11_open_30 (by decide) (fun c8 => ?_) (fun c8 => ?_)
      · replace h := zi_t c8 h
        refine lv_aload F.1 F.2.1 dX11_open_43 (lv_at hl 0 rfl) ?_
        refine lv_iload_n F.1 F.2.1 dX11_open_45 rfl (lv_at hl 3 rfl) ?_
        replace h := zc_some h
        obtain ⟨r9, z10, hc11, h⟩ := h
        refine zr_calli (zrun_VN (As := [.int x2]) (rest := []) zn_1090 zq_1092 zs_X1_hasAddress zq_1093 zq_9 hdX1_hasAddress (by decide) (T := TX1) (N := 13) rfl (okX1_hasAddress l D cy B ids hst N a6 (hw4 _ rfl) x2  hr.2.2 hc11) F hr (hw4 _ rfl) hl.1 rfl (by decide) dX11_open_46 rfl rfl hroX11_open_X1_hasAddress hcs0) F hA hr (fun H locs hw12 hr => ?_)
        clear hc11
        refine lv_if_eq (tgt := 62) F.1 F.2.1 dX11_open_49 (by decide) (fun c13 => ?_) (fun c13 => ?_)
        · replace h := zi_t c13 h
          refine lv_aload F.1 F.2.1 dX11_open_62 (lv_at hl 0 rfl) ?_
          replace h := zc_some h
          obtain ⟨r14, z15, hc16, h⟩ := h
          refine zr_calli (zrun_VN (As := []) (rest := []) zn_1692 zq_1239 zs_X1_unusedDoor zq_1240 zq_9 hdX1_unusedDoor (by decide) (T := TX1) (N := 13) rfl (okX1_unusedDoor l D cy B ids hst N a6 (hw4 _ rfl) hr.2.2 hc16) F hr (hw4 _ rfl) hl.1 rfl (by decide) dX11_open_64 rfl rfl hroX11_open_X1_unusedDoor hcs0) F hA hr (fun H locs hw17 hr => ?_)
          clear hc16
          refine lv_istore (lv' := [(5, .int r14), (4, .ref (B 1 a6)), (0, .ref (B 11 x0)), (1, .int x1), (2, .int x2), (3, .int x3)]) F.1 F.2.1 dX11_open_67 hl (by decide) rfl (fun ls hl => ?_)
          refine lv_iload F.1 F.2.1 dX11_open_69 (lv_at hl 0 rfl) ?_
          refine lv_if_ge (tgt := 84) F.1 F.2.1 dX11_open_71 (by decide) (fun c18 => ?_) (fun c18 => ?_)
          · replace h := zi_t c18 h
            refine lv_aload F.1 F.2.1 dX11_open_84 (lv_at hl 1 rfl) ?_
            refine gf11_134 F (hw4 _ rfl) hr dX11_open_86 ?_
            refine lv_iconst (v := (0 : Int32)) F.1 F.2.1 dX11_open_89 (by decide) ?_
            replace h := zk_some h
            obtain ⟨c19, h⟩ := h
            refine zr_aaldv (k := 112) (by decide) rfl rfl (zlen_d (by decide)) F (zal_a F (hw4 _ rfl) (j := 2) rfl) hr dX11_open_90 c19 (fun y20 ey20 => ?_)
            replace h := zl_sub ey20 h
            have hy20 := zal_q hr (zal_a F (hw4 _ rfl) (j := 2) rfl) rfl ey20
            clear ey20
            refine zr_astore (lv' := [(6, va_rf (Option.map (B 8) y20)), (5, .int r14), (4, .ref (B 1 a6)), (0, .ref (B 11 x0)), (1, .int x1), (2, .int x2), (3, .int x3)]) F.1 F.2.1 dX11_open_91 hl (by decide) rfl (fun ls hl => ?_)
            refine zr_aload F.1 F.2.1 dX11_open_93 (lv_at hl 0 rfl) ?_
            refine zr_ifnonnull (tgt := 108) F.1 F.2.1 dX11_open_95 (by decide) (fun e21 => ?_) (fun a22 e21 => ?_)
            · replace h := zo_n e21 h
              subst e21
              obtain ⟨rfl, rfl⟩ := zret h
              exact zXt (text := "the host has no port") hlf F htab hX hlocks hl.1 (Or.inr rfl) zq_335 zq_8 (by decide +kernel) dX11_open_98 dX11_open_101 dX11_open_102 dX11_open_104 dX11_open_107 (by decide) (by decide) hcs1.1 hcs1.2 hr hcs1.1 hcs1.2
            · replace h := zo_s e21 h
              subst e21
              refine lv_ldc (v := (50000)) F.1 F.2.1 F.2.2.2.1 (F.2.2.2.2.1 _ zq_1689) dX11_open_108 ?_
              refine lv_aload F.1 F.2.1 dX11_open_110 (lv_at hl 2 rfl) ?_
              refine gf11_241 F (hw4 _ rfl) hr dX11_open_112 ?_
              refine lv_iadd F.1 F.2.1 dX11_open_115 ?_
              refine lv_ldc (v := (65535)) F.1 F.2.1 F.2.2.2.1 (F.2.2.2.2.1 _ zq_322) dX11_open_116 ?_
              refine lv_icmp_le (tgt := 131) F.1 F.2.1 dX11_open_118 (by decide) (fun c23 => ?_) (fun c23 => ?_)
              · replace h := zi_t c23 h
                refine lv_aload F.1 F.2.1 dX11_open_131 (lv_at hl 2 rfl) ?_
                refine gf11_220 F (hw4 _ rfl) hr dX11_open_133 ?_
                refine lv_iload F.1 F.2.1 dX11_open_136 (lv_at hl 1 rfl) ?_
                replace h := zk_some h
                obtain ⟨c24, h⟩ := h
                refine zr_aaldv (k := 119) (by decide) rfl rfl rfl F (zal_a F (hw4 _ rfl) (j := 11) rfl) hr dX11_open_138 c24 (fun y25 ey25 => ?_)
                replace h := zl_sub ey25 h
                have hy25 := zal_q hr (zal_a F (hw4 _ rfl) (j := 11) rfl) rfl ey25
                clear ey25
                refine zr_astore (lv' := [(7, va_rf (Option.map (B 2) y25)), (6, .ref (B 8 a22)), (5, .int r14), (4, .ref (B 1 a6)), (0, .ref (B 11 x0)), (1, .int x1), (2, .int x2), (3, .int x3)]) F.1 F.2.1 dX11_open_139 hl (by decide) rfl (fun ls hl => ?_)
                refine zr_aload F.1 F.2.1 dX11_open_141 (lv_at hl 0 rfl) ?_
                refine lv_ldc (v := (50000)) F.1 F.2.1 F.2.2.2.1 (F.2.2.2.2.1 _ zq_1689) dX11_open_143 ?_
                refine lv_aload F.1 F.2.1 dX11_open_145 (lv_at hl 3 rfl) ?_
                refine gf11_241 F (hw4 _ rfl) hr dX11_open_147 ?_
                refine lv_iadd F.1 F.2.1 dX11_open_150 ?_
                refine lv_iload_n F.1 F.2.1 dX11_open_151 rfl (lv_at hl 6 rfl) ?_
                refine lv_iload_n F.1 F.2.1 dX11_open_152 rfl (lv_at hl 7 rfl) ?_
                replace h := zd_some h
                obtain ⟨a26, rfl, h⟩ := h
                replace h := zc_some h
                obtain ⟨r27, z28, hc29, h⟩ := h
                refine zr_callv (zrun_VN (As := [.int ((50000 : Int32) + (zgI z15 1 12 a6)), .int x2, .int x3]) (rest := []) zn_1241 zq_1243 zs_X2_giveEnd zq_1244 zq_12 hdX2_giveEnd (by decide) (T := TX2) (N := 13) rfl (okX2_giveEnd l D cy B ids hst N a26 (hy25 _ rfl) ((50000 : Int32) + (zgI z15 1 12 a6))  x2  x3  hr.2.2 hc29) F hr (hy25 _ rfl) hl.1 rfl (by decide) dX11_open_153 rfl rfl hroX11_open_X2_giveEnd hcs0) F hA hr (fun H locs hw30 hr => ?_)
                clear hc29
                refine lv_aload F.1 F.2.1 dX11_open_156 (lv_at hl 3 rfl) ?_
                refine lv_dup F.1 F.2.1 dX11_open_158 rfl ?_
                refine gf11_241 F (hw4 _ rfl) hr dX11_open_159 ?_
                refine lv_iconst (v := (1 : Int32)) F.1 F.2.1 dX11_open_162 (by decide) ?_
                refine lv_iadd F.1 F.2.1 dX11_open_163 ?_
                refine pf11_241 F (hw4 _ rfl) hr dX11_open_164 ((zgI z28 1 12 a6) + (1 : Int32)) (fun H locs z31 ez31 hr => ?_)
                replace h := zl_sub ez31 h
                clear ez31
                refine lv_aload_n F.1 F.2.1 dX11_open_167 rfl (lv_at hl 4 rfl) ?_
                refine lv_dup F.1 F.2.1 dX11_open_168 rfl ?_
                refine gf11_250 F hx0 hr dX11_open_169 ?_
                refine lv_iconst (v := (1 : Int32)) F.1 F.2.1 dX11_open_172 (by decide) ?_
                refine lv_iadd F.1 F.2.1 dX11_open_173 ?_
                refine pf11_250 F hx0 hr dX11_open_174 ((zgI z31 11 7 x0) + (1 : Int32)) (fun H locs z32 ez32 hr => ?_)
                replace h := zl_sub ez32 h
                clear ez32
                refine lv_aload F.1 F.2.1 dX11_open_177 (lv_at hl 0 rfl) ?_
                refine gf11_253 F (hy25 _ rfl) hr dX11_open_179 (fun y33 ey33 => ?_)
                replace h := zl_sub ey33 h
                have hy33 := zal_g hr (hy25 _ rfl) (j := 12) rfl ey33
                clear ey33
                refine lv_aload_n F.1 F.2.1 dX11_open_182 rfl (lv_at hl 4 rfl) ?_
                refine lv_aload F.1 F.2.1 dX11_open_183 (lv_at hl 3 rfl) ?_
                replace h := zc_some h
                obtain ⟨r34, z35, hc36, h⟩ := h
                refine zr_calli (zrun_V (As := [.ref (B 1 a6)]) (rest := [va_rf (Option.map (B 3) y33)]) zq_1245 zq_1247 zs_X11_firstNumber zq_1248 zq_1 hdX11_firstNumber (by decide) (T := TX11) (N := 21) rfl (okX11_firstNumber l D cy B ids hst N x0 hx0 a6 (hw4 _ rfl) hr.2.2 hc36) F hr hx0 hl.1 rfl (by simp only [List.map, zrf_cat]; exact Nat.le_of_ble_eq_true rfl) dX11_open_185 rfl rfl hroX11_open_X11_firstNumber hcs0) F hA hr (fun H locs hw37 hr => ?_)
                clear hc36
                refine lv_aload F.1 F.2.1 dX11_open_188 (lv_at hl 1 rfl) ?_
                refine gf11_261 F (hy20 _ rfl) hr dX11_open_190 (fun y38 ey38 => ?_)
                replace h := zl_sub ey38 h
                have hy38 := zal_g hr (hy20 _ rfl) (j := 1) rfl ey38
                clear ey38
                replace h := zd_some h
                obtain ⟨a39, rfl, h⟩ := h
                refine gf11_90 F (hy38 _ rfl) hr dX11_open_193 ?_
                refine lv_bipush (v := (40 : Int32)) F.1 F.2.1 dX11_open_196 (by decide) ?_
                refine lv_isub F.1 F.2.1 dX11_open_198 ?_
                refine lv_aload_n F.1 F.2.1 dX11_open_199 rfl (lv_at hl 4 rfl) ?_
                refine gf11_250 F hx0 hr dX11_open_200 ?_
                replace h := zd_some h
                obtain ⟨a40, rfl, h⟩ := h
                replace h := zc_some h
                obtain ⟨r41, z42, hc43, h⟩ := h
                refine zr_callv (zrun_VN (As := [.int r34, .int ((zgI z35 5 1 a39) - (40 : Int32)), .int (zgI z35 11 7 x0)]) (rest := []) zn_1250 zq_1252 zs_X3_begin zq_1253 zq_13 hdX3_begin (by decide) (T := TX3) (N := 19) rfl (okX3_begin l D cy B ids hst N a40 (hy33 _ rfl) r34  ((zgI z35 5 1 a39) - (40 : Int32))  (zgI z35 11 7 x0)  hr.2.2 hc43) F hr (hy33 _ rfl) hl.1 rfl (by decide) dX11_open_203 rfl rfl hroX11_open_X3_begin hcs0) F hA hr (fun H locs hw44 hr => ?_)
                clear hc43
                refine lv_aload F.1 F.2.1 dX11_open_206 (lv_at hl 0 rfl) ?_
                refine gf11_253 F (hy25 _ rfl) hr dX11_open_208 (fun y45 ey45 => ?_)
                replace h := zl_sub ey45 h
                have hy45 := zal_g hr (hy25 _ rfl) (j := 12) rfl ey45
                clear ey45
                replace h := zd_some h
                obtain ⟨a46, rfl, h⟩ := h
                replace h := zc_some h
                obtain ⟨r47, z48, hc49, h⟩ := h
                refine zr_callv (zrun_VN (As := []) (rest := []) zn_1710 zq_1712 zs_X3_startAsking zq_1713 zq_13 hdX3_startAsking (by decide) (T := TX3) (N := 19) rfl (okX3_startAsking l D cy B ids hst N a46 (hy45 _ rfl) hr.2.2 hc49) F hr (hy45 _ rfl) hl.1 rfl (by decide) dX11_open_211 rfl rfl hroX11_open_X3_startAsking hcs0) F hA hr (fun H locs hw50 hr => ?_)
                clear hc49
                refine lv_aload_n F.1 F.2.1 dX11_open_214 rfl (lv_at hl 4 rfl) ?_
                replace h := zc_some h
                obtain ⟨r51, z52, hc53, h⟩ := h
                refine zr_callv (zrun_V (As := []) (rest := []) zq_858 zq_860 zs_X11_stir zq_861 zq_1 hdX11_stir (by decide) (T := TX11) (N := 21) rfl (okX11_stir l D cy B ids hst N x0 hx0 hr.2.2 hc53) F hr hx0 hl.1 rfl (by decide) dX11_open_215 rfl rfl hroX11_open_X11_stir hcs0) F hA hr (fun H locs hw54 hr => ?_)
                clear hc53
                refine lv_iload F.1 F.2.1 dX11_open_218 (lv_at hl 2 rfl) ?_
                obtain ⟨rfl, rfl⟩ := zret h
                exact zXe_i F hret hlocks dX11_open_220 hr hcs0.1 hcs0.2
              · replace h := zi_f c23 h
                obtain ⟨rfl, rfl⟩ := zret h
                exact zXt (text := "no port number more") hlf F htab hX hlocks hl.1 (Or.inr rfl) zq_335 zq_8 (by decide +kernel) dX11_open_121 dX11_open_124 dX11_open_125 dX11_open_127 dX11_open_130 (by decide) (by decide) hcs1.1 hcs1.2 hr hcs1.1 hcs1.2
          · replace h := zi_f c18 h
            obtain ⟨rfl, rfl⟩ := zret h
            exact zXt (text := "no door is free") hlf F htab hX hlocks hl.1 (Or.inr rfl) zq_335 zq_8 (by decide +kernel) dX11_open_74 dX11_open_77 dX11_open_78 dX11_open_80 dX11_open_83 (by decide) (by decide) hcs1.1 hcs1.2 hr hcs1.1 hcs1.2
        · replace h := zi_f c13 h
          obtain ⟨rfl, rfl⟩ := zret h
          exact zXt (text := "the address is its own") hlf F htab hX hlocks hl.1 (Or.inl rfl) zq_870 zq_22 (by decide +kernel) dX11_open_52 dX11_open_55 dX11_open_56 dX11_open_58 dX11_open_61 (by decide) (by decide) hcs1.1 hcs1.2 hr hcs1.1 hcs1.2
      · replace h := zi_f c8 h
        exact bX11_open_33 hst F hA hAd hlf hret hlocks htab hX   hcs1 hr (lv_sub hl [] rfl) h
end SX11_open
set_option maxRecDepth 100000 in
theorem okX11_open (l : Launch) (hlf : l.stackTraces = false) (D : va_G) (cy : Nat → ClassId) (B : Nat → Nat → Nat) (ids : List (Nat × Nat)) (hst : zSt B ids) (N : Nat) (x0 : Nat) (hx0 : (11, x0) ∈ ids) (x1 : Int32) (x2 : Int32) (x3 : Int32) {z : St} {r : (Int32 ⊕ Nat)} {z' : St} (hW : zWf ids z) (h : fX11_open N x0 x1 x2 x3 z = some (r, z')) : zMX l yX11_open (zws yX11_open cX11_open 8 (some .int)) rmX11_open D cy B ids [.ref (B 11 x0), .int x1, .int x2, .int x3] (fun v => some (.int v)) (fun _ => True) r z z' :=
  zMX_of hst hW (by decide +kernel) (Nat.le_of_ble_eq_true rfl) (fun p e s m args below meth c A ls F hA hAd hret hlocks htab hX hr hl => bX11_open_0 hst F hA hAd hlf hret hlocks htab hX x0 x1 x2 x3 hx0 (by decide) hr hl h)
