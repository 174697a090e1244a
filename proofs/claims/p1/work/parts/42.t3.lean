abbrev rmX11_shouldCost : Room := { frames := 6, cells := 1, slots := 6, locals := 100 }
theorem hdX11_shouldCost : yX11_shouldCost.cls ≠ "java/lang/invoke/MethodHandle" ∧ yX11_shouldCost.cls ≠ "java/lang/invoke/VarHandle" ∧ (parseMethodDescriptor yX11_shouldCost.desc).map (fun d => d.parameters.length) = some 2 := by decide +kernel
theorem hroX11_shouldCost_X11_costFromAbove : rmX11_costFromAbove.frames + 1 ≤ rmX11_shouldCost.frames ∧ 8 + (8 + 11) + rmX11_costFromAbove.locals ≤ rmX11_shouldCost.locals := by decide
theorem hroX11_shouldCost_X11_netOf : rmX11_netOf.frames + 1 ≤ rmX11_shouldCost.frames ∧ 8 + (2 + 11) + rmX11_netOf.locals ≤ rmX11_shouldCost.locals := by decide
theorem hroX11_shouldCost_X11_routerOf : rmX11_routerOf.frames + 1 ≤ rmX11_shouldCost.frames ∧ 8 + (3 + 11) + rmX11_routerOf.locals ≤ rmX11_shouldCost.locals := by decide
section SX11_shouldCost
variable {p : Program} {l : Launch} {e : Env} {s : State} {m : MethodId} {args : Array Value} {below : List Frame} {meth : Method} {c : Code} {Q : State → Prop} {D : va_G} {cy : Nat → ClassId} {B : Nat → Nat → Nat} {ids : List (Nat × Nat)} {A : Nat → Prop}
def fX11_shouldCost_22 (N : Nat)   (z : St) : Option ((Int32 ⊕ Nat) × St) := some (.inr 1, z)
set_option maxHeartbeats 4000000 in
set_option maxRecDepth 100000 in
theorem bX11_shouldCost_22 (hst : zSt B ids) (F : zFx p m c cX11_shouldCost 5 s args RX11 D cy B ids A) (hA : ∀ q : Nat, s.heap.size ≤ q → A q) (hAd : ∀ q, zAd B ids s.heap.size q ↔ A q) (hlf : l.stackTraces = false) (hret : meth.sig.returnType = (some .int)) (hlocks : meth.locks = false) (htab : ∀ x ∈ c.exceptionTable.toList, False) (hX : zXK A s s.heap) {r : (Int32 ⊕ Nat)} {z' : St} {N : Nat}    {cells slots : Nat} (hcs1 : cells + 1 ≤ rmX11_shouldCost.cells ∧ slots + 6 ≤ rmX11_shouldCost.slots) {z : St} {H : Heap} {locs : List Loc} {ls : Array Slot} (hr : zRep D cy B ids A s.heap z H locs) (hl : lv_has ls 5 []) (h : fX11_shouldCost_22 N z = some (r, z')) : W p l e rmX11_shouldCost s m args below meth c H locs cells slots (vx_MQ below (zQX D cy B ids (fun v => some (.int v)) (fun _ => True) r z' A) (zXC D cy B ids r z' A) args s rmX11_shouldCost.cells rmX11_shouldCost.slots A) (F0 m 22 ls []) := by
  unfold fX11_shouldCost_22 at h
  have hcs0 := zcs_0 hcs1
  obtain ⟨rfl, rfl⟩ := zret h
  exact zXt (text := "no such router or net") hlf F htab hX hlocks hl.1 (Or.inl rfl) zq_870 zq_22 (by decide +kernel) dX11_shouldCost_22 dX11_shouldCost_25 dX11_shouldCost_26 dX11_shouldCost_28 dX11_shouldCost_31 (by decide) (by decide) hcs1.1 hcs1.2 hr hcs1.1 hcs1.2
def fX11_shouldCost (N : Nat)  (x0 : Nat) (x1 : Int32) (x2 : Int32) (z : St) : Option ((Int32 ⊕ Nat) × St) := zc (fX11_routerOf N x0 x1 z) fun r1 z2 => zc (fX11_netOf N x0 x2 z2) fun r5 z6 => zo r1 (fX11_shouldCost_22 N z6) fun a10 => zo r5 (fX11_shouldCost_22 N z6) fun a12 => zc (fX11_costFromAbove N x0 a10 a12 z6) fun r13 z14 => some (.inl r13, z14)
set_option maxHeartbeats 4000000 in
set_option maxRecDepth 100000 in
theorem bX11_shouldCost_0 (hst : zSt B ids) (F : zFx p m c cX11_shouldCost 5 s args RX11 D cy B ids A) (hA : ∀ q : Nat, s.heap.size ≤ q → A q) (hAd : ∀ q, zAd B ids s.heap.size q ↔ A q) (hlf : l.stackTraces = false) (hret : meth.sig.returnType = (some .int)) (hlocks : meth.locks = false) (htab : ∀ x ∈ c.exceptionTable.toList, False) (hX : zXK A s s.heap) {r : (Int32 ⊕ Nat)} {z' : St} {N : Nat}  (x0 : Nat) (x1 : Int32) (x2 : Int32) (hx0 : (11, x0) ∈ ids) {cells slots : Nat} (hcs1 : cells + 1 ≤ rmX11_shouldCost.cells ∧ slots + 6 ≤ rmX11_shouldCost.slots) {z : St} {H : Heap} {locs : List Loc} {ls : Array Slot} (hr : zRep D cy B ids A s.heap z H locs) (hl : lv_has ls 5 [(0, .ref (B 11 x0)), (1, .int x1), (2, .int x2)]) (h : fX11_shouldCost N x0 x1 x2 z = some (r, z')) : W p l e rmX11_shouldCost s m args below meth c H locs cells slots (vx_MQ below (zQX D cy B ids (fun v => some (.int v)) (fun _ => True) r z' A) (zXC D cy B ids r z' A) args s rmX11_shouldCost.cells rmX11_shouldCost.slots A) (F0 m 0 ls []) := by
  unfold fX11_shouldCost at h
  have hcs0 := zcs_0 hcs1
  refine lv_aload_n F.1 F.2.1 dX11_shouldCost_0 rfl (lv_at hl 0 rfl) ?_
  refine lv_iload_n F.1 F.2.1 dX11_shouldCost_1 rfl (lv_at hl 1 rfl) ?_
  replace h := zc_some h
  obtain ⟨r1, z2, hc3, h⟩ := h
  refine zr_callr (zrun_V (As := [.int x1]) (rest := []) zq_985 zq_987 zs_X11_routerOf zq_988 zq_1 hdX11_routerOf (by decide) (T := TX11) (N := 21) rfl (okX11_routerOf l D cy B ids hst N x0 hx0 x1  hr.2.2 hc3) F hr hx0 hl.1 rfl (by decide) dX11_shouldCost_2 rfl rfl hroX11_shouldCost_X11_routerOf hcs0) F hA hr (fun H locs hw4 hr => ?_)
  clear hc3
  refine zr_astore_n (lv' := [(3, va_rf (Option.map (B 1) r1)), (0, .ref (B 11 x0)), (1, .int x1), (2, .int x2)]) F.1 F.2.1 dX11_shouldCost_5 rfl hl (by decide) rfl (fun ls hl => ?_)
  refine lv_aload_n F.1 F.2.1 dX11_shouldCost_6 rfl (lv_at hl 1 rfl) ?_
  refine lv_iload_n F.1 F.2.1 dX11_shouldCost_7 rfl (lv_at hl 3 rfl) ?_
  replace h := zc_some h
  obtain ⟨r5, z6, hc7, h⟩ := h
  refine zr_callr (zrun_V (As := [.int x2]) (rest := []) zq_903 zq_905 zs_X11_netOf zq_906 zq_1 hdX11_netOf (by decide) (T := TX11) (N := 21) rfl (okX11_netOf l D cy B ids hst N x0 hx0 x2  hr.2.2 hc7) F hr hx0 hl.1 rfl (by decide) dX11_shouldCost_8 rfl rfl hroX11_shouldCost_X11_netOf hcs0) F hA hr (fun H locs hw8 hr => ?_)
  clear hc7
  refine zr_astore (lv' := [(4, va_rf (Option.map (B 5) r5)), (3, va_rf (Option.map (B 1) r1)), (0, .ref (B 11 x0)), (1, .int x1), (2, .int x2)]) F.1 F.2.1 dX11_shouldCost_11 hl (by decide) (by simp only [List.filter, zrf_cat]; rfl) (fun ls hl => ?_)
  refine zr_aload_n F.1 F.2.1 dX11_shouldCost_13 rfl (lv_at hl 1 rfl) ?_
  refine zr_ifnull (tgt := 22) F.1 F.2.1 dX11_shouldCost_14 (by decide) (fun e9 => ?_) (fun a10 e9 => ?_)
  · replace h := zo_n e9 h
    subst e9
    exact bX11_shouldCost_22 hst F hA hAd hlf hret hlocks htab hX   hcs1 hr (lv_sub hl [] rfl) h
  · replace h := zo_s e9 h
    subst e9
    refine zr_aload F.1 F.2.1 dX11_shouldCost_17 (lv_at hl 0 rfl) ?_
    refine zr_ifnonnull (tgt := 32) F.1 F.2.1 dX11_shouldCost_19 (by decide) (fun e11 => ?_) (fun a12 e11 => ?_)
    · replace h := zo_n e11 h
      subst e11
      exact bX11_shouldCost_22 hst F hA hAd hlf hret hlocks htab hX   hcs1 hr (lv_sub hl [] rfl) h
    · replace h := zo_s e11 h
      subst e11
      refine lv_aload_n F.1 F.2.1 dX11_shouldCost_32 rfl (lv_at hl 2 rfl) ?_
      refine lv_aload_n F.1 F.2.1 dX11_shouldCost_33 rfl (lv_at hl 1 rfl) ?_
      refine lv_aload F.1 F.2.1 dX11_shouldCost_34 (lv_at hl 0 rfl) ?_
      replace h := zc_some h
      obtain ⟨r13, z14, hc15, h⟩ := h
      refine zr_calli (zrun_V (As := [.ref (B 1 a10), .ref (B 5 a12)]) (rest := []) zq_289 zq_291 zs_X11_costFromAbove zq_292 zq_1 hdX11_costFromAbove (by decide) (T := TX11) (N := 21) rfl (okX11_costFromAbove l D cy B ids hst N x0 hx0 a10 (hw4 _ rfl) a12 (hw8 _ rfl) hr.2.2 hc15) F hr hx0 hl.1 rfl (by decide) dX11_shouldCost_36 rfl rfl hroX11_shouldCost_X11_costFromAbove hcs0) F hA hr (fun H locs hw16 hr => ?_)
      clear hc15
      obtain ⟨rfl, rfl⟩ := zret h
      exact zXe_i F hret hlocks dX11_shouldCost_39 hr hcs0.1 hcs0.2
end SX11_shouldCost
set_option maxRecDepth 100000 in
theorem okX11_shouldCost (l : Launch) (hlf : l.stackTraces = false) (D : va_G) (cy : Nat → ClassId) (B : Nat → Nat → Nat) (ids : List (Nat × Nat)) (hst : zSt B ids) (N : Nat) (x0 : Nat) (hx0 : (11, x0) ∈ ids) (x1 : Int32) (x2 : Int32) {z : St} {r : (Int32 ⊕ Nat)} {z' : St} (hW : zWf ids z) (h : fX11_shouldCost N x0 x1 x2 z = some (r, z')) : zMX l yX11_shouldCost (zws yX11_shouldCost cX11_shouldCost 5 (some .int)) rmX11_shouldCost D cy B ids [.ref (B 11 x0), .int x1, .int x2] (fun v => some (.int v)) (fun _ => True) r z z' :=
  zMX_of hst hW (by decide +kernel) (Nat.le_of_ble_eq_true rfl) (fun p e s m args below meth c A ls F hA hAd hret hlocks htab hX hr hl => bX11_shouldCost_0 hst F hA hAd hlf hret hlocks htab hX x0 x1 x2 hx0 (by decide) hr hl h)
