abbrev rmX11_accept : Room := { frames := 6, cells := 1, slots := 6, locals := 100 }
theorem hdX11_accept : yX11_accept.cls ≠ "java/lang/invoke/MethodHandle" ∧ yX11_accept.cls ≠ "java/lang/invoke/VarHandle" ∧ (parseMethodDescriptor yX11_accept.desc).map (fun d => d.parameters.length) = some 2 := by decide +kernel
theorem hroX11_accept_X11_doorOf : rmX11_doorOf.frames + 1 ≤ rmX11_accept.frames ∧ 8 + (4 + 11) + rmX11_doorOf.locals ≤ rmX11_accept.locals := by decide
theorem hroX11_accept_X11_hostOf : rmX11_hostOf.frames + 1 ≤ rmX11_accept.frames ∧ 8 + (3 + 11) + rmX11_hostOf.locals ≤ rmX11_accept.locals := by decide
section SX11_accept
variable {p : Program} {l : Launch} {e : Env} {s : State} {m : MethodId} {args : Array Value} {below : List Frame} {meth : Method} {c : Code} {Q : State → Prop} {D : va_G} {cy : Nat → ClassId} {B : Nat → Nat → Nat} {ids : List (Nat × Nat)} {A : Nat → Prop}
def fX11_accept_23 (N : Nat)   (z : St) : Option ((Int32 ⊕ Nat) × St) := some (.inr 1, z)
set_option maxHeartbeats 4000000 in
set_option maxRecDepth 100000 in
theorem bX11_accept_23 (hst : zSt B ids) (F : zFx p m c cX11_accept 7 s args RX11 D cy B ids A) (hA : ∀ q : Nat, s.heap.size ≤ q → A q) (hAd : ∀ q, zAd B ids s.heap.size q ↔ A q) (hlf : l.stackTraces = false) (hret : meth.sig.returnType = (some .int)) (hlocks : meth.locks = false) (htab : ∀ x ∈ c.exceptionTable.toList, False) (hX : zXK A s s.heap) {r : (Int32 ⊕ Nat)} {z' : St} {N : Nat}    {cells slots : Nat} (hcs1 : cells + 1 ≤ rmX11_accept.cells ∧ slots + 6 ≤ rmX11_accept.slots) {z : St} {H : Heap} {locs : List Loc} {ls : Array Slot} (hr : zRep D cy B ids A s.heap z H locs) (hl : lv_has ls 7 []) (h : fX11_accept_23 N z = some (r, z')) : W p l e rmX11_accept s m args below meth c H locs cells slots (vx_MQ below (zQX D cy B ids (fun v => some (.int v)) (fun _ => True) r z' A) (zXC D cy B ids r z' A) args s rmX11_accept.cells rmX11_accept.slots A) (F0 m 23 ls []) := by
  unfold fX11_accept_23 at h
  have hcs0 := zcs_0 hcs1
  obtain ⟨rfl, rfl⟩ := zret h
  exact zXtw (text := "no such host or door") hlf F htab hX hlocks hl.1 (Or.inl rfl) zq_870 zq_22 (by decide +kernel) dX11_accept_23 dX11_accept_26 dX11_accept_27 dX11_accept_30 dX11_accept_33 (by decide) (by decide) hcs1.1 hcs1.2 hr hcs1.1 hcs1.2
def fX11_accept_139 (N : Nat) (K57 : Int32 → Nat → Int32 → St → Option ((Int32 ⊕ Nat) × St)) (x2 : Int32) (x3 : Nat) (x5 : Int32) (z : St) : Option ((Int32 ⊕ Nat) × St) := zl (x5 + 1) fun v1 => K57 x2 x3 v1 z
set_option maxHeartbeats 4000000 in
set_option maxRecDepth 100000 in
theorem bX11_accept_139 (hst : zSt B ids) (F : zFx p m c cX11_accept 7 s args RX11 D cy B ids A) (hA : ∀ q : Nat, s.heap.size ≤ q → A q) (hAd : ∀ q, zAd B ids s.heap.size q ↔ A q) (hlf : l.stackTraces = false) (hret : meth.sig.returnType = (some .int)) (hlocks : meth.locks = false) (htab : ∀ x ∈ c.exceptionTable.toList, False) (hX : zXK A s s.heap) {r : (Int32 ⊕ Nat)} {z' : St} {N : Nat} {K57 : Int32 → Nat → Int32 → St → Option ((Int32 ⊕ Nat) × St)} (hK57 : ∀ (x2 : Int32) (x3 : Nat) (x5 : Int32) (hx3 : (1, x3) ∈ ids) {cells slots : Nat} (hcs1 : cells + 1 ≤ rmX11_accept.cells ∧ slots + 6 ≤ rmX11_accept.slots) {z : St} {H : Heap} {locs : List Loc} {ls : Array Slot} (hr : zRep D cy B ids A s.heap z H locs) (hl : lv_has ls 7 [(2, .int x2), (3, .ref (B 1 x3)), (5, .int x5)]), K57 x2 x3 x5 z = some (r, z') → W p l e rmX11_accept s m args below meth c H locs cells slots (vx_MQ below (zQX D cy B ids (fun v => some (.int v)) (fun _ => True) r z' A) (zXC D cy B ids r z' A) args s rmX11_accept.cells rmX11_accept.slots A) (F0 m 57 ls [])) (x2 : Int32) (x3 : Nat) (x5 : Int32) (hx3 : (1, x3) ∈ ids) {cells slots : Nat} (hcs1 : cells + 1 ≤ rmX11_accept.cells ∧ slots + 6 ≤ rmX11_accept.slots) {z : St} {H : Heap} {locs : List Loc} {ls : Array Slot} (hr : zRep D cy B ids A s.heap z H locs) (hl : lv_has ls 7 [(2, .int x2), (3, .ref (B 1 x3)), (5, .int x5)]) (h : fX11_accept_139 N K57 x2 x3 x5 z = some (r, z')) : W p l e rmX11_accept s m args below meth c H locs cells slots (vx_MQ below (zQX D cy B ids (fun v => some (.int v)) (fun _ => True) r z' A) (zXC D cy B ids r z' A) args s rmX11_accept.cells rmX11_accept.slots A) (F0 m 139 ls []) := by
  unfold fX11_accept_139 at h
  have hcs0 := zcs_0 hcs1
  obtain ⟨v1, ev1⟩ : ∃ y : Int32, y = (x5 + 1) := ⟨_, rfl⟩
  replace h := zl_sub ev1 h
  refine lv_iinc (v := v1) (lv' := [(5, .int v1), (2, .int x2), (3, .ref (B 1 x3))]) F.1 F.2.1 dX11_accept_139 hl (k := 2) rfl (by rw [ev1]; rfl) (by decide) rfl (fun ls hl => ?_)
  refine lv_goto (tgt := 57) F.1 F.2.1 dX11_accept_142 (by decide) ?_
  exact hK57 x2 x3 v1 hx3 hcs1 hr (lv_sub hl [1, 2, 0] rfl) h
def fX11_accept_57b (N : Nat) (K57 : Int32 → Nat → Int32 → St → Option ((Int32 ⊕ Nat) × St)) (x2 : Int32) (x3 : Nat) (x5 : Int32) (z : St) : Option ((Int32 ⊕ Nat) × St) := if (6 : Int32) ≤ x5 then (some (.inl (-1 : Int32), z)) else (zk x5 (zlen z 119 x3) <| zl (zgQ z 119 x3 (Int32.toNatClampNeg x5)) fun y3 => zd y3 fun a4 => if ¬ (zgI z 2 0 a4) = (2 : Int32) then (fX11_accept_139 N K57 x2 x3 x5 z) else (if ¬ (zgI z 2 5 a4) = x2 then (fX11_accept_139 N K57 x2 x3 x5 z) else (if (zgI z 2 7 a4) = 0 then (zl (zgR z 2 12 a4) fun y8 => zd y8 fun a9 => if (zgI z 3 0 a9) < (4 : Int32) then (fX11_accept_139 N K57 x2 x3 x5 z) else (zl (zgR z 2 12 a4) fun y11 => zd y11 fun a12 => if (zgI z 3 0 a12) ≤ (10 : Int32) then (zl (zsI z 2 7 a4 (1 : Int32)) fun z14 => some (.inl x5, z14)) else (fX11_accept_139 N K57 x2 x3 x5 z))) else (fX11_accept_139 N K57 x2 x3 x5 z))))
def fX11_accept_57 (N : Nat)  : Nat → Int32 → Nat → Int32 → St → Option ((Int32 ⊕ Nat) × St)
  | 0 => fun _ _ _ _ => none
  | n + 1 => fX11_accept_57b N (fX11_accept_57 N  n)
set_option maxHeartbeats 4000000 in
set_option maxRecDepth 100000 in
theorem bX11_accept_57 (hst : zSt B ids) (F : zFx p m c cX11_accept 7 s args RX11 D cy B ids A) (hA : ∀ q : Nat, s.heap.size ≤ q → A q) (hAd : ∀ q, zAd B ids s.heap.size q ↔ A q) (hlf : l.stackTraces = false) (hret : meth.sig.returnType = (some .int)) (hlocks : meth.locks = false) (htab : ∀ x ∈ c.exceptionTable.toList, False) (hX : zXK A s s.heap) {r : (Int32 ⊕ Nat)} {z' : St} {N : Nat} {K57 : Int32 → Nat → Int32 → St → Option ((Int32 ⊕ Nat) × St)} (hK57 : ∀ (x2 : Int32) (x3 : Nat) (x5 : Int32) (hx3 : (1, x3) ∈ ids) {cells slots : Nat} (hcs1 : cells + 1 ≤ rmX11_accept.cells ∧ slots + 6 ≤ rmX11_accept.slots) {z : St} {H : Heap} {locs : List Loc} {ls : Array Slot} (hr : zRep D cy B ids A s.heap z H locs) (hl : lv_has ls 7 [(2, .int x2), (3, .ref (B 1 x3)), (5, .int x5)]), K57 x2 x3 x5 z = some (r, z') → W p l e rmX11_accept s m args below meth c H locs cells slots (vx_MQ below (zQX D cy B ids (fun v => some (.int v)) (fun _ => True) r z' A) (zXC D cy B ids r z' A) args s rmX11_accept.cells rmX11_accept.slots A) (F0 m 57 ls [])) (x2 : Int32) (x3 : Nat) (x5 : Int32) (hx3 : (1, x3) ∈ ids) {cells slots : Nat} (hcs1 : cells + 1 ≤ rmX11_accept.cells ∧ slots + 6 ≤ rmX11_accept.slots) {z : St} {H : Heap} {locs : List Loc} {ls : Array Slot} (hr : zRep D cy B ids A s.heap z H locs) (hl : lv_has ls 7 [(2, .int x2), (3, .ref (B 1 x3)), (5, .int x5)]) (h : fX11_accept_57b N K57 x2 x3 x5 z = some (r, z')) : W p l e rmX11_accept s m args below meth c H locs cells slots (vx_MQ below (zQX D cy B ids (fun v => some (.int v)) (fun _ => True) r z' A) (zXC D cy B ids r z' A) args s rmX11_accept.cells rmX11_accept.slots A) (F0 m 57 ls []) := by
  unfold fX11_accept_57b at h
  have hcs0 := zcs_0 hcs1
  refine lv_iload F.1 F.2.1 dX11_accept_57 (lv_at hl 2 rfl) ?_
  refine lv_bipush (v := (6 : Int32)) F.1 F.2.1 dX11_accept_59 (by decide) ?_
  refine lv_icmp_ge (tgt := 145) F.1 F.2.1 dX11_accept_61 (by decide) (fun c1 => ?_) (fun c1 => ?_)
  · replace h := zi_t c1 h
    refine lv_iconst (v := (-1 : Int32)) F.1 F.2.1 dX11_accept_145 (by decide) ?_
    obtain ⟨rfl, rfl⟩ := zret h
    exact zXe_i F hret hlocks dX11_accept_146 hr hcs0.1 hcs0.2
  · replace h := zi_f c1 h
    refine lv_aload_n F.1 F.2.1 dX11_accept_64 rfl (lv_at hl 1 rfl) ?_
    refine gf11_220 F hx3 hr dX11_accept_65 ?_
    refine lv_iload F.1 F.2.1 dX11_accept_68 (lv_at hl 2 rfl) ?_
    replace h := zk_some h
    obtain ⟨c2, h⟩ := h
    refine zr_aaldv (k := 119) (by decide) rfl rfl rfl F (zal_a F hx3 (j := 11) rfl) hr dX11_accept_70 c2 (fun y3 ey3 => ?_)
    replace h := zl_sub ey3 h
    have hy3 := zal_q hr (zal_a F hx3 (j := 11) rfl) rfl ey3
    clear ey3
    refine zr_astore (lv' := [(6, va_rf (Option.map (B 2) y3)), (2, .int x2), (3, .ref (B 1 x3)), (5, .int x5)]) F.1 F.2.1 dX11_accept_71 hl (by decide) rfl (fun ls hl => ?_)
    refine zr_aload F.1 F.2.1 dX11_accept_73 (lv_at hl 0 rfl) ?_
    replace h := zd_some h
    obtain ⟨a4, rfl, h⟩ := h
    refine gf11_279 F (hy3 _ rfl) hr dX11_accept_75 ?_
    refine lv_iconst (v := (2 : Int32)) F.1 F.2.1 dX11_accept_78 (by decide) ?_
    refine lv_icmp_ne (tgt := 139) F.1 F.2.1 dX11_accept_79 (by decide) (fun c5 => ?_) (fun c5 => ?_)
    · replace h := zi_t c5 h
      exact bX11_accept_139 hst F hA hAd hlf hret hlocks htab hX hK57 x2 x3 x5 hx3 hcs1 hr (lv_sub hl [1, 2, 3] rfl) h
    · replace h := zi_f (fun q => q c5) h
      refine lv_aload F.1 F.2.1 dX11_accept_82 (lv_at hl 0 rfl) ?_
      refine gf11_284 F (hy3 _ rfl) hr dX11_accept_84 ?_
      refine lv_iload_n F.1 F.2.1 dX11_accept_87 rfl (lv_at hl 1 rfl) ?_
      refine lv_icmp_ne (tgt := 139) F.1 F.2.1 dX11_accept_88 (by decide) (fun c6 => ?_) (fun c6 => ?_)
      · replace h := zi_t c6 h
        exact bX11_accept_139 hst F hA hAd hlf hret hlocks htab hX hK57 x2 x3 x5 hx3 hcs1 hr (lv_sub hl [1, 2, 3] rfl) h
      · replace h := zi_f (fun q => q c6) h
        refine lv_aload F.1 F.2.1 dX11_accept_91 (lv_at hl 0 rfl) ?_
        refine gf11_287 F (hy3 _ rfl) hr dX11_accept_93 ?_
        refine lv_if_eq (tgt := 102) F.1 F.2.1 dX11_accept_96 (by decide) (fun c7 => ?_) (fun c7 => ?_)
        · replace h := zi_t c7 h
          refine lv_aload F.1 F.2.1 dX11_accept_102 (lv_at hl 0 rfl) ?_
          refine gf11_253 F (hy3 _ rfl) hr dX11_accept_104 (fun y8 ey8 => ?_)
          replace h := zl_sub ey8 h
          have hy8 := zal_g hr (hy3 _ rfl) (j := 12) rfl ey8
          clear ey8
          replace h := zd_some h
          obtain ⟨a9, rfl, h⟩ := h
          refine gf11_290 F (hy8 _ rfl) hr dX11_accept_107 ?_
          refine lv_iconst (v := (4 : Int32)) F.1 F.2.1 dX11_accept_110 (by decide) ?_
          refine lv_icmp_lt (tgt := 139) F.1 F.2.1 dX11_accept_111 (by decide) (fun c10 => ?_) (fun c10 => ?_)
          · replace h := zi_t c10 h
            exact bX11_accept_139 hst F hA hAd hlf hret hlocks htab hX hK57 x2 x3 x5 hx3 hcs1 hr (lv_sub hl [1, 2, 3] rfl) h
          · replace h := zi_f c10 h
            refine lv_aload F.1 F.2.1 dX11_accept_114 (lv_at hl 0 rfl) ?_
            refine gf11_253 F (hy3 _ rfl) hr dX11_accept_116 (fun y11 ey11 => ?_)
            replace h := zl_sub ey11 h
            have hy11 := zal_g hr (hy3 _ rfl) (j := 12) rfl ey11
            clear ey11
            replace h := zd_some h
            obtain ⟨a12, rfl, h⟩ := h
            refine gf11_290 F (hy11 _ rfl) hr dX11_accept_119 ?_
            refine lv_bipush (v := (10 : Int32)) F.1 F.2.1 dX11_accept_122 (by decide) ?_
            refine lv_icmp_le (tgt := 130) F.1 F.2.1 dX11_accept_124 (by decide) (fun c13 => ?_) (fun c13 => ?_)
            · replace h := zi_t c13 h
              refine lv_aload F.1 F.2.1 dX11_accept_130 (lv_at hl 0 rfl) ?_
              refine lv_iconst (v := (1 : Int32)) F.1 F.2.1 dX11_accept_132 (by decide) ?_
              refine pf11_287 F (hy3 _ rfl) hr dX11_accept_133 (1 : Int32) (by decide) (fun H locs z14 ez14 hr => ?_)
              replace h := zl_sub ez14 h
              clear ez14
              refine lv_iload F.1 F.2.1 dX11_accept_136 (lv_at hl 3 rfl) ?_
              obtain ⟨rfl, rfl⟩ := zret h
              exact zXe_i F hret hlocks dX11_accept_138 hr hcs0.1 hcs0.2
            · replace h := zi_f c13 h
              refine lv_goto (tgt := 139) F.1 F.2.1 dX11_accept_127 (by decide) ?_
              exact bX11_accept_139 hst F hA hAd hlf hret hlocks htab hX hK57 x2 x3 x5 hx3 hcs1 hr (lv_sub hl [1, 2, 3] rfl) h
        · replace h := zi_f c7 h
          refine lv_goto (tgt := 139) F.1 F.2.1 dX11_accept_99 (by decide) ?_
          exact bX11_accept_139 hst F hA hAd hlf hret hlocks htab hX hK57 x2 x3 x5 hx3 hcs1 hr (lv_sub hl [1, 2, 3] rfl) h
theorem lX11_accept_57 (hst : zSt B ids) (F : zFx p m c cX11_accept 7 s args RX11 D cy B ids A) (hA : ∀ q : Nat, s.heap.size ≤ q → A q) (hAd : ∀ q, zAd B ids s.heap.size q ↔ A q) (hlf : l.stackTraces = false) (hret : meth.sig.returnType = (some .int)) (hlocks : meth.locks = false) (htab : ∀ x ∈ c.exceptionTable.toList, False) (hX : zXK A s s.heap) {r : (Int32 ⊕ Nat)} {z' : St} {N : Nat}  : ∀ (n : Nat) (x2 : Int32) (x3 : Nat) (x5 : Int32) (hx3 : (1, x3) ∈ ids) {cells slots : Nat} (hcs1 : cells + 1 ≤ rmX11_accept.cells ∧ slots + 6 ≤ rmX11_accept.slots) {z : St} {H : Heap} {locs : List Loc} {ls : Array Slot} (hr : zRep D cy B ids A s.heap z H locs) (hl : lv_has ls 7 [(2, .int x2), (3, .ref (B 1 x3)), (5, .int x5)]), fX11_accept_57 N  n x2 x3 x5 z = some (r, z') → W p l e rmX11_accept s m args below meth c H locs cells slots (vx_MQ below (zQX D cy B ids (fun v => some (.int v)) (fun _ => True) r z' A) (zXC D cy B ids r z' A) args s rmX11_accept.cells rmX11_accept.slots A) (F0 m 57 ls []) := by
  intro n
  induction n with
  | zero => intro x2 x3 x5 hx3 cells slots hcs1 z H locs ls hr hl h; cases h
  | succ n ih => intro x2 x3 x5 hx3 cells slots hcs1 z H locs ls hr hl h; exact bX11_accept_57 hst F hA hAd hlf hret hlocks htab hX ih x2 x3 x5 hx3 hcs1 hr hl h
def fX11_accept (N : Nat)  (x0 : Nat) (x1 : Int32) (x2 : Int32) (z : St) : Option ((Int32 ⊕ Nat) × St) := zc (fX11_hostOf N x0 x1 z) fun r1 z2 => zc (fX11_doorOf N x0 x1 x2 z2) fun r5 z6 => zo r1 (fX11_accept_23 N z6) fun a10 => zo r5 (fX11_accept_23 N z6) fun a12 => if (zgI z6 2 0 a12) = (1 : Int32) then (fX11_accept_57 N N x2 a10 (0 : Int32) z6) else (some (.inr 2, z6))
set_option maxHeartbeats 4000000 in
set_option maxRecDepth 100000 in
theorem bX11_accept_0 (hst : zSt B ids) (F : zFx p m c cX11_accept 7 s args RX11 D cy B ids A) (hA : ∀ q : Nat, s.heap.size ≤ q → A q) (hAd : ∀ q, zAd B ids s.heap.size q ↔ A q) (hlf : l.stackTraces = false) (hret : meth.sig.returnType = (some .int)) (hlocks : meth.locks = false) (htab : ∀ x ∈ c.exceptionTable.toList, False) (hX : zXK A s s.heap) {r : (Int32 ⊕ Nat)} {z' : St} {N : Nat}  (x0 : Nat) (x1 : Int32) (x2 : Int32) (hx0 : (11, x0) ∈ ids) {cells slots : Nat} (hcs1 : cells + 1 ≤ rmX11_accept.cells ∧ slots + 6 ≤ rmX11_accept.slots) {z : St} {H : Heap} {locs : List Loc} {ls : Array Slot} (hr : zRep D cy B ids A s.heap z H locs) (hl : lv_has ls 7 [(0, .ref (B 11 x0)), (1, .int x1), (2, .int x2)]) (h : fX11_accept N x0 x1 x2 z = some (r, z')) : W p l e rmX11_accept s m args below meth c H locs cells slots (vx_MQ below (zQX D cy B ids (fun v => some (.int v)) (fun _ => True) r z' A) (zXC D cy B ids r z' A) args s rmX11_accept.cells rmX11_accept.slots A) (F0 m 0 ls []) := by
  unfold fX11_accept at h
  have hcs0 := zcs_0 hcs1
  refine lv_aload_n F.1 F.2.1 dX11_accept_0 rfl (lv_at hl 0 rfl) ?_
  refine lv_iload_n F.1 F.2.1 dX11_accept_1 rfl (lv_at hl 1 rfl) ?_
  replace h := zc_some h
  obtain ⟨r1, z2, hc3, h⟩ := h
  refine zr_callr (zrun_V (As := [.int x1]) (rest := []) zq_1684 zq_1686 zs_X11_hostOf zq_1687 zq_1 hdX11_hostOf (by decide) (T := TX11) (N := 21) rfl (okX11_hostOf l D cy B ids hst N x0 hx0 x1  hr.2.2 hc3) F hr hx0 hl.1 rfl (by decide) dX11_accept_2 rfl rfl hroX11_accept_X11_hostOf hcs0) F hA hr (fun H locs hw4 hr => ?_)
  clear hc3
  refine zr_astore_n (lv' := [(3, va_rf (Option.map (B 1) r1)), (0, .ref (B 11 x0)), (1, .int x1), (2, .int x2)]) F.1 F.2.1 dX11_accept_5 rfl hl (by decide) rfl (fun ls hl => ?_)
  refine lv_aload_n F.1 F.2.1 dX11_accept_6 rfl (lv_at hl 1 rfl) ?_
  refine lv_iload_n F.1 F.2.1 dX11_accept_7 rfl (lv_at hl 2 rfl) ?_
  refine lv_iload_n F.1 F.2.1 dX11_accept_8 rfl (lv_at hl 3 rfl) ?_
  replace h := zc_some h
  obtain ⟨r5, z6, hc7, h⟩ := h
  refine zr_callr (zrun_V (As := [.int x1, .int x2]) (rest := []) zq_1721 zq_1723 zs_X11_doorOf zq_1724 zq_1 hdX11_doorOf (by decide) (T := TX11) (N := 21) rfl (okX11_doorOf l D cy B ids hst N x0 hx0 x1  x2  hr.2.2 hc7) F hr hx0 hl.1 rfl (by decide) dX11_accept_9 rfl rfl hroX11_accept_X11_doorOf hcs0) F hA hr (fun H locs hw8 hr => ?_)
  clear hc7
  refine zr_astore (lv' := [(4, va_rf (Option.map (B 2) r5)), (3, va_rf (Option.map (B 1) r1)), (0, .ref (B 11 x0)), (1, .int x1), (2, .int x2)]) F.1 F.2.1 dX11_accept_12 hl (by decide) (by simp only [List.filter, zrf_cat]; rfl) (fun ls hl => ?_)
  refine zr_aload_n F.1 F.2.1 dX11_accept_14 rfl (lv_at hl 1 rfl) ?_
  refine zr_ifnull (tgt := 23) F.1 F.2.1 dX11_accept_15 (by decide) (fun e9 => ?_) (fun a10 e9 => ?_)
  · replace h := zo_n e9 h
    subst e9
    exact bX11_accept_23 hst F hA hAd hlf hret hlocks htab hX   hcs1 hr (lv_sub hl [] rfl) h
  · replace h := zo_s e9 h
    subst e9
    refine zr_aload F.1 F.2.1 dX11_accept_18 (lv_at hl 0 rfl) ?_
    refine zr_ifnonnull (tgt := 34) F.1 F.2.1 dX11_accept_20 (by decide) (fun e11 => ?_) (fun a12 e11 => ?_)
    · replace h := zo_n e11 h
      subst e11
      exact bX11_accept_23 hst F hA hAd hlf hret hlocks htab hX   hcs1 hr (lv_sub hl [] rfl) h
    · replace h := zo_s e11 h
      subst e11
      refine lv_aload F.1 F.2.1 dX11_accept_34 (lv_at hl 0 rfl) ?_
      refine gf11_279 F (hw8 _ rfl) hr dX11_accept_36 ?_
      refine lv_iconst (v := (1 : Int32)) F.1 F.2.1 dX11_accept_39 (by decide) ?_
      refine lv_icmp_eq (tgt := 54) F.1 F.2.1 dX11_accept_40 (by decide) (fun c13 => ?_) (fun c13 => ?_)
      · replace h := zi_t c13 h
        refine lv_iconst (v := (0 : Int32)) F.1 F.2.1 dX11_accept_54 (by decide) ?_
        refine lv_istore (lv' := [(5, .int (0 : Int32)), (4, .ref (B 2 a12)), (3, .ref (B 1 a10)), (0, .ref (B 11 x0)), (1, .int x1), (2, .int x2)]) F.1 F.2.1 dX11_accept_55 hl (by decide) rfl (fun ls hl => ?_)
        exact lX11_accept_57 hst F hA hAd hlf hret hlocks htab hX  _ x2 a10 (0 : Int32) (hw4 _ rfl) hcs1 hr (lv_sub hl [5, 2, 0] rfl) h
      · replace h := zi_f c13 h
        obtain ⟨rfl, rfl⟩ := zret h
        exact zXtw (text := "the door does not listen") hlf F htab hX hlocks hl.1 (Or.inr rfl) zq_335 zq_8 (by decide +kernel) dX11_accept_43 dX11_accept_46 dX11_accept_47 dX11_accept_50 dX11_accept_53 (by decide) (by decide) hcs1.1 hcs1.2 hr hcs1.1 hcs1.2
end SX11_accept
set_option maxRecDepth 100000 in
theorem okX11_accept (l : Launch) (hlf : l.stackTraces = false) (D : va_G) (cy : Nat → ClassId) (B : Nat → Nat → Nat) (ids : List (Nat × Nat)) (hst : zSt B ids) (N : Nat) (x0 : Nat) (hx0 : (11, x0) ∈ ids) (x1 : Int32) (x2 : Int32) {z : St} {r : (Int32 ⊕ Nat)} {z' : St} (hW : zWf ids z) (h : fX11_accept N x0 x1 x2 z = some (r, z')) : zMX l yX11_accept (zws yX11_accept cX11_accept 7 (some .int)) rmX11_accept D cy B ids [.ref (B 11 x0), .int x1, .int x2] (fun v => some (.int v)) (fun _ => True) r z z' :=
  zMX_of hst hW (by decide +kernel) (Nat.le_of_ble_eq_true rfl) (fun p e s m args below meth c A ls F hA hAd hret hlocks htab hX hr hl => bX11_accept_0 hst F hA hAd hlf hret hlocks htab hX x0 x1 x2 hx0 (by decide) hr hl h)
abbrev rmX11_write : Room := { frames := 6, cells := 1, slots := 6, locals := 100 }
theorem hdX11_write : yX11_write.cls ≠ "java/lang/invoke/MethodHandle" ∧ yX11_write.cls ≠ "java/lang/invoke/VarHandle" ∧ (parseMethodDescriptor yX11_write.desc).map (fun d => d.parameters.length) = some 4 := by decide +kernel
theorem hroX11_write_X11_doorOf : rmX11_doorOf.frames + 1 ≤ rmX11_write.frames ∧ 8 + (4 + 11) + rmX11_doorOf.locals ≤ rmX11_write.locals := by decide
theorem hroX11_write_X11_noteWriting : rmX11_noteWriting.frames + 1 ≤ rmX11_write.frames ∧ 8 + (5 + 11) + rmX11_noteWriting.locals ≤ rmX11_write.locals := by decide
theorem hroX11_write_X11_wroteTo : rmX11_wroteTo.frames + 1 ≤ rmX11_write.frames ∧ 8 + (2 + 11) + rmX11_wroteTo.locals ≤ rmX11_write.locals := by decide
theorem hroX11_write_X2_takesBytes : rmX2_takesBytes.frames + 1 ≤ rmX11_write.frames ∧ 8 + (1 + 11) + rmX2_takesBytes.locals ≤ rmX11_write.locals := by decide
theorem hroX11_write_X6_add : rmX6_add.frames + 1 ≤ rmX11_write.frames ∧ 8 + (2 + 11) + rmX6_add.locals ≤ rmX11_write.locals := by decide
section SX11_write
variable {p : Program} {l : Launch} {e : Env} {s : State} {m : MethodId} {args : Array Value} {below : List Frame} {meth : Method} {c : Code} {Q : State → Prop} {D : va_G} {cy : Nat → ClassId} {B : Nat → Nat → Nat} {ids : List (Nat × Nat)} {A : Nat → Prop}
def fX11_write_37 (N : Nat)   (z : St) : Option ((Int32 ⊕ Nat) × St) := some (.inr 1, z)
set_option maxHeartbeats 4000000 in
set_option maxRecDepth 100000 in
theorem bX11_write_37 (hst : zSt B ids) (F : zFx p m c cX11_write 9 s args RX11 D cy B ids A) (hA : ∀ q : Nat, s.heap.size ≤ q → A q) (hAd : ∀ q, zAd B ids s.heap.size q ↔ A q) (hlf : l.stackTraces = false) (hret : meth.sig.returnType = (some .int)) (hlocks : meth.locks = false) (htab : ∀ x ∈ c.exceptionTable.toList, False) (hX : zXK A s s.heap) {r : (Int32 ⊕ Nat)} {z' : St} {N : Nat}    {cells slots : Nat} (hcs1 : cells + 1 ≤ rmX11_write.cells ∧ slots + 6 ≤ rmX11_write.slots) {z : St} {H : Heap} {locs : List Loc} {ls : Array Slot} (hr : zRep D cy B ids A s.heap z H locs) (hl : lv_has ls 9 []) (h : fX11_write_37 N z = some (r, z')) : W p l e rmX11_write s m args below meth c H locs cells slots (vx_MQ below (zQX D cy B ids (fun v => some (.int v)) (fun _ => True) r z' A) (zXC D cy B ids r z' A) args s rmX11_write.cells rmX11_write.slots A) (F0 m 37 ls []) := by
  unfold fX11_write_37 at h
  have hcs0 := zcs_0 hcs1
  obtain ⟨rfl, rfl⟩ := zret h
  exact zXtw (text := "n is not 1 .. 8") hlf F htab hX hlocks hl.1 (Or.inl rfl) zq_870 zq_22 (by decide +kernel) dX11_write_37 dX11_write_40 dX11_write_41 dX11_write_44 dX11_write_47 (by decide) (by decide) hcs1.1 hcs1.2 hr hcs1.1 hcs1.2
def fX11_write_92b (N : Nat) (K92 : Nat → Int64 → Int32 → Nat → Int32 → Int32 → St → Option ((Int32 ⊕ Nat) × St)) (x0 : Nat) (x3 : Int64) (x5 : Int32) (x6 : Nat) (x7 : Int32) (x8 : Int32) (z : St) : Option ((Int32 ⊕ Nat) × St) := if x7 ≤ x8 then (zl (zgR z 2 12 x6) fun y2 => zd y2 fun a3 => zc (fX11_noteWriting N x0 a3 x7 (((x3).toUInt64 >>> (((((8 : Int32) * (x5 - x7)) &&& (63 : Int32))).toInt64.toUInt64 &&& Int64.toUInt64 63)).toInt64) z) fun _ z5 => zc (fX11_wroteTo N x0 x6 z5) fun _ z9 => some (.inl x7, z9)) else (zl (zgR z 2 12 x6) fun y12 => zd y12 fun a13 => zl (zgR z 3 16 a13) fun y14 => zd y14 fun a15 => zc (fX6_add N a15 (Int64.toInt32 (((x3).toUInt64 >>> ((((8 : Int32) * ((x5 - (1 : Int32)) - x8))).toInt64.toUInt64 &&& Int64.toUInt64 63)).toInt64)) z) fun _ z17 => zl (x8 + 1) fun v20 => K92 x0 x3 x5 x6 x7 v20 z17)
def fX11_write_92 (N : Nat)  : Nat → Nat → Int64 → Int32 → Nat → Int32 → Int32 → St → Option ((Int32 ⊕ Nat) × St)
  | 0 => fun _ _ _ _ _ _ _ => none
  | n + 1 => fX11_write_92b N (fX11_write_92 N  n)
set_option maxHeartbeats 4000000 in
set_option maxRecDepth 100000 in
theorem bX11_write_92 (hst : zSt B ids) (F : zFx p m c cX11_write 9 s args RX11 D cy B ids A) (hA : ∀ q : Nat, s.heap.size ≤ q → A q) (hAd : ∀ q, zAd B ids s.heap.size q ↔ A q) (hlf : l.stackTraces = false) (hret : meth.sig.returnType = (some .int)) (hlocks : meth.locks = false) (htab : ∀ x ∈ c.exceptionTable.toList, False) (hX : zXK A s s.heap) {r : (Int32 ⊕ Nat)} {z' : St} {N : Nat} {K92 : Nat → Int64 → Int32 → Nat → Int32 → Int32 → St → Option ((Int32 ⊕ Nat) × St)} (hK92 : ∀ (x0 : Nat) (x3 : Int64) (x5 : Int32) (x6 : Nat) (x7 : Int32) (x8 : Int32) (hx0 : (11, x0) ∈ ids) (hx6 : (2, x6) ∈ ids) {cells slots : Nat} (hcs1 : cells + 1 ≤ rmX11_write.cells ∧ slots + 6 ≤ rmX11_write.slots) {z : St} {H : Heap} {locs : List Loc} {ls : Array Slot} (hr : zRep D cy B ids A s.heap z H locs) (hl : lv_has ls 9 [(0, .ref (B 11 x0)), (3, .long x3), (5, .int x5), (6, .ref (B 2 x6)), (7, .int x7), (8, .int x8)]), K92 x0 x3 x5 x6 x7 x8 z = some (r, z') → W p l e rmX11_write s m args below meth c H locs cells slots (vx_MQ below (zQX D cy B ids (fun v => some (.int v)) (fun _ => True) r z' A) (zXC D cy B ids r z' A) args s rmX11_write.cells rmX11_write.slots A) (F0 m 92 ls [])) (x0 : Nat) (x3 : Int64) (x5 : Int32) (x6 : Nat) (x7 : Int32) (x8 : Int32) (hx0 : (11, x0) ∈ ids) (hx6 : (2, x6) ∈ ids) {cells slots : Nat} (hcs1 : cells + 1 ≤ rmX11_write.cells ∧ slots + 6 ≤ rmX11_write.slots) {z : St} {H : Heap} {locs : List Loc} {ls : Array Slot} (hr : zRep D cy B ids A s.heap z H locs) (hl : lv_has ls 9 [(0, .ref (B 11 x0)), (3, .long x3), (5, .int x5), (6, .ref (B 2 x6)), (7, .int x7), (8, .int x8)]) (h : fX11_write_92b N K92 x0 x3 x5 x6 x7 x8 z = some (r, z')) : W p l e rmX11_write s m args below meth c H locs cells slots (vx_MQ below (zQX D cy B ids (fun v => some (.int v)) (fun _ => True) r z' A) (zXC D cy B ids r z' A) args s rmX11_write.cells rmX11_write.slots A) (F0 m 92 ls []) := by
  unfold fX11_write_92b at h
  have hcs0 := zcs_0 hcs1
  refine lv_iload F.1 F.2.1 dX11_write_92 (lv_at hl 5 rfl) ?_
  refine lv_iload F.1 F.2.1 dX11_write_94 (lv_at hl 4 rfl) ?_
  refine lv_icmp_ge (tgt := 129) F.1 F.2.1 dX11_write_96 (by decide) (fun c1 => ?_) (fun c1 => ?_)
  · replace h := zi_t c1 h
    refine lv_aload_n F.1 F.2.1 dX11_write_129 rfl (lv_at hl 0 rfl) ?_
    refine lv_aload F.1 F.2.1 dX11_write_130 (lv_at hl 3 rfl) ?_
    refine gf11_253 F hx6 hr dX11_write_132 (fun y2 ey2 => ?_)
    replace h := zl_sub ey2 h
    have hy2 := zal_g hr hx6 (j := 12) rfl ey2
    clear ey2
    refine lv_iload F.1 F.2.1 dX11_write_135 (lv_at hl 4 rfl) ?_
    refine lv_lload_n F.1 F.2.1 dX11_write_137 rfl (lv_at hl 1 rfl) ?_
    refine lv_bipush (v := (8 : Int32)) F.1 F.2.1 dX11_write_138 (by decide) ?_
    refine lv_iload F.1 F.2.1 dX11_write_140 (lv_at hl 2 rfl) ?_
    refine lv_iload F.1 F.2.1 dX11_write_142 (lv_at hl 4 rfl) ?_
    refine lv_isub F.1 F.2.1 dX11_write_144 ?_
    refine lv_imul F.1 F.2.1 dX11_write_145 ?_
    refine lv_bipush (v := (63 : Int32)) F.1 F.2.1 dX11_write_146 (by decide) ?_
    refine lv_iand F.1 F.2.1 dX11_write_148 ?_
    refine lv_lushr F.1 F.2.1 dX11_write_149 rfl ?_
    replace h := zd_some h
    obtain ⟨a3, rfl, h⟩ := h
    replace h := zc_some h
    obtain ⟨r4, z5, hc6, h⟩ := h
    refine zr_callv (zrun_V (As := [.ref (B 3 a3), .int x7, .long (((x3).toUInt64 >>> (((((8 : Int32) * (x5 - x7)) &&& (63 : Int32))).toInt64.toUInt64 &&& Int64.toUInt64 63)).toInt64)]) (rest := []) zq_1745 zq_1747 zs_X11_noteWriting zq_1748 zq_1 hdX11_noteWriting (by decide) (T := TX11) (N := 21) rfl (okX11_noteWriting l D cy B ids hst N x0 hx0 a3 (hy2 _ rfl) x7  (((x3).toUInt64 >>> (((((8 : Int32) * (x5 - x7)) &&& (63 : Int32))).toInt64.toUInt64 &&& Int64.toUInt64 63)).toInt64)  hr.2.2 hc6) F hr hx0 hl.1 rfl (by decide) dX11_write_150 rfl rfl hroX11_write_X11_noteWriting hcs0) F hA hr (fun H locs hw7 hr => ?_)
    clear hc6
    refine lv_aload_n F.1 F.2.1 dX11_write_153 rfl (lv_at hl 0 rfl) ?_
    refine lv_aload F.1 F.2.1 dX11_write_154 (lv_at hl 3 rfl) ?_
    replace h := zc_some h
    obtain ⟨r8, z9, hc10, h⟩ := h
    refine zr_callv (zrun_V (As := [.ref (B 2 x6)]) (rest := []) zq_1749 zq_1751 zs_X11_wroteTo zq_1752 zq_1 hdX11_wroteTo (by decide) (T := TX11) (N := 21) rfl (okX11_wroteTo l D cy B ids hst N x0 hx0 x6 hx6 hr.2.2 hc10) F hr hx0 hl.1 rfl (by decide) dX11_write_156 rfl rfl hroX11_write_X11_wroteTo hcs0) F hA hr (fun H locs hw11 hr => ?_)
    clear hc10
    refine lv_iload F.1 F.2.1 dX11_write_159 (lv_at hl 4 rfl) ?_
    obtain ⟨rfl, rfl⟩ := zret h
    exact zXe_i F hret hlocks dX11_write_161 hr hcs0.1 hcs0.2
  · replace h := zi_f c1 h
    refine lv_aload F.1 F.2.1 dX11_write_99 (lv_at hl 3 rfl) ?_
    refine gf11_253 F hx6 hr dX11_write_101 (fun y12 ey12 => ?_)
    replace h := zl_sub ey12 h
    have hy12 := zal_g hr hx6 (j := 12) rfl ey12
    clear ey12
    replace h := zd_some h
    obtain ⟨a13, rfl, h⟩ := h
    refine gf11_301 F (hy12 _ rfl) hr dX11_write_104 (fun y14 ey14 => ?_)
    replace h := zl_sub ey14 h
    have hy14 := zal_g hr (hy12 _ rfl) (j := 16) rfl ey14
    clear ey14
    refine lv_lload_n F.1 F.2.1 dX11_write_107 rfl (lv_at hl 1 rfl) ?_
    refine lv_bipush (v := (8 : Int32)) F.1 F.2.1 dX11_write_108 (by decide) ?_
    refine lv_iload F.1 F.2.1 dX11_write_110 (lv_at hl 2 rfl) ?_
    refine lv_iconst (v := (1 : Int32)) F.1 F.2.1 dX11_write_112 (by decide) ?_
    refine lv_isub F.1 F.2.1 dX11_write_113 ?_
    refine lv_iload F.1 F.2.1 dX11_write_114 (lv_at hl 5 rfl) ?_
    refine lv_isub F.1 F.2.1 dX11_write_116 ?_
    refine lv_imul F.1 F.2.1 dX11_write_117 ?_
    refine lv_lushr F.1 F.2.1 dX11_write_118 rfl ?_
    refine lv_l2i F.1 F.2.1 dX11_write_119 rfl ?_
    replace h := zd_some h
    obtain ⟨a15, rfl, h⟩ := h
    replace h := zc_some h
    obtain ⟨r16, z17, hc18, h⟩ := h
    refine zr_callv (zrun_VN (As := [.int (Int64.toInt32 (((x3).toUInt64 >>> ((((8 : Int32) * ((x5 - (1 : Int32)) - x8))).toInt64.toUInt64 &&& Int64.toUInt64 63)).toInt64))]) (rest := []) zn_1741 zq_1743 zs_X6_add zq_1744 zq_14 hdX6_add (by decide) (T := TX6) (N := 14) rfl (okX6_add l D cy B ids hst N a15 (hy14 _ rfl) (Int64.toInt32 (((x3).toUInt64 >>> ((((8 : Int32) * ((x5 - (1 : Int32)) - x8))).toInt64.toUInt64 &&& Int64.toUInt64 63)).toInt64))  hr.2.2 hc18) F hr (hy14 _ rfl) hl.1 rfl (by decide) dX11_write_120 rfl rfl hroX11_write_X6_add hcs0) F hA hr (fun H locs hw19 hr => ?_)
    clear hc18
    obtain ⟨v20, ev20⟩ : ∃ y : Int32, y = (x8 + 1) := ⟨_, rfl⟩
    replace h := zl_sub ev20 h
    refine lv_iinc (v := v20) (lv' := [(8, .int v20), (0, .ref (B 11 x0)), (3, .long x3), (5, .int x5), (6, .ref (B 2 x6)), (7, .int x7)]) F.1 F.2.1 dX11_write_123 hl (k := 5) rfl (by rw [ev20]; rfl) (by decide) rfl (fun ls hl => ?_)
    refine lv_goto (tgt := 92) F.1 F.2.1 dX11_write_126 (by decide) ?_
    exact hK92 x0 x3 x5 x6 x7 v20 hx0 hx6 hcs1 hr (lv_sub hl [1, 2, 3, 4, 5, 0] rfl) h
theorem lX11_write_92 (hst : zSt B ids) (F : zFx p m c cX11_write 9 s args RX11 D cy B ids A) (hA : ∀ q : Nat, s.heap.size ≤ q → A q) (hAd : ∀ q, zAd B ids s.heap.size q ↔ A q) (hlf : l.stackTraces = false) (hret : meth.sig.returnType = (some .int)) (hlocks : meth.locks = false) (htab : ∀ x ∈ c.exceptionTable.toList, False) (hX : zXK A s s.heap) {r : (Int32 ⊕ Nat)} {z' : St} {N : Nat}  : ∀ (n : Nat) (x0 : Nat) (x3 : Int64) (x5 : Int32) (x6 : Nat) (x7 : Int32) (x8 : Int32) (hx0 : (11, x0) ∈ ids) (hx6 : (2, x6) ∈ ids) {cells slots : Nat} (hcs1 : cells + 1 ≤ rmX11_write.cells ∧ slots + 6 ≤ rmX11_write.slots) {z : St} {H : Heap} {locs : List Loc} {ls : Array Slot} (hr : zRep D cy B ids A s.heap z H locs) (hl : lv_has ls 9 [(0, .ref (B 11 x0)), (3, .long x3), (5, .int x5), (6, .ref (B 2 x6)), (7, .int x7), (8, .int x8)]), fX11_write_92 N  n x0 x3 x5 x6 x7 x8 z = some (r, z') → W p l e rmX11_write s m args below meth c H locs cells slots (vx_MQ below (zQX D cy B ids (fun v => some (.int v)) (fun _ => True) r z' A) (zXC D cy B ids r z' A) args s rmX11_write.cells rmX11_write.slots A) (F0 m 92 ls []) := by
  intro n
  induction n with
  | zero => intro x0 x3 x5 x6 x7 x8 hx0 hx6 cells slots hcs1 z H locs ls hr hl h; cases h
  | succ n ih => intro x0 x3 x5 x6 x7 x8 hx0 hx6 cells slots hcs1 z H locs ls hr hl h; exact bX11_write_92 hst F hA hAd hlf hret hlocks htab hX ih x0 x3 x5 x6 x7 x8 hx0 hx6 hcs1 hr hl h
def fX11_write (N : Nat)  (x0 : Nat) (x1 : Int32) (x2 : Int32) (x3 : Int64) (x5 : Int32) (z : St) : Option ((Int32 ⊕ Nat) × St) := zc (fX11_doorOf N x0 x1 x2 z) fun r1 z2 => zo r1 (some (.inr 1, z2)) fun a6 => if x5 < (1 : Int32) then (fX11_write_37 N z2) else (if x5 ≤ (8 : Int32) then (zc (fX2_takesBytes N a6 z2) fun r9 z10 => if ¬ r9 = 0 then (zl (zgR z10 2 12 a6) fun y14 => zd y14 fun a15 => zl (zgR z10 3 16 a15) fun y16 => zd y16 fun a17 => zl (if ((2048 : Int32) - (zgI z10 6 2 a17)) < x5 then ((2048 : Int32) - (zgI z10 6 2 a17)) else x5) fun v18 => fX11_write_92 N N x0 x3 x5 a6 v18 (0 : Int32) z10) else (some (.inr 2, z10))) else (fX11_write_37 N z2))
set_option maxHeartbeats 4000000 in
set_option maxRecDepth 100000 in
theorem bX11_write_0 (hst : zSt B ids) (F : zFx p m c cX11_write 9 s args RX11 D cy B ids A) (hA : ∀ q : Nat, s.heap.size ≤ q → A q) (hAd : ∀ q, zAd B ids s.heap.size q ↔ A q) (hlf : l.stackTraces = false) (hret : meth.sig.returnType = (some .int)) (hlocks : meth.locks = false) (htab : ∀ x ∈ c.exceptionTable.toList, False) (hX : zXK A s s.heap) {r : (Int32 ⊕ Nat)} {z' : St} {N : Nat}  (x0 : Nat) (x1 : Int32) (x2 : Int32) (x3 : Int64) (x5 : Int32) (hx0 : (11, x0) ∈ ids) {cells slots : Nat} (hcs1 : cells + 1 ≤ rmX11_write.cells ∧ slots + 6 ≤ rmX11_write.slots) {z : St} {H : Heap} {locs : List Loc} {ls : Array Slot} (hr : zRep D cy B ids A s.heap z H locs) (hl : lv_has ls 9 [(0, .ref (B 11 x0)), (1, .int x1), (2, .int x2), (3, .long x3), (5, .int x5)]) (h : fX11_write N x0 x1 x2 x3 x5 z = some (r, z')) : W p l e rmX11_write s m args below meth c H locs cells slots (vx_MQ below (zQX D cy B ids (fun v => some (.int v)) (fun _ => True) r z' A) (zXC D cy B ids r z' A) args s rmX11_write.cells rmX11_write.slots A) (F0 m 0 ls []) := by
  unfold fX11_write at h
  have hcs0 := zcs_0 hcs1
  refine lv_aload_n F.1 F.2.1 dX11_write_0 rfl (lv_at hl 0 rfl) ?_
  refine lv_iload_n F.1 F.2.1 dX11_write_1 rfl (lv_at hl 1 rfl) ?_
  refine lv_iload_n F.1 F.2.1 dX11_write_2 rfl (lv_at hl 2 rfl) ?_
  replace h := zc_some h
  obtain ⟨r1, z2, hc3, h⟩ := h
  refine zr_callr (zrun_V (As := [.int x1, .int x2]) (rest := []) zq_1721 zq_1723 zs_X11_doorOf zq_1724 zq_1 hdX11_doorOf (by decide) (T := TX11) (N := 21) rfl (okX11_doorOf l D cy B ids hst N x0 hx0 x1  x2  hr.2.2 hc3) F hr hx0 hl.1 rfl (by decide) dX11_write_3 rfl rfl hroX11_write_X11_doorOf hcs0) F hA hr (fun H locs hw4 hr => ?_)
  clear hc3
  refine zr_astore (lv' := [(6, va_rf (Option.map (B 2) r1)), (0, .ref (B 11 x0)), (1, .int x1), (2, .int x2), (3, .long x3), (5, .int x5)]) F.1 F.2.1 dX11_write_6 hl (by decide) rfl (fun ls hl => ?_)
  refine zr_aload F.1 F.2.1 dX11_write_8 (lv_at hl 0 rfl) ?_
  refine zr_ifnonnull (tgt := 24) F.1 F.2.1 dX11_write_10 (by decide) (fun e5 => ?_) (fun a6 e5 => ?_)
  · replace h := zo_n e5 h
    subst e5
    obtain ⟨rfl, rfl⟩ := zret h
    exact zXtw (text := "no such host or door") hlf F htab hX hlocks hl.1 (Or.inl rfl) zq_870 zq_22 (by decide +kernel) dX11_write_13 dX11_write_16 dX11_write_17 dX11_write_20 dX11_write_23 (by decide) (by decide) hcs1.1 hcs1.2 hr hcs1.1 hcs1.2
  · replace h := zo_s e5 h
    subst e5
    refine lv_iload F.1 F.2.1 dX11_write_24 (lv_at hl 5 rfl) ?_
    refine lv_iconst (v := (1 : Int32)) F.1 F.2.1 dX11_write_26 (by decide) ?_
    refine lv_icmp_lt (tgt := 37) F.1 F.2.1 dX11_write_27 (by decide) (fun c7 => ?_) (fun c7 => ?_)
    · replace h := zi_t c7 h
      exact bX11_write_37 hst F hA hAd hlf hret hlocks htab hX   hcs1 hr (lv_sub hl [] rfl) h
    · replace h := zi_f c7 h
      refine lv_iload F.1 F.2.1 dX11_write_30 (lv_at hl 5 rfl) ?_
      refine lv_bipush (v := (8 : Int32)) F.1 F.2.1 dX11_write_32 (by decide) ?_
      refine lv_icmp_le (tgt := 48) F.1 F.2.1 dX11_write_34 (by decide) (fun c8 => ?_) (fun c8 => ?_)
      · replace h := zi_t c8 h
        refine lv_aload F.1 F.2.1 dX11_write_48 (lv_at hl 0 rfl) ?_
        replace h := zc_some h
        obtain ⟨r9, z10, hc11, h⟩ := h
        refine zr_calli (zrun_VN (As := []) (rest := []) zn_1735 zq_1737 zs_X2_takesBytes zq_1738 zq_12 hdX2_takesBytes (by decide) (T := TX2) (N := 13) rfl (okX2_takesBytes l D cy B ids hst N a6 (hw4 _ rfl) hr.2.2 hc11) F hr (hw4 _ rfl) hl.1 rfl (by decide) dX11_write_50 rfl rfl hroX11_write_X2_takesBytes hcs0) F hA hr (fun H locs hw12 hr => ?_)
        clear hc11
        refine lv_if_ne (tgt := 67) F.1 F.2.1 dX11_write_53 (by decide) (fun c13 => ?_) (fun c13 => ?_)
        · replace h := zi_t c13 h
          refine lv_iload F.1 F.2.1 dX11_write_67 (lv_at hl 5 rfl) ?_
          refine lv_sipush (v := (2048 : Int32)) F.1 F.2.1 dX11_write_69 (by decide) ?_
          refine lv_aload F.1 F.2.1 dX11_write_72 (lv_at hl 0 rfl) ?_
          refine gf11_253 F (hw4 _ rfl) hr dX11_write_74 (fun y14 ey14 => ?_)
          replace h := zl_sub ey14 h
          have hy14 := zal_g hr (hw4 _ rfl) (j := 12) rfl ey14
          clear ey14
          replace h := zd_some h
          obtain ⟨a15, rfl, h⟩ := h
          refine gf11_301 F (hy14 _ rfl) hr dX11_write_77 (fun y16 ey16 => ?_)
          replace h := zl_sub ey16 h
          have hy16 := zal_g hr (hy14 _ rfl) (j := 16) rfl ey16
          clear ey16
          replace h := zd_some h
          obtain ⟨a17, rfl, h⟩ := h
          refine gf11_305 F (hy16 _ rfl) hr dX11_write_80 ?_
          refine lv_isub F.1 F.2.1 dX11_write_83 ?_
          refine va_mmin F.1 F.2.1 (F.2.2.1.trans hl.1.symm) F.2.2.2.1 (F.2.2.2.2.1 _ zq_303) (F.2.2.2.2.1 _ zq_304) (F.2.2.2.2.1 _ zq_27) (F.2.2.2.2.1 _ zq_305) (Nat.le_of_ble_eq_true rfl) (Nat.le_of_ble_eq_true rfl) hcs0.1 hcs0.2 dX11_write_84 ?_
          refine lv_topi (fun v18 ev18 => ?_)
          replace h := zl_sub ev18 h
          refine lv_istore (lv' := [(7, .int v18), (6, .ref (B 2 a6)), (0, .ref (B 11 x0)), (1, .int x1), (2, .int x2), (3, .long x3), (5, .int x5)]) F.1 F.2.1 dX11_write_87 hl (by decide) rfl (fun ls hl => ?_)
          refine lv_iconst (v := (0 : Int32)) F.1 F.2.1 dX11_write_89 (by decide) ?_
          refine lv_istore (lv' := [(8, .int (0 : Int32)), (7, .int v18), (6, .ref (B 2 a6)), (0, .ref (B 11 x0)), (1, .int x1), (2, .int x2), (3, .long x3), (5, .int x5)]) F.1 F.2.1 dX11_write_90 hl (by decide) rfl (fun ls hl => ?_)
          exact lX11_write_92 hst F hA hAd hlf hret hlocks htab hX  _ x0 x3 x5 a6 v18 (0 : Int32) hx0 (hw4 _ rfl) hcs1 hr (lv_sub hl [3, 6, 7, 2, 1, 0] rfl) h
        · replace h := zi_f (fun q => q c13) h
          obtain ⟨rfl, rfl⟩ := zret h
          exact zXtw (text := "the door takes no bytes") hlf F htab hX hlocks hl.1 (Or.inr rfl) zq_335 zq_8 (by decide +kernel) dX11_write_56 dX11_write_59 dX11_write_60 dX11_write_63 dX11_write_66 (by decide) (by decide) hcs1.1 hcs1.2 hr hcs1.1 hcs1.2
      · replace h := zi_f c8 h
        exact bX11_write_37 hst F hA hAd hlf hret hlocks htab hX   hcs1 hr (lv_sub hl [] rfl) h
end SX11_write
set_option maxRecDepth 100000 in
theorem okX11_write (l : Launch) (hlf : l.stackTraces = false) (D : va_G) (cy : Nat → ClassId) (B : Nat → Nat → Nat) (ids : List (Nat × Nat)) (hst : zSt B ids) (N : Nat) (x0 : Nat) (hx0 : (11, x0) ∈ ids) (x1 : Int32) (x2 : Int32) (x3 : Int64) (x5 : Int32) {z : St} {r : (Int32 ⊕ Nat)} {z' : St} (hW : zWf ids z) (h : fX11_write N x0 x1 x2 x3 x5 z = some (r, z')) : zMX l yX11_write (zws yX11_write cX11_write 9 (some .int)) rmX11_write D cy B ids [.ref (B 11 x0), .int x1, .int x2, .long x3, .int x5] (fun v => some (.int v)) (fun _ => True) r z z' :=
  zMX_of hst hW (by decide +kernel) (Nat.le_of_ble_eq_true rfl) (fun p e s m args below meth c A ls F hA hAd hret hlocks htab hX hr hl => bX11_write_0 hst F hA hAd hlf hret hlocks htab hX x0 x1 x2 x3 x5 hx0 (by decide) hr hl h)
abbrev rmX11_fill : Room := { frames := 6, cells := 1, slots := 6, locals := 100 }
theorem hdX11_fill : yX11_fill.cls ≠ "java/lang/invoke/MethodHandle" ∧ yX11_fill.cls ≠ "java/lang/invoke/VarHandle" ∧ (parseMethodDescriptor yX11_fill.desc).map (fun d => d.parameters.length) = some 5 := by decide +kernel
theorem hroX11_fill_X11_doorOf : rmX11_doorOf.frames + 1 ≤ rmX11_fill.frames ∧ 8 + (4 + 11) + rmX11_doorOf.locals ≤ rmX11_fill.locals := by decide
theorem hroX11_fill_X11_noteWriting : rmX11_noteWriting.frames + 1 ≤ rmX11_fill.frames ∧ 8 + (5 + 11) + rmX11_noteWriting.locals ≤ rmX11_fill.locals := by decide
theorem hroX11_fill_X11_wroteTo : rmX11_wroteTo.frames + 1 ≤ rmX11_fill.frames ∧ 8 + (2 + 11) + rmX11_wroteTo.locals ≤ rmX11_fill.locals := by decide
theorem hroX11_fill_X2_takesBytes : rmX2_takesBytes.frames + 1 ≤ rmX11_fill.frames ∧ 8 + (1 + 11) + rmX2_takesBytes.locals ≤ rmX11_fill.locals := by decide
theorem hroX11_fill_X6_add : rmX6_add.frames + 1 ≤ rmX11_fill.frames ∧ 8 + (2 + 11) + rmX6_add.locals ≤ rmX11_fill.locals := by decide
section SX11_fill
variable {p : Program} {l : Launch} {e : Env} {s : State} {m : MethodId} {args : Array Value} {below : List Frame} {meth : Method} {c : Code} {Q : State → Prop} {D : va_G} {cy : Nat → ClassId} {B : Nat → Nat → Nat} {ids : List (Nat × Nat)} {A : Nat → Prop}
def fX11_fill_38 (N : Nat)   (z : St) : Option ((Int32 ⊕ Nat) × St) := some (.inr 1, z)
set_option maxHeartbeats 4000000 in
set_option maxRecDepth 100000 in
theorem bX11_fill_38 (hst : zSt B ids) (F : zFx p m c cX11_fill 9 s args RX11 D cy B ids A) (hA : ∀ q : Nat, s.heap.size ≤ q → A q) (hAd : ∀ q, zAd B ids s.heap.size q ↔ A q) (hlf : l.stackTraces = false) (hret : meth.sig.returnType = (some .int)) (hlocks : meth.locks = false) (htab : ∀ x ∈ c.exceptionTable.toList, False) (hX : zXK A s s.heap) {r : (Int32 ⊕ Nat)} {z' : St} {N : Nat}    {cells slots : Nat} (hcs1 : cells + 1 ≤ rmX11_fill.cells ∧ slots + 6 ≤ rmX11_fill.slots) {z : St} {H : Heap} {locs : List Loc} {ls : Array Slot} (hr : zRep D cy B ids A s.heap z H locs) (hl : lv_has ls 9 []) (h : fX11_fill_38 N z = some (r, z')) : W p l e rmX11_fill s m args below meth c H locs cells slots (vx_MQ below (zQX D cy B ids (fun v => some (.int v)) (fun _ => True) r z' A) (zXC D cy B ids r z' A) args s rmX11_fill.cells rmX11_fill.slots A) (F0 m 38 ls []) := by
  unfold fX11_fill_38 at h
  have hcs0 := zcs_0 hcs1
  obtain ⟨rfl, rfl⟩ := zret h
  exact zXtw (text := "n is not 1 .. 2048") hlf F htab hX hlocks hl.1 (Or.inl rfl) zq_870 zq_22 (by decide +kernel) dX11_fill_38 dX11_fill_41 dX11_fill_42 dX11_fill_45 dX11_fill_48 (by decide) (by decide) hcs1.1 hcs1.2 hr hcs1.1 hcs1.2
def fX11_fill_93b (N : Nat) (K93 : Nat → Int32 → Int32 → Nat → Int32 → Int32 → St → Option ((Int32 ⊕ Nat) × St)) (x0 : Nat) (x3 : Int32) (x4 : Int32) (x6 : Nat) (x7 : Int32) (x8 : Int32) (z : St) : Option ((Int32 ⊕ Nat) × St) := if x7 ≤ x8 then (zl (zgR z 2 12 x6) fun y2 => zd y2 fun a3 => zc (fX11_noteWriting N x0 a3 (x7 + (4096 : Int32)) (((Int32.toInt64 (x4 &&& (255 : Int32))) <<< (((8 : Int32)).toInt64 &&& 63)) ||| (Int32.toInt64 (x3 &&& (255 : Int32)))) z) fun _ z5 => zc (fX11_wroteTo N x0 x6 z5) fun _ z9 => some (.inl x7, z9)) else (zl (zgR z 2 12 x6) fun y12 => zd y12 fun a13 => zl (zgR z 3 16 a13) fun y14 => zd y14 fun a15 => zc (fX6_add N a15 (x3 + (x8 * x4)) z) fun _ z17 => zl (x8 + 1) fun v20 => K93 x0 x3 x4 x6 x7 v20 z17)
def fX11_fill_93 (N : Nat)  : Nat → Nat → Int32 → Int32 → Nat → Int32 → Int32 → St → Option ((Int32 ⊕ Nat) × St)
  | 0 => fun _ _ _ _ _ _ _ => none
  | n + 1 => fX11_fill_93b N (fX11_fill_93 N  n)
set_option maxHeartbeats 4000000 in
set_option maxRecDepth 100000 in
theorem bX11_fill_93 (hst : zSt B ids) (F : zFx p m c cX11_fill 9 s args RX11 D cy B ids A) (hA : ∀ q : Nat, s.heap.size ≤ q → A q) (hAd : ∀ q, zAd B ids s.heap.size q ↔ A q) (hlf : l.stackTraces = false) (hret : meth.sig.returnType = (some .int)) (hlocks : meth.locks = false) (htab : ∀ x ∈ c.exceptionTable.toList, False) (hX : zXK A s s.heap) {r : (Int32 ⊕ Nat)} {z' : St} {N : Nat} {K93 : Nat → Int32 → Int32 → Nat → Int32 → Int32 → St → Option ((Int32 ⊕ Nat) × St)} (hK93 : ∀ (x0 : Nat) (x3 : Int32) (x4 : Int32) (x6 : Nat) (x7 : Int32) (x8 : Int32) (hx0 : (11, x0) ∈ ids) (hx6 : (2, x6) ∈ ids) {cells slots : Nat} (hcs1 : cells + 1 ≤ rmX11_fill.cells ∧ slots + 6 ≤ rmX11_fill.slots) {z : St} {H : Heap} {locs : List Loc} {ls : Array Slot} (hr : zRep D cy B ids A s.heap z H locs) (hl : lv_has ls 9 [(0, .ref (B 11 x0)), (3, .int x3), (4, .int x4), (6, .ref (B 2 x6)), (7, .int x7), (8, .int x8)]), K93 x0 x3 x4 x6 x7 x8 z = some (r, z') → W p l e rmX11_fill s m args below meth c H locs cells slots (vx_MQ below (zQX D cy B ids (fun v => some (.int v)) (fun _ => True) r z' A) (zXC D cy B ids r z' A) args s rmX11_fill.cells rmX11_fill.slots A) (F0 m 93 ls [])) (x0 : Nat) (x3 : Int32) (x4 : Int32) (x6 : Nat) (x7 : Int32) (x8 : Int32) (hx0 : (11, x0) ∈ ids) (hx6 : (2, x6) ∈ ids) {cells slots : Nat} (hcs1 : cells + 1 ≤ rmX11_fill.cells ∧ slots + 6 ≤ rmX11_fill.slots) {z : St} {H : Heap} {locs : List Loc} {ls : Array Slot} (hr : zRep D cy B ids A s.heap z H locs) (hl : lv_has ls 9 [(0, .ref (B 11 x0)), (3, .int x3), (4, .int x4), (6, .ref (B 2 x6)), (7, .int x7), (8, .int x8)]) (h : fX11_fill_93b N K93 x0 x3 x4 x6 x7 x8 z = some (r, z')) : W p l e rmX11_fill s m args below meth c H locs cells slots (vx_MQ below (zQX D cy B ids (fun v => some (.int v)) (fun _ => True) r z' A) (zXC D cy B ids r z' A) args s rmX11_fill.cells rmX11_fill.slots A) (F0 m 93 ls []) := by
  unfold fX11_fill_93b at h
  have hcs0 := zcs_0 hcs1
  refine lv_iload F.1 F.2.1 dX11_fill_93 (lv_at hl 5 rfl) ?_
  refine lv_iload F.1 F.2.1 dX11_fill_95 (lv_at hl 4 rfl) ?_
  refine lv_icmp_ge (tgt := 124) F.1 F.2.1 dX11_fill_97 (by decide) (fun c1 => ?_) (fun c1 => ?_)
  · replace h := zi_t c1 h
    refine lv_aload_n F.1 F.2.1 dX11_fill_124 rfl (lv_at hl 0 rfl) ?_
    refine lv_aload F.1 F.2.1 dX11_fill_125 (lv_at hl 3 rfl) ?_
    refine gf11_253 F hx6 hr dX11_fill_127 (fun y2 ey2 => ?_)
    replace h := zl_sub ey2 h
    have hy2 := zal_g hr hx6 (j := 12) rfl ey2
    clear ey2
    refine lv_iload F.1 F.2.1 dX11_fill_130 (lv_at hl 4 rfl) ?_
    refine lv_sipush (v := (4096 : Int32)) F.1 F.2.1 dX11_fill_132 (by decide) ?_
    refine lv_iadd F.1 F.2.1 dX11_fill_135 ?_
    refine lv_iload F.1 F.2.1 dX11_fill_136 (lv_at hl 2 rfl) ?_
    refine lv_sipush (v := (255 : Int32)) F.1 F.2.1 dX11_fill_138 (by decide) ?_
    refine lv_iand F.1 F.2.1 dX11_fill_141 ?_
    refine lv_i2l F.1 F.2.1 dX11_fill_142 rfl ?_
    refine lv_bipush (v := (8 : Int32)) F.1 F.2.1 dX11_fill_143 (by decide) ?_
    refine lv_lshl F.1 F.2.1 dX11_fill_145 rfl ?_
    refine lv_iload_n F.1 F.2.1 dX11_fill_146 rfl (lv_at hl 1 rfl) ?_
    refine lv_sipush (v := (255 : Int32)) F.1 F.2.1 dX11_fill_147 (by decide) ?_
    refine lv_iand F.1 F.2.1 dX11_fill_150 ?_
    refine lv_i2l F.1 F.2.1 dX11_fill_151 rfl ?_
    refine lv_lor F.1 F.2.1 dX11_fill_152 ?_
    replace h := zd_some h
    obtain ⟨a3, rfl, h⟩ := h
    replace h := zc_some h
    obtain ⟨r4, z5, hc6, h⟩ := h
    refine zr_callv (zrun_V (As := [.ref (B 3 a3), .int (x7 + (4096 : Int32)), .long (((Int32.toInt64 (x4 &&& (255 : Int32))) <<< (((8 : Int32)).toInt64 &&& 63)) ||| (Int32.toInt64 (x3 &&& (255 : Int32))))]) (rest := []) zq_1745 zq_1747 zs_X11_noteWriting zq_1748 zq_1 hdX11_noteWriting (by decide) (T := TX11) (N := 21) rfl (okX11_noteWriting l D cy B ids hst N x0 hx0 a3 (hy2 _ rfl) (x7 + (4096 : Int32))  (((Int32.toInt64 (x4 &&& (255 : Int32))) <<< (((8 : Int32)).toInt64 &&& 63)) ||| (Int32.toInt64 (x3 &&& (255 : Int32))))  hr.2.2 hc6) F hr hx0 hl.1 rfl (by decide) dX11_fill_153 rfl rfl hroX11_fill_X11_noteWriting hcs0) F hA hr (fun H locs hw7 hr => ?_)
    clear hc6
    refine lv_aload_n F.1 F.2.1 dX11_fill_156 rfl (lv_at hl 0 rfl) ?_
    refine lv_aload F.1 F.2.1 dX11_fill_157 (lv_at hl 3 rfl) ?_
    replace h := zc_some h
    obtain ⟨r8, z9, hc10, h⟩ := h
    refine zr_callv (zrun_V (As := [.ref (B 2 x6)]) (rest := []) zq_1749 zq_1751 zs_X11_wroteTo zq_1752 zq_1 hdX11_wroteTo (by decide) (T := TX11) (N := 21) rfl (okX11_wroteTo l D cy B ids hst N x0 hx0 x6 hx6 hr.2.2 hc10) F hr hx0 hl.1 rfl (by decide) dX11_fill_159 rfl rfl hroX11_fill_X11_wroteTo hcs0) F hA hr (fun H locs hw11 hr => ?_)
    clear hc10
    refine lv_iload F.1 F.2.1 dX11_fill_162 (lv_at hl 4 rfl) ?_
    obtain ⟨rfl, rfl⟩ := zret h
    exact zXe_i F hret hlocks dX11_fill_164 hr hcs0.1 hcs0.2
  · replace h := zi_f c1 h
    refine lv_aload F.1 F.2.1 dX11_fill_100 (lv_at hl 3 rfl) ?_
    refine gf11_253 F hx6 hr dX11_fill_102 (fun y12 ey12 => ?_)
    replace h := zl_sub ey12 h
    have hy12 := zal_g hr hx6 (j := 12) rfl ey12
    clear ey12
    replace h := zd_some h
    obtain ⟨a13, rfl, h⟩ := h
    refine gf11_301 F (hy12 _ rfl) hr dX11_fill_105 (fun y14 ey14 => ?_)
    replace h := zl_sub ey14 h
    have hy14 := zal_g hr (hy12 _ rfl) (j := 16) rfl ey14
    clear ey14
    refine lv_iload_n F.1 F.2.1 dX11_fill_108 rfl (lv_at hl 1 rfl) ?_
    refine lv_iload F.1 F.2.1 dX11_fill_109 (lv_at hl 5 rfl) ?_
    refine lv_iload F.1 F.2.1 dX11_fill_111 (lv_at hl 2 rfl) ?_
    refine lv_imul F.1 F.2.1 dX11_fill_113 ?_
    refine lv_iadd F.1 F.2.1 dX11_fill_114 ?_
    replace h := zd_some h
    obtain ⟨a15, rfl, h⟩ := h
    replace h := zc_some h
    obtain ⟨r16, z17, hc18, h⟩ := h
    refine zr_callv (zrun_VN (As := [.int (x3 + (x8 * x4))]) (rest := []) zn_1741 zq_1743 zs_X6_add zq_1744 zq_14 hdX6_add (by decide) (T := TX6) (N := 14) rfl (okX6_add l D cy B ids hst N a15 (hy14 _ rfl) (x3 + (x8 * x4))  hr.2.2 hc18) F hr (hy14 _ rfl) hl.1 rfl (by decide) dX11_fill_115 rfl rfl hroX11_fill_X6_add hcs0) F hA hr (fun H locs hw19 hr => ?_)
    clear hc18
    obtain ⟨v20, ev20⟩ : ∃ y : Int32, y = (x8 + 1) := ⟨_, rfl⟩
    replace h := zl_sub ev20 h
    refine lv_iinc (v := v20) (lv' := [(8, .int v20), (0, .ref (B 11 x0)), (3, .int x3), (4, .int x4), (6, .ref (B 2 x6)), (7, .int x7)]) F.1 F.2.1 dX11_fill_118 hl (k := 5) rfl (by rw [ev20]; rfl) (by decide) rfl (fun ls hl => ?_)
    refine lv_goto (tgt := 93) F.1 F.2.1 dX11_fill_121 (by decide) ?_
    exact hK93 x0 x3 x4 x6 x7 v20 hx0 hx6 hcs1 hr (lv_sub hl [1, 2, 3, 4, 5, 0] rfl) h
theorem lX11_fill_93 (hst : zSt B ids) (F : zFx p m c cX11_fill 9 s args RX11 D cy B ids A) (hA : ∀ q : Nat, s.heap.size ≤ q → A q) (hAd : ∀ q, zAd B ids s.heap.size q ↔ A q) (hlf : l.stackTraces = false) (hret : meth.sig.returnType = (some .int)) (hlocks : meth.locks = false) (htab : ∀ x ∈ c.exceptionTable.toList, False) (hX : zXK A s s.heap) {r : (Int32 ⊕ Nat)} {z' : St} {N : Nat}  : ∀ (n : Nat) (x0 : Nat) (x3 : Int32) (x4 : Int32) (x6 : Nat) (x7 : Int32) (x8 : Int32) (hx0 : (11, x0) ∈ ids) (hx6 : (2, x6) ∈ ids) {cells slots : Nat} (hcs1 : cells + 1 ≤ rmX11_fill.cells ∧ slots + 6 ≤ rmX11_fill.slots) {z : St} {H : Heap} {locs : List Loc} {ls : Array Slot} (hr : zRep D cy B ids A s.heap z H locs) (hl : lv_has ls 9 [(0, .ref (B 11 x0)), (3, .int x3), (4, .int x4), (6, .ref (B 2 x6)), (7, .int x7), (8, .int x8)]), fX11_fill_93 N  n x0 x3 x4 x6 x7 x8 z = some (r, z') → W p l e rmX11_fill s m args below meth c H locs cells slots (vx_MQ below (zQX D cy B ids (fun v => some (.int v)) (fun _ => True) r z' A) (zXC D cy B ids r z' A) args s rmX11_fill.cells rmX11_fill.slots A) (F0 m 93 ls []) := by
  intro n
  induction n with
  | zero => intro x0 x3 x4 x6 x7 x8 hx0 hx6 cells slots hcs1 z H locs ls hr hl h; cases h
  | succ n ih => intro x0 x3 x4 x6 x7 x8 hx0 hx6 cells slots hcs1 z H locs ls hr hl h; exact bX11_fill_93 hst F hA hAd hlf hret hlocks htab hX ih x0 x3 x4 x6 x7 x8 hx0 hx6 hcs1 hr hl h
def fX11_fill (N : Nat)  (x0 : Nat) (x1 : Int32) (x2 : Int32) (x3 : Int32) (x4 : Int32) (x5 : Int32) (z : St) : Option ((Int32 ⊕ Nat) × St) := zc (fX11_doorOf N x0 x1 x2 z) fun r1 z2 => zo r1 (some (.inr 1, z2)) fun a6 => if x5 < (1 : Int32) then (fX11_fill_38 N z2) else (if x5 ≤ (2048 : Int32) then (zc (fX2_takesBytes N a6 z2) fun r9 z10 => if ¬ r9 = 0 then (zl (zgR z10 2 12 a6) fun y14 => zd y14 fun a15 => zl (zgR z10 3 16 a15) fun y16 => zd y16 fun a17 => zl (if ((2048 : Int32) - (zgI z10 6 2 a17)) < x5 then ((2048 : Int32) - (zgI z10 6 2 a17)) else x5) fun v18 => fX11_fill_93 N N x0 x3 x4 a6 v18 (0 : Int32) z10) else (some (.inr 2, z10))) else (fX11_fill_38 N z2))
set_option maxHeartbeats 4000000 in
set_option maxRecDepth 100000 in
theorem bX11_fill_0 (hst : zSt B ids) (F : zFx p m c cX11_fill 9 s args RX11 D cy B ids A) (hA : ∀ q : Nat, s.heap.size ≤ q → A q) (hAd : ∀ q, zAd B ids s.heap.size q ↔ A q) (hlf : l.stackTraces = false) (hret : meth.sig.returnType = (some .int)) (hlocks : meth.locks = false) (htab : ∀ x ∈ c.exceptionTable.toList, False) (hX : zXK A s s.heap) {r : (Int32 ⊕ Nat)} {z' : St} {N : Nat}  (x0 : Nat) (x1 : Int32) (x2 : Int32) (x3 : Int32) (x4 : Int32) (x5 : Int32) (hx0 : (11, x0) ∈ ids) {cells slots : Nat} (hcs1 : cells + 1 ≤ rmX11_fill.cells ∧ slots + 6 ≤ rmX11_fill.slots) {z : St} {H : Heap} {locs : List Loc} {ls : Array Slot} (hr : zRep D cy B ids A s.heap z H locs) (hl : lv_has ls 9 [(0, .ref (B 11 x0)), (1, .int x1), (2, .int x2), (3, .int x3), (4, .int x4), (5, .int x5)]) (h : fX11_fill N x0 x1 x2 x3 x4 x5 z = some (r, z')) : W p l e rmX11_fill s m args below meth c H locs cells slots (vx_MQ below (zQX D cy B ids (fun v => some (.int v)) (fun _ => True) r z' A) (zXC D cy B ids r z' A) args s rmX11_fill.cells rmX11_fill.slots A) (F0 m 0 ls []) := by
  unfold fX11_fill at h
  have hcs0 := zcs_0 hcs1
  refine lv_aload_n F.1 F.2.1 dX11_fill_0 rfl (lv_at hl 0 rfl) ?_
  refine lv_iload_n F.1 F.2.1 dX11_fill_1 rfl (lv_at hl 1 rfl) ?_
  refine lv_iload_n F.1 F.2.1 dX11_fill_2 rfl (lv_at hl 2 rfl) ?_
  replace h := zc_some h
  obtain ⟨r1, z2, hc3, h⟩ := h
  refine zr_callr (zrun_V (As := [.int x1, .int x2]) (rest := []) zq_1721 zq_1723 zs_X11_doorOf zq_1724 zq_1 hdX11_doorOf (by decide) (T := TX11) (N := 21) rfl (okX11_doorOf l D cy B ids hst N x0 hx0 x1  x2  hr.2.2 hc3) F hr hx0 hl.1 rfl (by decide) dX11_fill_3 rfl rfl hroX11_fill_X11_doorOf hcs0) F hA hr (fun H locs hw4 hr => ?_)
  clear hc3
  refine zr_astore (lv' := [(6, va_rf (Option.map (B 2) r1)), (0, .ref (B 11 x0)), (1, .int x1), (2, .int x2), (3, .int x3), (4, .int x4), (5, .int x5)]) F.1 F.2.1 dX11_fill_6 hl (by decide) rfl (fun ls hl => ?_)
  refine zr_aload F.1 F.2.1 dX11_fill_8 (lv_at hl 0 rfl) ?_
  refine zr_ifnonnull (tgt := 24) F.1 F.2.1 dX11_fill_10 (by decide) (fun e5 => ?_) (fun a6 e5 => ?_)
  · replace h := zo_n e5 h
    subst e5
    obtain ⟨rfl, rfl⟩ := zret h
    exact zXtw (text := "no such host or door") hlf F htab hX hlocks hl.1 (Or.inl rfl) zq_870 zq_22 (by decide +kernel) dX11_fill_13 dX11_fill_16 dX11_fill_17 dX11_fill_20 dX11_fill_23 (by decide) (by decide) hcs1.1 hcs1.2 hr hcs1.1 hcs1.2
  · replace h := zo_s e5 h
    subst e5
    refine lv_iload F.1 F.2.1 dX11_fill_24 (lv_at hl 6 rfl) ?_
    refine lv_iconst (v := (1 : Int32)) F.1 F.2.1 dX11_fill_26 (by decide) ?_
    refine lv_icmp_lt (tgt := 38) F.1 F.2.1 dX11_fill_27 (by decide) (fun c7 => ?_) (fun c7 => ?_)
    · replace h := zi_t c7 h
      exact bX11_fill_38 hst F hA hAd hlf hret hlocks htab hX   hcs1 hr (lv_sub hl [] rfl) h
    · replace h := zi_f c7 h
      refine lv_iload F.1 F.2.1 dX11_fill_30 (lv_at hl 6 rfl) ?_
      refine lv_sipush (v := (2048 : Int32)) F.1 F.2.1 dX11_fill_32 (by decide) ?_
      refine lv_icmp_le (tgt := 49) F.1 F.2.1 dX11_fill_35 (by decide) (fun c8 => ?_) (fun c8 => ?_)
      · replace h := zi_t c8 h
        refine lv_aload F.1 F.2.1 dX11_fill_49 (lv_at hl 0 rfl) ?_
        replace h := zc_some h
        obtain ⟨r9, z10, hc11, h⟩ := h
        refine zr_calli (zrun_VN (As := []) (rest := []) zn_1735 zq_1737 zs_X2_takesBytes zq_1738 zq_12 hdX2_takesBytes (by decide) (T := TX2) (N := 13) rfl (okX2_takesBytes l D cy B ids hst N a6 (hw4 _ rfl) hr.2.2 hc11) F hr (hw4 _ rfl) hl.1 rfl (by decide) dX11_fill_51 rfl rfl hroX11_fill_X2_takesBytes hcs0) F hA hr (fun H locs hw12 hr => ?_)
        clear hc11
        refine lv_if_ne (tgt := 68) F.1 F.2.1 dX11_fill_54 (by decide) (fun c13 => ?_) (fun c13 => ?_)
        · replace h := zi_t c13 h
          refine lv_iload F.1 F.2.1 dX11_fill_68 (lv_at hl 6 rfl) ?_
          refine lv_sipush (v := (2048 : Int32)) F.1 F.2.1 dX11_fill_70 (by decide) ?_
          refine lv_aload F.1 F.2.1 dX11_fill_73 (lv_at hl 0 rfl) ?_
          refine gf11_253 F (hw4 _ rfl) hr dX11_fill_75 (fun y14 ey14 => ?_)
          replace h := zl_sub ey14 h
          have hy14 := zal_g hr (hw4 _ rfl) (j := 12) rfl ey14
          clear ey14
          replace h := zd_some h
          obtain ⟨a15, rfl, h⟩ := h
          refine gf11_301 F (hy14 _ rfl) hr dX11_fill_78 (fun y16 ey16 => ?_)
          replace h := zl_sub ey16 h
          have hy16 := zal_g hr (hy14 _ rfl) (j := 16) rfl ey16
          clear ey16
          replace h := zd_some h
          obtain ⟨a17, rfl, h⟩ := h
          refine gf11_305 F (hy16 _ rfl) hr dX11_fill_81 ?_
          refine lv_isub F.1 F.2.1 dX11_fill_84 ?_
          refine va_mmin F.1 F.2.1 (F.2.2.1.trans hl.1.symm) F.2.2.2.1 (F.2.2.2.2.1 _ zq_303) (F.2.2.2.2.1 _ zq_304) (F.2.2.2.2.1 _ zq_27) (F.2.2.2.2.1 _ zq_305) (Nat.le_of_ble_eq_true rfl) (Nat.le_of_ble_eq_true rfl) hcs0.1 hcs0.2 dX11_fill_85 ?_
          refine lv_topi (fun v18 ev18 => ?_)
          replace h := zl_sub ev18 h
          refine lv_istore (lv' := [(7, .int v18), (6, .ref (B 2 a6)), (0, .ref (B 11 x0)), (1, .int x1), (2, .int x2), (3, .int x3), (4, .int x4), (5, .int x5)]) F.1 F.2.1 dX11_fill_88 hl (by decide) rfl (fun ls hl => ?_)
          refine lv_iconst (v := (0 : Int32)) F.1 F.2.1 dX11_fill_90 (by decide) ?_
          refine lv_istore (lv' := [(8, .int (0 : Int32)), (7, .int v18), (6, .ref (B 2 a6)), (0, .ref (B 11 x0)), (1, .int x1), (2, .int x2), (3, .int x3), (4, .int x4), (5, .int x5)]) F.1 F.2.1 dX11_fill_91 hl (by decide) rfl (fun ls hl => ?_)
          exact lX11_fill_93 hst F hA hAd hlf hret hlocks htab hX  _ x0 x3 x4 a6 v18 (0 : Int32) hx0 (hw4 _ rfl) hcs1 hr (lv_sub hl [3, 6, 7, 2, 1, 0] rfl) h
        · replace h := zi_f (fun q => q c13) h
          obtain ⟨rfl, rfl⟩ := zret h
          exact zXtw (text := "the door takes no bytes") hlf F htab hX hlocks hl.1 (Or.inr rfl) zq_335 zq_8 (by decide +kernel) dX11_fill_57 dX11_fill_60 dX11_fill_61 dX11_fill_64 dX11_fill_67 (by decide) (by decide) hcs1.1 hcs1.2 hr hcs1.1 hcs1.2
      · replace h := zi_f c8 h
        exact bX11_fill_38 hst F hA hAd hlf hret hlocks htab hX   hcs1 hr (lv_sub hl [] rfl) h
end SX11_fill
set_option maxRecDepth 100000 in
theorem okX11_fill (l : Launch) (hlf : l.stackTraces = false) (D : va_G) (cy : Nat → ClassId) (B : Nat → Nat → Nat) (ids : List (Nat × Nat)) (hst : zSt B ids) (N : Nat) (x0 : Nat) (hx0 : (11, x0) ∈ ids) (x1 : Int32) (x2 : Int32) (x3 : Int32) (x4 : Int32) (x5 : Int32) {z : St} {r : (Int32 ⊕ Nat)} {z' : St} (hW : zWf ids z) (h : fX11_fill N x0 x1 x2 x3 x4 x5 z = some (r, z')) : zMX l yX11_fill (zws yX11_fill cX11_fill 9 (some .int)) rmX11_fill D cy B ids [.ref (B 11 x0), .int x1, .int x2, .int x3, .int x4, .int x5] (fun v => some (.int v)) (fun _ => True) r z z' :=
  zMX_of hst hW (by decide +kernel) (Nat.le_of_ble_eq_true rfl) (fun p e s m args below meth c A ls F hA hAd hret hlocks htab hX hr hl => bX11_fill_0 hst F hA hAd hlf hret hlocks htab hX x0 x1 x2 x3 x4 x5 hx0 (by decide) hr hl h)
abbrev rmX11_readableDoor : Room := { frames := 6, cells := 1, slots := 6, locals := 100 }
theorem hdX11_readableDoor : yX11_readableDoor.cls ≠ "java/lang/invoke/MethodHandle" ∧ yX11_readableDoor.cls ≠ "java/lang/invoke/VarHandle" ∧ (parseMethodDescriptor yX11_readableDoor.desc).map (fun d => d.parameters.length) = some 2 := by decide +kernel
theorem hroX11_readableDoor_X11_doorOf : rmX11_doorOf.frames + 1 ≤ rmX11_readableDoor.frames ∧ 8 + (4 + 11) + rmX11_doorOf.locals ≤ rmX11_readableDoor.locals := by decide
theorem hroX11_readableDoor_X3_isDead : rmX3_isDead.frames + 1 ≤ rmX11_readableDoor.frames ∧ 8 + (1 + 11) + rmX3_isDead.locals ≤ rmX11_readableDoor.locals := by decide
section SX11_readableDoor
variable {p : Program} {l : Launch} {e : Env} {s : State} {m : MethodId} {args : Array Value} {below : List Frame} {meth : Method} {c : Code} {Q : State → Prop} {D : va_G} {cy : Nat → ClassId} {B : Nat → Nat → Nat} {ids : List (Nat × Nat)} {A : Nat → Prop}
def fX11_readableDoor_86 (N : Nat)   (z : St) : Option ((Option Nat ⊕ Nat) × St) := some (.inr 2, z)
set_option maxHeartbeats 4000000 in
set_option maxRecDepth 100000 in
theorem bX11_readableDoor_86 (hst : zSt B ids) (F : zFx p m c cX11_readableDoor 5 s args RX11 D cy B ids A) (hA : ∀ q : Nat, s.heap.size ≤ q → A q) (hAd : ∀ q, zAd B ids s.heap.size q ↔ A q) (hlf : l.stackTraces = false) (hret : meth.sig.returnType = (some (.object "WholeInternet$Door"))) (hlocks : meth.locks = false) (htab : ∀ x ∈ c.exceptionTable.toList, False) (hX : zXK A s s.heap) {r : (Option Nat ⊕ Nat)} {z' : St} {N : Nat}    {cells slots : Nat} (hcs1 : cells + 1 ≤ rmX11_readableDoor.cells ∧ slots + 6 ≤ rmX11_readableDoor.slots) {z : St} {H : Heap} {locs : List Loc} {ls : Array Slot} (hr : zRep D cy B ids A s.heap z H locs) (hl : lv_has ls 5 []) (h : fX11_readableDoor_86 N z = some (r, z')) : W p l e rmX11_readableDoor s m args below meth c H locs cells slots (vx_MQ below (zQX D cy B ids (fun x => some (va_rf (x.map (B 2)))) (fun x => ∀ i, x = some i → (2, i) ∈ ids) r z' A) (zXC D cy B ids r z' A) args s rmX11_readableDoor.cells rmX11_readableDoor.slots A) (F0 m 86 ls []) := by
  unfold fX11_readableDoor_86 at h
  have hcs0 := zcs_0 hcs1
  obtain ⟨rfl, rfl⟩ := zret h
  exact zXtw (text := "nothing can be read any more") hlf F htab hX hlocks hl.1 (Or.inr rfl) zq_335 zq_8 (by decide +kernel) dX11_readableDoor_86 dX11_readableDoor_89 dX11_readableDoor_90 dX11_readableDoor_93 dX11_readableDoor_96 (by decide) (by decide) hcs1.1 hcs1.2 hr hcs1.1 hcs1.2
def fX11_readableDoor (N : Nat)  (x0 : Nat) (x1 : Int32) (x2 : Int32) (z : St) : Option ((Option Nat ⊕ Nat) × St) := zc (fX11_doorOf N x0 x1 x2 z) fun r1 z2 => zo r1 (some (.inr 1, z2)) fun a6 => if (zgI z2 2 0 a6) = (2 : Int32) then (zl (zgR z2 2 12 a6) fun y8 => zd y8 fun a9 => zl (zgR z2 3 17 a9) fun y10 => zd y10 fun a11 => if ¬ (zgI z2 4 3 a11) = 0 then (some (.inl (some a6), z2)) else (zl (zgR z2 3 17 a9) fun y13 => zd y13 fun a14 => if ¬ (zgI z2 4 7 a14) = 0 then (some (.inl (some a6), z2)) else (zc (fX3_isDead N a9 z2) fun r16 z17 => if ¬ r16 = 0 then (fX11_readableDoor_86 N z17) else (if ¬ (zgI z17 3 0 a9) = (1 : Int32) then (some (.inl (some a6), z17)) else (fX11_readableDoor_86 N z17))))) else (some (.inr 2, z2))
set_option maxHeartbeats 4000000 in
set_option maxRecDepth 100000 in
theorem bX11_readableDoor_0 (hst : zSt B ids) (F : zFx p m c cX11_readableDoor 5 s args RX11 D cy B ids A) (hA : ∀ q : Nat, s.heap.size ≤ q → A q) (hAd : ∀ q, zAd B ids s.heap.size q ↔ A q) (hlf : l.stackTraces = false) (hret : meth.sig.returnType = (some (.object "WholeInternet$Door"))) (hlocks : meth.locks = false) (htab : ∀ x ∈ c.exceptionTable.toList, False) (hX : zXK A s s.heap) {r : (Option Nat ⊕ Nat)} {z' : St} {N : Nat}  (x0 : Nat) (x1 : Int32) (x2 : Int32) (hx0 : (11, x0) ∈ ids) {cells slots : Nat} (hcs1 : cells + 1 ≤ rmX11_readableDoor.cells ∧ slots + 6 ≤ rmX11_readableDoor.slots) {z : St} {H : Heap} {locs : List Loc} {ls : Array Slot} (hr : zRep D cy B ids A s.heap z H locs) (hl : lv_has ls 5 [(0, .ref (B 11 x0)), (1, .int x1), (2, .int x2)]) (h : fX11_readableDoor N x0 x1 x2 z = some (r, z')) : W p l e rmX11_readableDoor s m args below meth c H locs cells slots (vx_MQ below (zQX D cy B ids (fun x => some (va_rf (x.map (B 2)))) (fun x => ∀ i, x = some i → (2, i) ∈ ids) r z' A) (zXC D cy B ids r z' A) args s rmX11_readableDoor.cells rmX11_readableDoor.slots A) (F0 m 0 ls []) := by
  unfold fX11_readableDoor at h
  have hcs0 := zcs_0 hcs1
  refine lv_aload_n F.1 F.2.1 dX11_readableDoor_0 rfl (lv_at hl 0 rfl) ?_
  refine lv_iload_n F.1 F.2.1 dX11_readableDoor_1 rfl (lv_at hl 1 rfl) ?_
  refine lv_iload_n F.1 F.2.1 dX11_readableDoor_2 rfl (lv_at hl 2 rfl) ?_
  replace h := zc_some h
  obtain ⟨r1, z2, hc3, h⟩ := h
  refine zr_callr (zrun_V (As := [.int x1, .int x2]) (rest := []) zq_1721 zq_1723 zs_X11_doorOf zq_1724 zq_1 hdX11_doorOf (by decide) (T := TX11) (N := 21) rfl (okX11_doorOf l D cy B ids hst N x0 hx0 x1  x2  hr.2.2 hc3) F hr hx0 hl.1 rfl (by decide) dX11_readableDoor_3 rfl rfl hroX11_readableDoor_X11_doorOf hcs0) F hA hr (fun H locs hw4 hr => ?_)
  clear hc3
  refine zr_astore_n (lv' := [(3, va_rf (Option.map (B 2) r1)), (0, .ref (B 11 x0)), (1, .int x1), (2, .int x2)]) F.1 F.2.1 dX11_readableDoor_6 rfl hl (by decide) rfl (fun ls hl => ?_)
  refine zr_aload_n F.1 F.2.1 dX11_readableDoor_7 rfl (lv_at hl 0 rfl) ?_
  refine zr_ifnonnull (tgt := 22) F.1 F.2.1 dX11_readableDoor_8 (by decide) (fun e5 => ?_) (fun a6 e5 => ?_)
  · replace h := zo_n e5 h
    subst e5
    obtain ⟨rfl, rfl⟩ := zret h
    exact zXtw (text := "no such host or door") hlf F htab hX hlocks hl.1 (Or.inl rfl) zq_870 zq_22 (by decide +kernel) dX11_readableDoor_11 dX11_readableDoor_14 dX11_readableDoor_15 dX11_readableDoor_18 dX11_readableDoor_21 (by decide) (by decide) hcs1.1 hcs1.2 hr hcs1.1 hcs1.2
  · replace h := zo_s e5 h
    subst e5
    refine lv_aload_n F.1 F.2.1 dX11_readableDoor_22 rfl (lv_at hl 0 rfl) ?_
    refine gf11_279 F (hw4 _ rfl) hr dX11_readableDoor_23 ?_
    refine lv_iconst (v := (2 : Int32)) F.1 F.2.1 dX11_readableDoor_26 (by decide) ?_
    refine lv_icmp_eq (tgt := 41) F.1 F.2.1 dX11_readableDoor_27 (by decide) (fun c7 => ?_) (fun c7 => ?_)
    · replace h := zi_t c7 h
      refine lv_aload_n F.1 F.2.1 dX11_readableDoor_41 rfl (lv_at hl 0 rfl) ?_
      refine gf11_253 F (hw4 _ rfl) hr dX11_readableDoor_42 (fun y8 ey8 => ?_)
      replace h := zl_sub ey8 h
      have hy8 := zal_g hr (hw4 _ rfl) (j := 12) rfl ey8
      clear ey8
      refine zr_astore (lv' := [(4, va_rf (Option.map (B 3) y8)), (3, .ref (B 2 a6)), (0, .ref (B 11 x0)), (1, .int x1), (2, .int x2)]) F.1 F.2.1 dX11_readableDoor_45 hl (by decide) rfl (fun ls hl => ?_)
      refine zr_aload F.1 F.2.1 dX11_readableDoor_47 (lv_at hl 0 rfl) ?_
      replace h := zd_some h
      obtain ⟨a9, rfl, h⟩ := h
      refine gf11_332 F (hy8 _ rfl) hr dX11_readableDoor_49 (fun y10 ey10 => ?_)
      replace h := zl_sub ey10 h
      have hy10 := zal_g hr (hy8 _ rfl) (j := 17) rfl ey10
      clear ey10
      replace h := zd_some h
      obtain ⟨a11, rfl, h⟩ := h
      refine gf11_336 F (hy10 _ rfl) hr dX11_readableDoor_52 ?_
      refine lv_if_ne (tgt := 97) F.1 F.2.1 dX11_readableDoor_55 (by decide) (fun c12 => ?_) (fun c12 => ?_)
      · replace h := zi_t c12 h
        refine lv_aload_n F.1 F.2.1 dX11_readableDoor_97 rfl (lv_at hl 1 rfl) ?_
        obtain ⟨rfl, rfl⟩ := zret h
        exact zXe_r F hret hlocks dX11_readableDoor_98 (zal_s (hw4 _ rfl)) hr hcs0.1 hcs0.2
      · replace h := zi_f (fun q => q c12) h
        refine lv_aload F.1 F.2.1 dX11_readableDoor_58 (lv_at hl 0 rfl) ?_
        refine gf11_332 F (hy8 _ rfl) hr dX11_readableDoor_60 (fun y13 ey13 => ?_)
        replace h := zl_sub ey13 h
        have hy13 := zal_g hr (hy8 _ rfl) (j := 17) rfl ey13
        clear ey13
        replace h := zd_some h
        obtain ⟨a14, rfl, h⟩ := h
        refine gf11_339 F (hy13 _ rfl) hr dX11_readableDoor_63 ?_
        refine lv_if_ne (tgt := 97) F.1 F.2.1 dX11_readableDoor_66 (by decide) (fun c15 => ?_) (fun c15 => ?_)
        · replace h := zi_t c15 h
          refine lv_aload_n F.1 F.2.1 dX11_readableDoor_97 rfl (lv_at hl 1 rfl) ?_
          obtain ⟨rfl, rfl⟩ := zret h
          exact zXe_r F hret hlocks dX11_readableDoor_98 (zal_s (hw4 _ rfl)) hr hcs0.1 hcs0.2
        · replace h := zi_f (fun q => q c15) h
          refine lv_aload F.1 F.2.1 dX11_readableDoor_69 (lv_at hl 0 rfl) ?_
          replace h := zc_some h
          obtain ⟨r16, z17, hc18, h⟩ := h
          refine zr_calli (zrun_VN (As := []) (rest := []) zn_1672 zq_1227 zs_X3_isDead zq_1228 zq_13 hdX3_isDead (by decide) (T := TX3) (N := 19) rfl (okX3_isDead l D cy B ids hst N a9 (hy8 _ rfl) hr.2.2 hc18) F hr (hy8 _ rfl) hl.1 rfl (by decide) dX11_readableDoor_71 rfl rfl hroX11_readableDoor_X3_isDead hcs0) F hA hr (fun H locs hw19 hr => ?_)
          clear hc18
          refine lv_if_ne (tgt := 86) F.1 F.2.1 dX11_readableDoor_74 (by decide) (fun c20 => ?_) (fun c20 => ?_)
          · replace h := zi_t c20 h
            exact bX11_readableDoor_86 hst F hA hAd hlf hret hlocks htab hX   hcs1 hr (lv_sub hl [] rfl) h
          · replace h := zi_f (fun q => q c20) h
            refine lv_aload F.1 F.2.1 dX11_readableDoor_77 (lv_at hl 0 rfl) ?_
            refine gf11_290 F (hy8 _ rfl) hr dX11_readableDoor_79 ?_
            refine lv_iconst (v := (1 : Int32)) F.1 F.2.1 dX11_readableDoor_82 (by decide) ?_
            refine lv_icmp_ne (tgt := 97) F.1 F.2.1 dX11_readableDoor_83 (by decide) (fun c21 => ?_) (fun c21 => ?_)
            · replace h := zi_t c21 h
              refine lv_aload_n F.1 F.2.1 dX11_readableDoor_97 rfl (lv_at hl 1 rfl) ?_
              obtain ⟨rfl, rfl⟩ := zret h
              exact zXe_r F hret hlocks dX11_readableDoor_98 (zal_s (hw4 _ rfl)) hr hcs0.1 hcs0.2
            · replace h := zi_f (fun q => q c21) h
              exact bX11_readableDoor_86 hst F hA hAd hlf hret hlocks htab hX   hcs1 hr (lv_sub hl [] rfl) h
    · replace h := zi_f c7 h
      obtain ⟨rfl, rfl⟩ := zret h
      exact zXtw (text := "the door is free or listens") hlf F htab hX hlocks hl.1 (Or.inr rfl) zq_335 zq_8 (by decide +kernel) dX11_readableDoor_30 dX11_readableDoor_33 dX11_readableDoor_34 dX11_readableDoor_37 dX11_readableDoor_40 (by decide) (by decide) hcs1.1 hcs1.2 hr hcs1.1 hcs1.2
end SX11_readableDoor
set_option maxRecDepth 100000 in
theorem okX11_readableDoor (l : Launch) (hlf : l.stackTraces = false) (D : va_G) (cy : Nat → ClassId) (B : Nat → Nat → Nat) (ids : List (Nat × Nat)) (hst : zSt B ids) (N : Nat) (x0 : Nat) (hx0 : (11, x0) ∈ ids) (x1 : Int32) (x2 : Int32) {z : St} {r : (Option Nat ⊕ Nat)} {z' : St} (hW : zWf ids z) (h : fX11_readableDoor N x0 x1 x2 z = some (r, z')) : zMX l yX11_readableDoor (zws yX11_readableDoor cX11_readableDoor 5 (some (.object "WholeInternet$Door"))) rmX11_readableDoor D cy B ids [.ref (B 11 x0), .int x1, .int x2] (fun x => some (va_rf (x.map (B 2)))) (fun x => ∀ i, x = some i → (2, i) ∈ ids) r z z' :=
  zMX_of hst hW (by decide +kernel) (Nat.le_of_ble_eq_true rfl) (fun p e s m args below meth c A ls F hA hAd hret hlocks htab hX hr hl => bX11_readableDoor_0 hst F hA hAd hlf hret hlocks htab hX x0 x1 x2 hx0 (by decide) hr hl h)
abbrev rmX11_read : Room := { frames := 7, cells := 2, slots := 12, locals := 124 }
theorem hdX11_read : yX11_read.cls ≠ "java/lang/invoke/MethodHandle" ∧ yX11_read.cls ≠ "java/lang/invoke/VarHandle" ∧ (parseMethodDescriptor yX11_read.desc).map (fun d => d.parameters.length) = some 2 := by decide +kernel
theorem hroX11_read_X11_readableDoor : rmX11_readableDoor.frames + 1 ≤ rmX11_read.frames ∧ 8 + (5 + 11) + rmX11_readableDoor.locals ≤ rmX11_read.locals := by decide
theorem hroX11_read_X11_takeByte : rmX11_takeByte.frames + 1 ≤ rmX11_read.frames ∧ 8 + (3 + 11) + rmX11_takeByte.locals ≤ rmX11_read.locals := by decide
section SX11_read
variable {p : Program} {l : Launch} {e : Env} {s : State} {m : MethodId} {args : Array Value} {below : List Frame} {meth : Method} {c : Code} {Q : State → Prop} {D : va_G} {cy : Nat → ClassId} {B : Nat → Nat → Nat} {ids : List (Nat × Nat)} {A : Nat → Prop}
def fX11_read (N : Nat)  (x0 : Nat) (x1 : Int32) (x2 : Int32) (z : St) : Option ((Int32 ⊕ Nat) × St) := zcx (fX11_readableDoor N x0 x1 x2 z) fun r1 z2 => zd r1 fun a5 => zl (zgR z2 2 12 a5) fun y6 => zd y6 fun a7 => zl (zgR z2 3 17 a7) fun y8 => zd y8 fun a9 => if ¬ (zgI z2 4 3 a9) = 0 then (zc (fX11_takeByte N x0 a5 z2) fun r11 z12 => some (.inl r11, z12)) else (zl (zgR z2 2 12 a5) fun y15 => zd y15 fun a16 => zl (zgR z2 3 17 a16) fun y17 => zd y17 fun a18 => if (zgI z2 4 7 a18) = 0 then (some (.inl (-1 : Int32), z2)) else (some (.inl (-2 : Int32), z2)))
set_option maxHeartbeats 4000000 in
set_option maxRecDepth 100000 in
theorem bX11_read_0 (hst : zSt B ids) (F : zFx p m c cX11_read 4 s args RX11 D cy B ids A) (hA : ∀ q : Nat, s.heap.size ≤ q → A q) (hAd : ∀ q, zAd B ids s.heap.size q ↔ A q) (hlf : l.stackTraces = false) (hret : meth.sig.returnType = (some .int)) (hlocks : meth.locks = false) (htab : ∀ x ∈ c.exceptionTable.toList, False) (hX : zXK A s s.heap) {r : (Int32 ⊕ Nat)} {z' : St} {N : Nat}  (x0 : Nat) (x1 : Int32) (x2 : Int32) (hx0 : (11, x0) ∈ ids) {cells slots : Nat} (hcs2 : cells + 2 ≤ rmX11_read.cells ∧ slots + 12 ≤ rmX11_read.slots) {z : St} {H : Heap} {locs : List Loc} {ls : Array Slot} (hr : zRep D cy B ids A s.heap z H locs) (hl : lv_has ls 4 [(0, .ref (B 11 x0)), (1, .int x1), (2, .int x2)]) (h : fX11_read N x0 x1 x2 z = some (r, z')) : W p l e rmX11_read s m args below meth c H locs cells slots (vx_MQ below (zQX D cy B ids (fun v => some (.int v)) (fun _ => True) r z' A) (zXC D cy B ids r z' A) args s rmX11_read.cells rmX11_read.slots A) (F0 m 0 ls []) := by
  unfold fX11_read at h
  have hcs1 := zcs_2 hcs2
  have hcs0 := zcs_0 hcs1
  refine lv_aload_n F.1 F.2.1 dX11_read_0 rfl (lv_at hl 0 rfl) ?_
  refine lv_iload_n F.1 F.2.1 dX11_read_1 rfl (lv_at hl 1 rfl) ?_
  refine lv_iload_n F.1 F.2.1 dX11_read_2 rfl (lv_at hl 2 rfl) ?_
  rcases zcx_some h with ⟨r1, z2, hc3, h⟩ | ⟨ek, z2, hc3, h⟩
  rotate_left
  · obtain ⟨rfl, rfl⟩ := zret h
    exact zX_prop (zXrunV hX hAd (As := [.int x1, .int x2]) (rest := []) zq_1768 zq_1770 zs_X11_readableDoor zq_1771 zq_1 hdX11_readableDoor (by decide) (T := TX11) (N := 21) rfl (okX11_readableDoor l hlf D cy B ids hst N x0 hx0 x1  x2  hr.2.2 hc3) F hr hx0 hl.1 rfl (by decide) dX11_read_3 rfl rfl hroX11_read_X11_readableDoor hcs2) F hAd htab hlocks hr hcs2.1 hcs2.2
  refine zX_callr (zXrunV hX hAd (As := [.int x1, .int x2]) (rest := []) zq_1768 zq_1770 zs_X11_readableDoor zq_1771 zq_1 hdX11_readableDoor (by decide) (T := TX11) (N := 21) rfl (okX11_readableDoor l hlf D cy B ids hst N x0 hx0 x1  x2  hr.2.2 hc3) F hr hx0 hl.1 rfl (by decide) dX11_read_3 rfl rfl hroX11_read_X11_readableDoor hcs2) F hAd hr (fun H locs hw4 hr => ?_)
  clear hc3 hcs0 hcs1
  have hcs1 := zcs_down hcs2
  have hcs0 := zcs_0 hcs1
  clear hcs2
  refine zr_astore_n (lv' := [(3, va_rf (Option.map (B 2) r1)), (0, .ref (B 11 x0)), (1, .int x1), (2, .int x2)]) F.1 F.2.1 dX11_read_6 rfl hl (by decide) rfl (fun ls hl => ?_)
  refine zr_aload_n F.1 F.2.1 dX11_read_7 rfl (lv_at hl 0 rfl) ?_
  replace h := zd_some h
  obtain ⟨a5, rfl, h⟩ := h
  refine gf11_253 F (hw4 _ rfl) hr dX11_read_8 (fun y6 ey6 => ?_)
  replace h := zl_sub ey6 h
  have hy6 := zal_g hr (hw4 _ rfl) (j := 12) rfl ey6
  clear ey6
  replace h := zd_some h
  obtain ⟨a7, rfl, h⟩ := h
  refine gf11_332 F (hy6 _ rfl) hr dX11_read_11 (fun y8 ey8 => ?_)
  replace h := zl_sub ey8 h
  have hy8 := zal_g hr (hy6 _ rfl) (j := 17) rfl ey8
  clear ey8
  replace h := zd_some h
  obtain ⟨a9, rfl, h⟩ := h
  refine gf11_336 F (hy8 _ rfl) hr dX11_read_14 ?_
  refine lv_if_ne (tgt := 40) F.1 F.2.1 dX11_read_17 (by decide) (fun c10 => ?_) (fun c10 => ?_)
  · replace h := zi_t c10 h
    refine lv_aload_n F.1 F.2.1 dX11_read_40 rfl (lv_at hl 1 rfl) ?_
    refine lv_aload_n F.1 F.2.1 dX11_read_41 rfl (lv_at hl 0 rfl) ?_
    replace h := zc_some h
    obtain ⟨r11, z12, hc13, h⟩ := h
    refine zr_calli (zrun_V (As := [.ref (B 2 a5)]) (rest := []) zq_1652 zq_1654 zs_X11_takeByte zq_1655 zq_1 hdX11_takeByte (by decide) (T := TX11) (N := 21) rfl (okX11_takeByte l D cy B ids hst N x0 hx0 a5 (hw4 _ rfl) hr.2.2 hc13) F hr hx0 hl.1 rfl (by decide) dX11_read_42 rfl rfl hroX11_read_X11_takeByte hcs0) F hA hr (fun H locs hw14 hr => ?_)
    clear hc13
    obtain ⟨rfl, rfl⟩ := zret h
    exact zXe_i F hret hlocks dX11_read_45 hr hcs0.1 hcs0.2
  · replace h := zi_f (fun q => q c10) h
    refine lv_aload_n F.1 F.2.1 dX11_read_20 rfl (lv_at hl 0 rfl) ?_
    refine gf11_253 F (hw4 _ rfl) hr dX11_read_21 (fun y15 ey15 => ?_)
    replace h := zl_sub ey15 h
    have hy15 := zal_g hr (hw4 _ rfl) (j := 12) rfl ey15
    clear ey15
    replace h := zd_some h
    obtain ⟨a16, rfl, h⟩ := h
    refine gf11_332 F (hy15 _ rfl) hr dX11_read_24 (fun y17 ey17 => ?_)
    replace h := zl_sub ey17 h
    have hy17 := zal_g hr (hy15 _ rfl) (j := 17) rfl ey17
    clear ey17
    replace h := zd_some h
    obtain ⟨a18, rfl, h⟩ := h
    refine gf11_339 F (hy17 _ rfl) hr dX11_read_27 ?_
    refine lv_if_eq (tgt := 38) F.1 F.2.1 dX11_read_30 (by decide) (fun c19 => ?_) (fun c19 => ?_)
    · replace h := zi_t c19 h
      refine lv_iconst (v := (-1 : Int32)) F.1 F.2.1 dX11_read_38 (by decide) ?_
      obtain ⟨rfl, rfl⟩ := zret h
      exact zXe_i F hret hlocks dX11_read_39 hr hcs0.1 hcs0.2
    · replace h := zi_f c19 h
      refine lv_bipush (v := (-2 : Int32)) F.1 F.2.1 dX11_read_33 (by decide) ?_
      refine lv_goto (tgt := 39) F.1 F.2.1 dX11_read_35 (by decide) ?_
      obtain ⟨rfl, rfl⟩ := zret h
      exact zXe_i F hret hlocks dX11_read_39 hr hcs0.1 hcs0.2
end SX11_read
set_option maxRecDepth 100000 in
theorem okX11_read (l : Launch) (hlf : l.stackTraces = false) (D : va_G) (cy : Nat → ClassId) (B : Nat → Nat → Nat) (ids : List (Nat × Nat)) (hst : zSt B ids) (N : Nat) (x0 : Nat) (hx0 : (11, x0) ∈ ids) (x1 : Int32) (x2 : Int32) {z : St} {r : (Int32 ⊕ Nat)} {z' : St} (hW : zWf ids z) (h : fX11_read N x0 x1 x2 z = some (r, z')) : zMX l yX11_read (zws yX11_read cX11_read 4 (some .int)) rmX11_read D cy B ids [.ref (B 11 x0), .int x1, .int x2] (fun v => some (.int v)) (fun _ => True) r z z' :=
  zMX_of hst hW (by decide +kernel) (Nat.le_of_ble_eq_true rfl) (fun p e s m args below meth c A ls F hA hAd hret hlocks htab hX hr hl => bX11_read_0 hst F hA hAd hlf hret hlocks htab hX x0 x1 x2 hx0 (by decide) hr hl h)
abbrev rmX11_readAll : Room := { frames := 7, cells := 2, slots := 12, locals := 124 }
theorem hdX11_readAll : yX11_readAll.cls ≠ "java/lang/invoke/MethodHandle" ∧ yX11_readAll.cls ≠ "java/lang/invoke/VarHandle" ∧ (parseMethodDescriptor yX11_readAll.desc).map (fun d => d.parameters.length) = some 3 := by decide +kernel
theorem hroX11_readAll_X11_doorOf : rmX11_doorOf.frames + 1 ≤ rmX11_readAll.frames ∧ 8 + (4 + 11) + rmX11_doorOf.locals ≤ rmX11_readAll.locals := by decide
theorem hroX11_readAll_X11_readableDoor : rmX11_readableDoor.frames + 1 ≤ rmX11_readAll.frames ∧ 8 + (5 + 11) + rmX11_readableDoor.locals ≤ rmX11_readAll.locals := by decide
theorem hroX11_readAll_X11_takeByte : rmX11_takeByte.frames + 1 ≤ rmX11_readAll.frames ∧ 8 + (3 + 11) + rmX11_takeByte.locals ≤ rmX11_readAll.locals := by decide
section SX11_readAll
variable {p : Program} {l : Launch} {e : Env} {s : State} {m : MethodId} {args : Array Value} {below : List Frame} {meth : Method} {c : Code} {Q : State → Prop} {D : va_G} {cy : Nat → ClassId} {B : Nat → Nat → Nat} {ids : List (Nat × Nat)} {A : Nat → Prop}
def fX11_readAll_32 (N : Nat)   (z : St) : Option ((Int32 ⊕ Nat) × St) := some (.inr 1, z)
set_option maxHeartbeats 4000000 in
set_option maxRecDepth 100000 in
theorem bX11_readAll_32 (hst : zSt B ids) (F : zFx p m c cX11_readAll 7 s args RX11 D cy B ids A) (hA : ∀ q : Nat, s.heap.size ≤ q → A q) (hAd : ∀ q, zAd B ids s.heap.size q ↔ A q) (hlf : l.stackTraces = false) (hret : meth.sig.returnType = (some .int)) (hlocks : meth.locks = false) (htab : ∀ x ∈ c.exceptionTable.toList, False) (hX : zXK A s s.heap) {r : (Int32 ⊕ Nat)} {z' : St} {N : Nat}    {cells slots : Nat} (hcs1 : cells + 1 ≤ rmX11_readAll.cells ∧ slots + 6 ≤ rmX11_readAll.slots) {z : St} {H : Heap} {locs : List Loc} {ls : Array Slot} (hr : zRep D cy B ids A s.heap z H locs) (hl : lv_has ls 7 []) (h : fX11_readAll_32 N z = some (r, z')) : W p l e rmX11_readAll s m args below meth c H locs cells slots (vx_MQ below (zQX D cy B ids (fun v => some (.int v)) (fun _ => True) r z' A) (zXC D cy B ids r z' A) args s rmX11_readAll.cells rmX11_readAll.slots A) (F0 m 32 ls []) := by
  unfold fX11_readAll_32 at h
  have hcs0 := zcs_0 hcs1
  obtain ⟨rfl, rfl⟩ := zret h
  exact zXtw (text := "n is not 1 .. 2048") hlf F htab hX hlocks hl.1 (Or.inl rfl) zq_870 zq_22 (by decide +kernel) dX11_readAll_32 dX11_readAll_35 dX11_readAll_36 dX11_readAll_39 dX11_readAll_42 (by decide) (by decide) hcs1.1 hcs1.2 hr hcs1.1 hcs1.2
def fX11_readAll_57b (N : Nat) (K57 : Nat → Int32 → Option Nat → Int32 → Int32 → St → Option ((Int32 ⊕ Nat) × St)) (x0 : Nat) (x3 : Int32) (x4 : Option Nat) (x5 : Int32) (x6 : Int32) (z : St) : Option ((Int32 ⊕ Nat) × St) := if x3 ≤ x6 then (some (.inl x5, z)) else (zd x4 fun a2 => zl (zgR z 2 12 a2) fun y3 => zd y3 fun a4 => zl (zgR z 3 17 a4) fun y5 => zd y5 fun a6 => if (zgI z 4 3 a6) ≤ 0 then (some (.inl x5, z)) else (zc (fX11_takeByte N x0 a2 z) fun r8 z9 => zl (((31 : Int32) * x5) + r8) fun v12 => zl (x6 + 1) fun v13 => K57 x0 x3 (some a2) v12 v13 z9))
def fX11_readAll_57 (N : Nat)  : Nat → Nat → Int32 → Option Nat → Int32 → Int32 → St → Option ((Int32 ⊕ Nat) × St)
  | 0 => fun _ _ _ _ _ _ => none
  | n + 1 => fX11_readAll_57b N (fX11_readAll_57 N  n)
set_option maxHeartbeats 4000000 in
set_option maxRecDepth 100000 in
theorem bX11_readAll_57 (hst : zSt B ids) (F : zFx p m c cX11_readAll 7 s args RX11 D cy B ids A) (hA : ∀ q : Nat, s.heap.size ≤ q → A q) (hAd : ∀ q, zAd B ids s.heap.size q ↔ A q) (hlf : l.stackTraces = false) (hret : meth.sig.returnType = (some .int)) (hlocks : meth.locks = false) (htab : ∀ x ∈ c.exceptionTable.toList, False) (hX : zXK A s s.heap) {r : (Int32 ⊕ Nat)} {z' : St} {N : Nat} {K57 : Nat → Int32 → Option Nat → Int32 → Int32 → St → Option ((Int32 ⊕ Nat) × St)} (hK57 : ∀ (x0 : Nat) (x3 : Int32) (x4 : Option Nat) (x5 : Int32) (x6 : Int32) (hx0 : (11, x0) ∈ ids) (hx4 : ∀ t, x4 = some t → (2, t) ∈ ids) {cells slots : Nat} (hcs1 : cells + 1 ≤ rmX11_readAll.cells ∧ slots + 6 ≤ rmX11_readAll.slots) {z : St} {H : Heap} {locs : List Loc} {ls : Array Slot} (hr : zRep D cy B ids A s.heap z H locs) (hl : lv_has ls 7 [(0, .ref (B 11 x0)), (3, .int x3), (4, va_rf (Option.map (B 2) x4)), (5, .int x5), (6, .int x6)]), K57 x0 x3 x4 x5 x6 z = some (r, z') → W p l e rmX11_readAll s m args below meth c H locs cells slots (vx_MQ below (zQX D cy B ids (fun v => some (.int v)) (fun _ => True) r z' A) (zXC D cy B ids r z' A) args s rmX11_readAll.cells rmX11_readAll.slots A) (F0 m 57 ls [])) (x0 : Nat) (x3 : Int32) (x4 : Option Nat) (x5 : Int32) (x6 : Int32) (hx0 : (11, x0) ∈ ids) (hx4 : ∀ t, x4 = some t → (2, t) ∈ ids) {cells slots : Nat} (hcs1 : cells + 1 ≤ rmX11_readAll.cells ∧ slots + 6 ≤ rmX11_readAll.slots) {z : St} {H : Heap} {locs : List Loc} {ls : Array Slot} (hr : zRep D cy B ids A s.heap z H locs) (hl : lv_has ls 7 [(0, .ref (B 11 x0)), (3, .int x3), (4, va_rf (Option.map (B 2) x4)), (5, .int x5), (6, .int x6)]) (h : fX11_readAll_57b N K57 x0 x3 x4 x5 x6 z = some (r, z')) : W p l e rmX11_readAll s m args below meth c H locs cells slots (vx_MQ below (zQX D cy B ids (fun v => some (.int v)) (fun _ => True) r z' A) (zXC D cy B ids r z' A) args s rmX11_readAll.cells rmX11_readAll.slots A) (F0 m 57 ls []) := by
  unfold fX11_readAll_57b at h
  have hcs0 := zcs_0 hcs1
  refine lv_iload F.1 F.2.1 dX11_readAll_57 (lv_at hl 4 rfl) ?_
  refine lv_iload_n F.1 F.2.1 dX11_readAll_59 rfl (lv_at hl 1 rfl) ?_
  refine lv_icmp_ge (tgt := 97) F.1 F.2.1 dX11_readAll_60 (by decide) (fun c1 => ?_) (fun c1 => ?_)
  · replace h := zi_t c1 h
    refine lv_iload F.1 F.2.1 dX11_readAll_97 (lv_at hl 3 rfl) ?_
    obtain ⟨rfl, rfl⟩ := zret h
    exact zXe_i F hret hlocks dX11_readAll_99 hr hcs0.1 hcs0.2
  · replace h := zi_f c1 h
    refine zr_aload F.1 F.2.1 dX11_readAll_63 (lv_at hl 2 rfl) ?_
    replace h := zd_some h
    obtain ⟨a2, rfl, h⟩ := h
    refine gf11_253 F (hx4 _ rfl) hr dX11_readAll_65 (fun y3 ey3 => ?_)
    replace h := zl_sub ey3 h
    have hy3 := zal_g hr (hx4 _ rfl) (j := 12) rfl ey3
    clear ey3
    replace h := zd_some h
    obtain ⟨a4, rfl, h⟩ := h
    refine gf11_332 F (hy3 _ rfl) hr dX11_readAll_68 (fun y5 ey5 => ?_)
    replace h := zl_sub ey5 h
    have hy5 := zal_g hr (hy3 _ rfl) (j := 17) rfl ey5
    clear ey5
    replace h := zd_some h
    obtain ⟨a6, rfl, h⟩ := h
    refine gf11_336 F (hy5 _ rfl) hr dX11_readAll_71 ?_
    refine lv_if_le (tgt := 97) F.1 F.2.1 dX11_readAll_74 (by decide) (fun c7 => ?_) (fun c7 => ?_)
    · replace h := zi_t c7 h
      refine lv_iload F.1 F.2.1 dX11_readAll_97 (lv_at hl 3 rfl) ?_
      obtain ⟨rfl, rfl⟩ := zret h
      exact zXe_i F hret hlocks dX11_readAll_99 hr hcs0.1 hcs0.2
    · replace h := zi_f c7 h
      refine lv_bipush (v := (31 : Int32)) F.1 F.2.1 dX11_readAll_77 (by decide) ?_
      refine lv_iload F.1 F.2.1 dX11_readAll_79 (lv_at hl 3 rfl) ?_
      refine lv_imul F.1 F.2.1 dX11_readAll_81 ?_
      refine lv_aload_n F.1 F.2.1 dX11_readAll_82 rfl (lv_at hl 0 rfl) ?_
      refine lv_aload F.1 F.2.1 dX11_readAll_83 (lv_at hl 2 rfl) ?_
      replace h := zc_some h
      obtain ⟨r8, z9, hc10, h⟩ := h
      refine zr_calli (zrun_V (As := [.ref (B 2 a2)]) (rest := [.int ((31 : Int32) * x5)]) zq_1652 zq_1654 zs_X11_takeByte zq_1655 zq_1 hdX11_takeByte (by decide) (T := TX11) (N := 21) rfl (okX11_takeByte l D cy B ids hst N x0 hx0 a2 (hx4 _ rfl) hr.2.2 hc10) F hr hx0 hl.1 rfl (Nat.le_of_ble_eq_true rfl) dX11_readAll_85 rfl rfl hroX11_readAll_X11_takeByte hcs0) F hA hr (fun H locs hw11 hr => ?_)
      clear hc10
      refine lv_iadd F.1 F.2.1 dX11_readAll_88 ?_
      refine lv_topi (fun v12 ev12 => ?_)
      replace h := zl_sub ev12 h
      refine lv_istore (lv' := [(5, .int v12), (0, .ref (B 11 x0)), (3, .int x3), (4, .ref (B 2 a2)), (6, .int x6)]) F.1 F.2.1 dX11_readAll_89 hl (by decide) rfl (fun ls hl => ?_)
      obtain ⟨v13, ev13⟩ : ∃ y : Int32, y = (x6 + 1) := ⟨_, rfl⟩
      replace h := zl_sub ev13 h
      refine lv_iinc (v := v13) (lv' := [(6, .int v13), (5, .int v12), (0, .ref (B 11 x0)), (3, .int x3), (4, .ref (B 2 a2))]) F.1 F.2.1 dX11_readAll_91 hl (k := 4) rfl (by rw [ev13]; rfl) (by decide) rfl (fun ls hl => ?_)
      refine lv_goto (tgt := 57) F.1 F.2.1 dX11_readAll_94 (by decide) ?_
      exact hK57 x0 x3 (some a2) v12 v13 hx0 (zal_s (hx4 _ rfl)) hcs1 hr (lv_sub hl [2, 3, 4, 1, 0] rfl) h
theorem lX11_readAll_57 (hst : zSt B ids) (F : zFx p m c cX11_readAll 7 s args RX11 D cy B ids A) (hA : ∀ q : Nat, s.heap.size ≤ q → A q) (hAd : ∀ q, zAd B ids s.heap.size q ↔ A q) (hlf : l.stackTraces = false) (hret : meth.sig.returnType = (some .int)) (hlocks : meth.locks = false) (htab : ∀ x ∈ c.exceptionTable.toList, False) (hX : zXK A s s.heap) {r : (Int32 ⊕ Nat)} {z' : St} {N : Nat}  : ∀ (n : Nat) (x0 : Nat) (x3 : Int32) (x4 : Option Nat) (x5 : Int32) (x6 : Int32) (hx0 : (11, x0) ∈ ids) (hx4 : ∀ t, x4 = some t → (2, t) ∈ ids) {cells slots : Nat} (hcs1 : cells + 1 ≤ rmX11_readAll.cells ∧ slots + 6 ≤ rmX11_readAll.slots) {z : St} {H : Heap} {locs : List Loc} {ls : Array Slot} (hr : zRep D cy B ids A s.heap z H locs) (hl : lv_has ls 7 [(0, .ref (B 11 x0)), (3, .int x3), (4, va_rf (Option.map (B 2) x4)), (5, .int x5), (6, .int x6)]), fX11_readAll_57 N  n x0 x3 x4 x5 x6 z = some (r, z') → W p l e rmX11_readAll s m args below meth c H locs cells slots (vx_MQ below (zQX D cy B ids (fun v => some (.int v)) (fun _ => True) r z' A) (zXC D cy B ids r z' A) args s rmX11_readAll.cells rmX11_readAll.slots A) (F0 m 57 ls []) := by
  intro n
  induction n with
  | zero => intro x0 x3 x4 x5 x6 hx0 hx4 cells slots hcs1 z H locs ls hr hl h; cases h
  | succ n ih => intro x0 x3 x4 x5 x6 hx0 hx4 cells slots hcs1 z H locs ls hr hl h; exact bX11_readAll_57 hst F hA hAd hlf hret hlocks htab hX ih x0 x3 x4 x5 x6 hx0 hx4 hcs1 hr hl h
def fX11_readAll (N : Nat)  (x0 : Nat) (x1 : Int32) (x2 : Int32) (x3 : Int32) (z : St) : Option ((Int32 ⊕ Nat) × St) := zc (fX11_doorOf N x0 x1 x2 z) fun r1 z2 => zo r1 (some (.inr 1, z2)) fun a6 => if x3 < (1 : Int32) then (fX11_readAll_32 N z2) else (if x3 ≤ (2048 : Int32) then (zcx (fX11_readableDoor N x0 x1 x2 z2) fun r9 z10 => fX11_readAll_57 N N x0 x3 r9 (1 : Int32) (0 : Int32) z10) else (fX11_readAll_32 N z2))
set_option maxHeartbeats 4000000 in
set_option maxRecDepth 100000 in
theorem bX11_readAll_0 (hst : zSt B ids) (F : zFx p m c cX11_readAll 7 s args RX11 D cy B ids A) (hA : ∀ q : Nat, s.heap.size ≤ q → A q) (hAd : ∀ q, zAd B ids s.heap.size q ↔ A q) (hlf : l.stackTraces = false) (hret : meth.sig.returnType = (some .int)) (hlocks : meth.locks = false) (htab : ∀ x ∈ c.exceptionTable.toList, False) (hX : zXK A s s.heap) {r : (Int32 ⊕ Nat)} {z' : St} {N : Nat}  (x0 : Nat) (x1 : Int32) (x2 : Int32) (x3 : Int32) (hx0 : (11, x0) ∈ ids) {cells slots : Nat} (hcs2 : cells + 2 ≤ rmX11_readAll.cells ∧ slots + 12 ≤ rmX11_readAll.slots) {z : St} {H : Heap} {locs : List Loc} {ls : Array Slot} (hr : zRep D cy B ids A s.heap z H locs) (hl : lv_has ls 7 [(0, .ref (B 11 x0)), (1, .int x1), (2, .int x2), (3, .int x3)]) (h : fX11_readAll N x0 x1 x2 x3 z = some (r, z')) : W p l e rmX11_readAll s m args below meth c H locs cells slots (vx_MQ below (zQX D cy B ids (fun v => some (.int v)) (fun _ => True) r z' A) (zXC D cy B ids r z' A) args s rmX11_readAll.cells rmX11_readAll.slots A) (F0 m 0 ls []) := by
  unfold fX11_readAll at h
  have hcs1 := zcs_2 hcs2
  have hcs0 := zcs_0 hcs1
  refine lv_aload_n F.1 F.2.1 dX11_readAll_0 rfl (lv_at hl 0 rfl) ?_
  refine lv_iload_n F.1 F.2.1 dX11_readAll_1 rfl (lv_at hl 1 rfl) ?_
  refine lv_iload_n F.1 F.2.1 dX11_readAll_2 rfl (lv_at hl 2 rfl) ?_
  replace h := zc_some h
  obtain ⟨r1, z2, hc3, h⟩ := h
  refine zr_callr (zrun_V (As := [.int x1, .int x2]) (rest := []) zq_1721 zq_1723 zs_X11_doorOf zq_1724 zq_1 hdX11_doorOf (by decide) (T := TX11) (N := 21) rfl (okX11_doorOf l D cy B ids hst N x0 hx0 x1  x2  hr.2.2 hc3) F hr hx0 hl.1 rfl (by decide) dX11_readAll_3 rfl rfl hroX11_readAll_X11_doorOf hcs0) F hA hr (fun H locs hw4 hr => ?_)
  clear hc3
  refine zr_ifnonnull (tgt := 20) F.1 F.2.1 dX11_readAll_6 (by decide) (fun e5 => ?_) (fun a6 e5 => ?_)
  · replace h := zo_n e5 h
    subst e5
    obtain ⟨rfl, rfl⟩ := zret h
    exact zXtw (text := "no such host or door") hlf F htab hX hlocks hl.1 (Or.inl rfl) zq_870 zq_22 (by decide +kernel) dX11_readAll_9 dX11_readAll_12 dX11_readAll_13 dX11_readAll_16 dX11_readAll_19 (by decide) (by decide) hcs1.1 hcs1.2 hr hcs1.1 hcs1.2
  · replace h := zo_s e5 h
    subst e5
    refine lv_iload_n F.1 F.2.1 dX11_readAll_20 rfl (lv_at hl 3 rfl) ?_
    refine lv_iconst (v := (1 : Int32)) F.1 F.2.1 dX11_readAll_21 (by decide) ?_
    refine lv_icmp_lt (tgt := 32) F.1 F.2.1 dX11_readAll_22 (by decide) (fun c7 => ?_) (fun c7 => ?_)
    · replace h := zi_t c7 h
      exact bX11_readAll_32 hst F hA hAd hlf hret hlocks htab hX   hcs1 hr (lv_sub hl [] rfl) h
    · replace h := zi_f c7 h
      refine lv_iload_n F.1 F.2.1 dX11_readAll_25 rfl (lv_at hl 3 rfl) ?_
      refine lv_sipush (v := (2048 : Int32)) F.1 F.2.1 dX11_readAll_26 (by decide) ?_
      refine lv_icmp_le (tgt := 43) F.1 F.2.1 dX11_readAll_29 (by decide) (fun c8 => ?_) (fun c8 => ?_)
      · replace h := zi_t c8 h
        refine lv_aload_n F.1 F.2.1 dX11_readAll_43 rfl (lv_at hl 0 rfl) ?_
        refine lv_iload_n F.1 F.2.1 dX11_readAll_44 rfl (lv_at hl 1 rfl) ?_
        refine lv_iload_n F.1 F.2.1 dX11_readAll_45 rfl (lv_at hl 2 rfl) ?_
        rcases zcx_some h with ⟨r9, z10, hc11, h⟩ | ⟨ek, z10, hc11, h⟩
        rotate_left
        · obtain ⟨rfl, rfl⟩ := zret h
          exact zX_prop (zXrunV hX hAd (As := [.int x1, .int x2]) (rest := []) zq_1768 zq_1770 zs_X11_readableDoor zq_1771 zq_1 hdX11_readableDoor (by decide) (T := TX11) (N := 21) rfl (okX11_readableDoor l hlf D cy B ids hst N x0 hx0 x1  x2  hr.2.2 hc11) F hr hx0 hl.1 rfl (by decide) dX11_readAll_46 rfl rfl hroX11_readAll_X11_readableDoor hcs2) F hAd htab hlocks hr hcs2.1 hcs2.2
        refine zX_callr (zXrunV hX hAd (As := [.int x1, .int x2]) (rest := []) zq_1768 zq_1770 zs_X11_readableDoor zq_1771 zq_1 hdX11_readableDoor (by decide) (T := TX11) (N := 21) rfl (okX11_readableDoor l hlf D cy B ids hst N x0 hx0 x1  x2  hr.2.2 hc11) F hr hx0 hl.1 rfl (by decide) dX11_readAll_46 rfl rfl hroX11_readAll_X11_readableDoor hcs2) F hAd hr (fun H locs hw12 hr => ?_)
        clear hc11 hcs0 hcs1
        have hcs1 := zcs_down hcs2
        have hcs0 := zcs_0 hcs1
        clear hcs2
        refine zr_astore (lv' := [(4, va_rf (Option.map (B 2) r9)), (0, .ref (B 11 x0)), (1, .int x1), (2, .int x2), (3, .int x3)]) F.1 F.2.1 dX11_readAll_49 hl (by decide) rfl (fun ls hl => ?_)
        refine lv_iconst (v := (1 : Int32)) F.1 F.2.1 dX11_readAll_51 (by decide) ?_
        refine lv_istore (lv' := [(5, .int (1 : Int32)), (4, va_rf (Option.map (B 2) r9)), (0, .ref (B 11 x0)), (1, .int x1), (2, .int x2), (3, .int x3)]) F.1 F.2.1 dX11_readAll_52 hl (by decide) (by simp only [List.filter, zrf_cat]; rfl) (fun ls hl => ?_)
        refine lv_iconst (v := (0 : Int32)) F.1 F.2.1 dX11_readAll_54 (by decide) ?_
        refine lv_istore (lv' := [(6, .int (0 : Int32)), (5, .int (1 : Int32)), (4, va_rf (Option.map (B 2) r9)), (0, .ref (B 11 x0)), (1, .int x1), (2, .int x2), (3, .int x3)]) F.1 F.2.1 dX11_readAll_55 hl (by decide) rfl (fun ls hl => ?_)
        exact lX11_readAll_57 hst F hA hAd hlf hret hlocks htab hX  _ x0 x3 r9 (1 : Int32) (0 : Int32) hx0 hw12 hcs1 hr (lv_sub hl [3, 6, 2, 1, 0] rfl) h
      · replace h := zi_f c8 h
        exact bX11_readAll_32 hst F hA hAd hlf hret hlocks htab hX   hcs1 hr (lv_sub hl [] rfl) h
end SX11_readAll
set_option maxRecDepth 100000 in
theorem okX11_readAll (l : Launch) (hlf : l.stackTraces = false) (D : va_G) (cy : Nat → ClassId) (B : Nat → Nat → Nat) (ids : List (Nat × Nat)) (hst : zSt B ids) (N : Nat) (x0 : Nat) (hx0 : (11, x0) ∈ ids) (x1 : Int32) (x2 : Int32) (x3 : Int32) {z : St} {r : (Int32 ⊕ Nat)} {z' : St} (hW : zWf ids z) (h : fX11_readAll N x0 x1 x2 x3 z = some (r, z')) : zMX l yX11_readAll (zws yX11_readAll cX11_readAll 7 (some .int)) rmX11_readAll D cy B ids [.ref (B 11 x0), .int x1, .int x2, .int x3] (fun v => some (.int v)) (fun _ => True) r z z' :=
  zMX_of hst hW (by decide +kernel) (Nat.le_of_ble_eq_true rfl) (fun p e s m args below meth c A ls F hA hAd hret hlocks htab hX hr hl => bX11_readAll_0 hst F hA hAd hlf hret hlocks htab hX x0 x1 x2 x3 hx0 (by decide) hr hl h)
