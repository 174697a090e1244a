abbrev rmX19_costTo : Room := { frames := 2, cells := 0, slots := 0, locals := 46 }
theorem hdX19_costTo : yX19_costTo.cls ≠ "java/lang/invoke/MethodHandle" ∧ yX19_costTo.cls ≠ "java/lang/invoke/VarHandle" ∧ (parseMethodDescriptor yX19_costTo.desc).map (fun d => d.parameters.length) = some 3 := by decide +kernel
theorem hroX19_costTo_X19_ad : rmX19_ad.frames + 1 ≤ rmX19_costTo.frames ∧ 8 + (3 + 11) + rmX19_ad.locals ≤ rmX19_costTo.locals := by decide
theorem hroX19_costTo_X19_friendRow : rmX19_friendRow.frames + 1 ≤ rmX19_costTo.frames ∧ 8 + (4 + 11) + rmX19_friendRow.locals ≤ rmX19_costTo.locals := by decide
section SX19_costTo
variable {p : Program} {l : Launch} {e : Env} {s : State} {m : MethodId} {args : Array Value} {below : List Frame} {meth : Method} {c : Code} {Q : State → Prop} {D : va_G} {cy : Nat → ClassId} {B : Nat → Nat → Nat} {ids : List (Nat × Nat)} {A : Nat → Prop}
def fX19_costTo_47 (N : Nat) (K3 : Nat → Int32 → Int32 → Int32 → Int32 → St → Option (Int32 × St)) (x0 : Nat) (x1 : Int32) (x2 : Int32) (x3 : Int32) (x4 : Int32) (z : St) : Option (Int32 × St) := zl (x4 + 1) fun v1 => K3 x0 x1 x2 x3 v1 z
set_option maxHeartbeats 4000000 in
set_option maxRecDepth 100000 in
theorem bX19_costTo_47 (hst : zSt B ids) (F : zFx p m c cX19_costTo 5 s args RX19 D cy B ids A) (hA : ∀ q : Nat, s.heap.size ≤ q → A q) {r : Int32} {z' : St} (E : zEnd p l e rmX19_costTo s m args below meth c cX19_costTo D cy B ids A Q (some (.int r)) z' .ireturn True) {N : Nat} {K3 : Nat → Int32 → Int32 → Int32 → Int32 → St → Option (Int32 × St)} (hK3 : ∀ (x0 : Nat) (x1 : Int32) (x2 : Int32) (x3 : Int32) (x4 : Int32) (hx0 : (19, x0) ∈ ids) {z : St} {H : Heap} {locs : List Loc} {ls : Array Slot} (hr : zRep D cy B ids A s.heap z H locs) (hl : lv_has ls 5 [(0, .ref (B 19 x0)), (1, .int x1), (2, .int x2), (3, .int x3), (4, .int x4)]), K3 x0 x1 x2 x3 x4 z = some (r, z') → W p l e rmX19_costTo s m args below meth c H locs 0 0 Q (F0 m 3 ls [])) (x0 : Nat) (x1 : Int32) (x2 : Int32) (x3 : Int32) (x4 : Int32) (hx0 : (19, x0) ∈ ids) {z : St} {H : Heap} {locs : List Loc} {ls : Array Slot} (hr : zRep D cy B ids A s.heap z H locs) (hl : lv_has ls 5 [(0, .ref (B 19 x0)), (1, .int x1), (2, .int x2), (3, .int x3), (4, .int x4)]) (h : fX19_costTo_47 N K3 x0 x1 x2 x3 x4 z = some (r, z')) : W p l e rmX19_costTo s m args below meth c H locs 0 0 Q (F0 m 47 ls []) := by
  unfold fX19_costTo_47 at h
  obtain ⟨v1, ev1⟩ : ∃ y : Int32, y = (x4 + 1) := ⟨_, rfl⟩
  replace h := zl_sub ev1 h
  refine lv_iinc (v := v1) (lv' := [(4, .int v1), (0, .ref (B 19 x0)), (1, .int x1), (2, .int x2), (3, .int x3)]) F.1 F.2.1 dX19_costTo_47 hl (k := 4) rfl (by rw [ev1]; rfl) (by decide) rfl (fun ls hl => ?_)
  refine lv_goto (tgt := 3) F.1 F.2.1 dX19_costTo_50 (by decide) ?_
  exact hK3 x0 x1 x2 x3 v1 hx0 hr (lv_sub hl [1, 2, 3, 4, 0] rfl) h
def fX19_costTo_3b (N : Nat) (K3 : Nat → Int32 → Int32 → Int32 → Int32 → St → Option (Int32 × St)) (x0 : Nat) (x1 : Int32) (x2 : Int32) (x3 : Int32) (x4 : Int32) (z : St) : Option (Int32 × St) := zc (fX19_ad N x0 x1 (3 : Int32) z) fun r1 z2 => if r1 ≤ x4 then (some ((-1 : Int32), z2)) else (zc (fX19_friendRow N x0 x1 x4 (0 : Int32) z2) fun r6 z7 => if ¬ r6 = x2 then (fX19_costTo_47 N K3 x0 x1 x2 x3 x4 z7) else (zc (fX19_friendRow N x0 x1 x4 (1 : Int32) z7) fun r11 z12 => if ¬ r11 = x3 then (fX19_costTo_47 N K3 x0 x1 x2 x3 x4 z12) else (zc (fX19_friendRow N x0 x1 x4 (2 : Int32) z12) fun r16 z17 => some (r16, z17))))
def fX19_costTo_3 (N : Nat)  : Nat → Nat → Int32 → Int32 → Int32 → Int32 → St → Option (Int32 × St)
  | 0 => fun _ _ _ _ _ _ => none
  | n + 1 => fX19_costTo_3b N (fX19_costTo_3 N  n)
set_option maxHeartbeats 4000000 in
set_option maxRecDepth 100000 in
theorem bX19_costTo_3 (hst : zSt B ids) (F : zFx p m c cX19_costTo 5 s args RX19 D cy B ids A) (hA : ∀ q : Nat, s.heap.size ≤ q → A q) {r : Int32} {z' : St} (E : zEnd p l e rmX19_costTo s m args below meth c cX19_costTo D cy B ids A Q (some (.int r)) z' .ireturn True) {N : Nat} {K3 : Nat → Int32 → Int32 → Int32 → Int32 → St → Option (Int32 × St)} (hK3 : ∀ (x0 : Nat) (x1 : Int32) (x2 : Int32) (x3 : Int32) (x4 : Int32) (hx0 : (19, x0) ∈ ids) {z : St} {H : Heap} {locs : List Loc} {ls : Array Slot} (hr : zRep D cy B ids A s.heap z H locs) (hl : lv_has ls 5 [(0, .ref (B 19 x0)), (1, .int x1), (2, .int x2), (3, .int x3), (4, .int x4)]), K3 x0 x1 x2 x3 x4 z = some (r, z') → W p l e rmX19_costTo s m args below meth c H locs 0 0 Q (F0 m 3 ls [])) (x0 : Nat) (x1 : Int32) (x2 : Int32) (x3 : Int32) (x4 : Int32) (hx0 : (19, x0) ∈ ids) {z : St} {H : Heap} {locs : List Loc} {ls : Array Slot} (hr : zRep D cy B ids A s.heap z H locs) (hl : lv_has ls 5 [(0, .ref (B 19 x0)), (1, .int x1), (2, .int x2), (3, .int x3), (4, .int x4)]) (h : fX19_costTo_3b N K3 x0 x1 x2 x3 x4 z = some (r, z')) : W p l e rmX19_costTo s m args below meth c H locs 0 0 Q (F0 m 3 ls []) := by
  unfold fX19_costTo_3b at h
  refine lv_iload F.1 F.2.1 dX19_costTo_3 (lv_at hl 4 rfl) ?_
  refine lv_aload_n F.1 F.2.1 dX19_costTo_5 rfl (lv_at hl 0 rfl) ?_
  refine lv_iload_n F.1 F.2.1 dX19_costTo_6 rfl (lv_at hl 1 rfl) ?_
  refine lv_iconst (v := (3 : Int32)) F.1 F.2.1 dX19_costTo_7 (by decide) ?_
  replace h := zc_some h
  obtain ⟨r1, z2, hc3, h⟩ := h
  refine zr_calli (zrun_V (As := [.int x1, .int (3 : Int32)]) (rest := [.int x4]) zq_2828 zq_2830 zs_X19_ad zq_2831 zq_4 hdX19_ad (by decide) (T := TX19) (N := 32) rfl (okX19_ad l D cy B ids hst N x0 hx0 x1  (3 : Int32)  hr.2.2 hc3) F hr hx0 hl.1 rfl (Nat.le_of_ble_eq_true rfl) dX19_costTo_8 rfl rfl hroX19_costTo_X19_ad ⟨Nat.zero_le _, Nat.zero_le _⟩) F hA hr (fun H locs hw4 hr => ?_)
  clear hc3
  refine lv_icmp_ge (tgt := 53) F.1 F.2.1 dX19_costTo_11 (by decide) (fun c5 => ?_) (fun c5 => ?_)
  · replace h := zi_t c5 h
    refine lv_iconst (v := (-1 : Int32)) F.1 F.2.1 dX19_costTo_53 (by decide) ?_
    obtain ⟨rfl, rfl⟩ := zret h
    exact E _ _ _ _ dX19_costTo_54 trivial hr
  · replace h := zi_f c5 h
    refine lv_aload_n F.1 F.2.1 dX19_costTo_14 rfl (lv_at hl 0 rfl) ?_
    refine lv_iload_n F.1 F.2.1 dX19_costTo_15 rfl (lv_at hl 1 rfl) ?_
    refine lv_iload F.1 F.2.1 dX19_costTo_16 (lv_at hl 4 rfl) ?_
    refine lv_iconst (v := (0 : Int32)) F.1 F.2.1 dX19_costTo_18 (by decide) ?_
    replace h := zc_some h
    obtain ⟨r6, z7, hc8, h⟩ := h
    refine zr_calli (zrun_V (As := [.int x1, .int x4, .int (0 : Int32)]) (rest := []) zq_2904 zq_2906 zs_X19_friendRow zq_2907 zq_4 hdX19_friendRow (by decide) (T := TX19) (N := 32) rfl (okX19_friendRow l D cy B ids hst N x0 hx0 x1  x4  (0 : Int32)  hr.2.2 hc8) F hr hx0 hl.1 rfl (by decide) dX19_costTo_19 rfl rfl hroX19_costTo_X19_friendRow ⟨Nat.zero_le _, Nat.zero_le _⟩) F hA hr (fun H locs hw9 hr => ?_)
    clear hc8
    refine lv_iload_n F.1 F.2.1 dX19_costTo_22 rfl (lv_at hl 2 rfl) ?_
    refine lv_icmp_ne (tgt := 47) F.1 F.2.1 dX19_costTo_23 (by decide) (fun c10 => ?_) (fun c10 => ?_)
    · replace h := zi_t c10 h
      exact bX19_costTo_47 hst F hA E hK3 x0 x1 x2 x3 x4 hx0 hr (lv_sub hl [0, 1, 2, 3, 4] rfl) h
    · replace h := zi_f (fun q => q c10) h
      refine lv_aload_n F.1 F.2.1 dX19_costTo_26 rfl (lv_at hl 0 rfl) ?_
      refine lv_iload_n F.1 F.2.1 dX19_costTo_27 rfl (lv_at hl 1 rfl) ?_
      refine lv_iload F.1 F.2.1 dX19_costTo_28 (lv_at hl 4 rfl) ?_
      refine lv_iconst (v := (1 : Int32)) F.1 F.2.1 dX19_costTo_30 (by decide) ?_
      replace h := zc_some h
      obtain ⟨r11, z12, hc13, h⟩ := h
      refine zr_calli (zrun_V (As := [.int x1, .int x4, .int (1 : Int32)]) (rest := []) zq_2904 zq_2906 zs_X19_friendRow zq_2907 zq_4 hdX19_friendRow (by decide) (T := TX19) (N := 32) rfl (okX19_friendRow l D cy B ids hst N x0 hx0 x1  x4  (1 : Int32)  hr.2.2 hc13) F hr hx0 hl.1 rfl (by decide) dX19_costTo_31 rfl rfl hroX19_costTo_X19_friendRow ⟨Nat.zero_le _, Nat.zero_le _⟩) F hA hr (fun H locs hw14 hr => ?_)
      clear hc13
      refine lv_iload_n F.1 F.2.1 dX19_costTo_34 rfl (lv_at hl 3 rfl) ?_
      refine lv_icmp_ne (tgt := 47) F.1 F.2.1 dX19_costTo_35 (by decide) (fun c15 => ?_) (fun c15 => ?_)
      · replace h := zi_t c15 h
        exact bX19_costTo_47 hst F hA E hK3 x0 x1 x2 x3 x4 hx0 hr (lv_sub hl [0, 1, 2, 3, 4] rfl) h
      · replace h := zi_f (fun q => q c15) h
        refine lv_aload_n F.1 F.2.1 dX19_costTo_38 rfl (lv_at hl 0 rfl) ?_
        refine lv_iload_n F.1 F.2.1 dX19_costTo_39 rfl (lv_at hl 1 rfl) ?_
        refine lv_iload F.1 F.2.1 dX19_costTo_40 (lv_at hl 4 rfl) ?_
        refine lv_iconst (v := (2 : Int32)) F.1 F.2.1 dX19_costTo_42 (by decide) ?_
        replace h := zc_some h
        obtain ⟨r16, z17, hc18, h⟩ := h
        refine zr_calli (zrun_V (As := [.int x1, .int x4, .int (2 : Int32)]) (rest := []) zq_2904 zq_2906 zs_X19_friendRow zq_2907 zq_4 hdX19_friendRow (by decide) (T := TX19) (N := 32) rfl (okX19_friendRow l D cy B ids hst N x0 hx0 x1  x4  (2 : Int32)  hr.2.2 hc18) F hr hx0 hl.1 rfl (by decide) dX19_costTo_43 rfl rfl hroX19_costTo_X19_friendRow ⟨Nat.zero_le _, Nat.zero_le _⟩) F hA hr (fun H locs hw19 hr => ?_)
        clear hc18
        obtain ⟨rfl, rfl⟩ := zret h
        exact E _ _ _ _ dX19_costTo_46 trivial hr
theorem lX19_costTo_3 (hst : zSt B ids) (F : zFx p m c cX19_costTo 5 s args RX19 D cy B ids A) (hA : ∀ q : Nat, s.heap.size ≤ q → A q) {r : Int32} {z' : St} (E : zEnd p l e rmX19_costTo s m args below meth c cX19_costTo D cy B ids A Q (some (.int r)) z' .ireturn True) {N : Nat}  : ∀ (n : Nat) (x0 : Nat) (x1 : Int32) (x2 : Int32) (x3 : Int32) (x4 : Int32) (hx0 : (19, x0) ∈ ids) {z : St} {H : Heap} {locs : List Loc} {ls : Array Slot} (hr : zRep D cy B ids A s.heap z H locs) (hl : lv_has ls 5 [(0, .ref (B 19 x0)), (1, .int x1), (2, .int x2), (3, .int x3), (4, .int x4)]), fX19_costTo_3 N  n x0 x1 x2 x3 x4 z = some (r, z') → W p l e rmX19_costTo s m args below meth c H locs 0 0 Q (F0 m 3 ls []) := by
  intro n
  induction n with
  | zero => intro x0 x1 x2 x3 x4 hx0 z H locs ls hr hl h; cases h
  | succ n ih => intro x0 x1 x2 x3 x4 hx0 z H locs ls hr hl h; exact bX19_costTo_3 hst F hA E ih x0 x1 x2 x3 x4 hx0 hr hl h
def fX19_costTo (N : Nat)  (x0 : Nat) (x1 : Int32) (x2 : Int32) (x3 : Int32) (z : St) : Option (Int32 × St) := fX19_costTo_3 N N x0 x1 x2 x3 (0 : Int32) z
set_option maxHeartbeats 4000000 in
set_option maxRecDepth 100000 in
theorem bX19_costTo_0 (hst : zSt B ids) (F : zFx p m c cX19_costTo 5 s args RX19 D cy B ids A) (hA : ∀ q : Nat, s.heap.size ≤ q → A q) {r : Int32} {z' : St} (E : zEnd p l e rmX19_costTo s m args below meth c cX19_costTo D cy B ids A Q (some (.int r)) z' .ireturn True) {N : Nat}  (x0 : Nat) (x1 : Int32) (x2 : Int32) (x3 : Int32) (hx0 : (19, x0) ∈ ids) {z : St} {H : Heap} {locs : List Loc} {ls : Array Slot} (hr : zRep D cy B ids A s.heap z H locs) (hl : lv_has ls 5 [(0, .ref (B 19 x0)), (1, .int x1), (2, .int x2), (3, .int x3)]) (h : fX19_costTo N x0 x1 x2 x3 z = some (r, z')) : W p l e rmX19_costTo s m args below meth c H locs 0 0 Q (F0 m 0 ls []) := by
  unfold fX19_costTo at h
  refine lv_iconst (v := (0 : Int32)) F.1 F.2.1 dX19_costTo_0 (by decide) ?_
  refine lv_istore (lv' := [(4, .int (0 : Int32)), (0, .ref (B 19 x0)), (1, .int x1), (2, .int x2), (3, .int x3)]) F.1 F.2.1 dX19_costTo_1 hl (by decide) rfl (fun ls hl => ?_)
  exact lX19_costTo_3 hst F hA E  _ x0 x1 x2 x3 (0 : Int32) hx0 hr (lv_sub hl [1, 2, 3, 4, 0] rfl) h
end SX19_costTo
set_option maxRecDepth 100000 in
theorem okX19_costTo (l : Launch) (D : va_G) (cy : Nat → ClassId) (B : Nat → Nat → Nat) (ids : List (Nat × Nat)) (hst : zSt B ids) (N : Nat) (x0 : Nat) (hx0 : (19, x0) ∈ ids) (x1 : Int32) (x2 : Int32) (x3 : Int32) {z : St} {r : Int32} {z' : St} (hW : zWf ids z) (h : fX19_costTo N x0 x1 x2 x3 z = some (r, z')) : zM l yX19_costTo (zws yX19_costTo cX19_costTo 5 (some .int)) rmX19_costTo D cy B ids [.ref (B 19 x0), .int x1, .int x2, .int x3] (some (.int r)) True z z' :=
  zM_of hst hW (by decide +kernel) (Nat.le_of_ble_eq_true rfl) (fun p e s m args below meth c A ls F hA hret hlocks hr hl => bX19_costTo_0 hst F hA (zEnd_i F hret hlocks) x0 x1 x2 x3 hx0 hr hl h)
abbrev rmX19_costOn : Room := { frames := 1, cells := 0, slots := 0, locals := 23 }
theorem hdX19_costOn : yX19_costOn.cls ≠ "java/lang/invoke/MethodHandle" ∧ yX19_costOn.cls ≠ "java/lang/invoke/VarHandle" ∧ (parseMethodDescriptor yX19_costOn.desc).map (fun d => d.parameters.length) = some 2 := by decide +kernel
theorem hroX19_costOn_X19_ad : rmX19_ad.frames + 1 ≤ rmX19_costOn.frames ∧ 8 + (3 + 11) + rmX19_ad.locals ≤ rmX19_costOn.locals := by decide
theorem hroX19_costOn_X19_netRow : rmX19_netRow.frames + 1 ≤ rmX19_costOn.frames ∧ 8 + (4 + 11) + rmX19_netRow.locals ≤ rmX19_costOn.locals := by decide
section SX19_costOn
variable {p : Program} {l : Launch} {e : Env} {s : State} {m : MethodId} {args : Array Value} {below : List Frame} {meth : Method} {c : Code} {Q : State → Prop} {D : va_G} {cy : Nat → ClassId} {B : Nat → Nat → Nat} {ids : List (Nat × Nat)} {A : Nat → Prop}
def fX19_costOn_2b (N : Nat) (K2 : Nat → Int32 → Int32 → Int32 → St → Option (Int32 × St)) (x0 : Nat) (x1 : Int32) (x2 : Int32) (x3 : Int32) (z : St) : Option (Int32 × St) := if x1 = (-1 : Int32) then (some ((-1 : Int32), z)) else (zc (fX19_ad N x0 x1 (2 : Int32) z) fun r2 z3 => if r2 ≤ x3 then (some ((-1 : Int32), z3)) else (zc (fX19_netRow N x0 x1 x3 (1 : Int32) z3) fun r7 z8 => if ¬ r7 = x2 then (zl (x3 + 1) fun v12 => K2 x0 x1 x2 v12 z8) else (zc (fX19_netRow N x0 x1 x3 (2 : Int32) z8) fun r13 z14 => some (r13, z14))))
def fX19_costOn_2 (N : Nat)  : Nat → Nat → Int32 → Int32 → Int32 → St → Option (Int32 × St)
  | 0 => fun _ _ _ _ _ => none
  | n + 1 => fX19_costOn_2b N (fX19_costOn_2 N  n)
set_option maxHeartbeats 4000000 in
set_option maxRecDepth 100000 in
theorem bX19_costOn_2 (hst : zSt B ids) (F : zFx p m c cX19_costOn 4 s args RX19 D cy B ids A) (hA : ∀ q : Nat, s.heap.size ≤ q → A q) {r : Int32} {z' : St} (E : zEnd p l e rmX19_costOn s m args below meth c cX19_costOn D cy B ids A Q (some (.int r)) z' .ireturn True) {N : Nat} {K2 : Nat → Int32 → Int32 → Int32 → St → Option (Int32 × St)} (hK2 : ∀ (x0 : Nat) (x1 : Int32) (x2 : Int32) (x3 : Int32) (hx0 : (19, x0) ∈ ids) {z : St} {H : Heap} {locs : List Loc} {ls : Array Slot} (hr : zRep D cy B ids A s.heap z H locs) (hl : lv_has ls 4 [(0, .ref (B 19 x0)), (1, .int x1), (2, .int x2), (3, .int x3)]), K2 x0 x1 x2 x3 z = some (r, z') → W p l e rmX19_costOn s m args below meth c H locs 0 0 Q (F0 m 2 ls [])) (x0 : Nat) (x1 : Int32) (x2 : Int32) (x3 : Int32) (hx0 : (19, x0) ∈ ids) {z : St} {H : Heap} {locs : List Loc} {ls : Array Slot} (hr : zRep D cy B ids A s.heap z H locs) (hl : lv_has ls 4 [(0, .ref (B 19 x0)), (1, .int x1), (2, .int x2), (3, .int x3)]) (h : fX19_costOn_2b N K2 x0 x1 x2 x3 z = some (r, z')) : W p l e rmX19_costOn s m args below meth c H locs 0 0 Q (F0 m 2 ls []) := by
  unfold fX19_costOn_2b at h
  refine lv_iload_n F.1 F.2.1 dX19_costOn_2 rfl (lv_at hl 1 rfl) ?_
  refine lv_iconst (v := (-1 : Int32)) F.1 F.2.1 dX19_costOn_3 (by decide) ?_
  refine lv_icmp_eq (tgt := 42) F.1 F.2.1 dX19_costOn_4 (by decide) (fun c1 => ?_) (fun c1 => ?_)
  · replace h := zi_t c1 h
    refine lv_iconst (v := (-1 : Int32)) F.1 F.2.1 dX19_costOn_42 (by decide) ?_
    obtain ⟨rfl, rfl⟩ := zret h
    exact E _ _ _ _ dX19_costOn_43 trivial hr
  · replace h := zi_f c1 h
    refine lv_iload_n F.1 F.2.1 dX19_costOn_7 rfl (lv_at hl 3 rfl) ?_
    refine lv_aload_n F.1 F.2.1 dX19_costOn_8 rfl (lv_at hl 0 rfl) ?_
    refine lv_iload_n F.1 F.2.1 dX19_costOn_9 rfl (lv_at hl 1 rfl) ?_
    refine lv_iconst (v := (2 : Int32)) F.1 F.2.1 dX19_costOn_10 (by decide) ?_
    replace h := zc_some h
    obtain ⟨r2, z3, hc4, h⟩ := h
    refine zr_calli (zrun_V (As := [.int x1, .int (2 : Int32)]) (rest := [.int x3]) zq_2828 zq_2830 zs_X19_ad zq_2831 zq_4 hdX19_ad (by decide) (T := TX19) (N := 32) rfl (okX19_ad l D cy B ids hst N x0 hx0 x1  (2 : Int32)  hr.2.2 hc4) F hr hx0 hl.1 rfl (Nat.le_of_ble_eq_true rfl) dX19_costOn_11 rfl rfl hroX19_costOn_X19_ad ⟨Nat.zero_le _, Nat.zero_le _⟩) F hA hr (fun H locs hw5 hr => ?_)
    clear hc4
    refine lv_icmp_ge (tgt := 42) F.1 F.2.1 dX19_costOn_14 (by decide) (fun c6 => ?_) (fun c6 => ?_)
    · replace h := zi_t c6 h
      refine lv_iconst (v := (-1 : Int32)) F.1 F.2.1 dX19_costOn_42 (by decide) ?_
      obtain ⟨rfl, rfl⟩ := zret h
      exact E _ _ _ _ dX19_costOn_43 trivial hr
    · replace h := zi_f c6 h
      refine lv_aload_n F.1 F.2.1 dX19_costOn_17 rfl (lv_at hl 0 rfl) ?_
      refine lv_iload_n F.1 F.2.1 dX19_costOn_18 rfl (lv_at hl 1 rfl) ?_
      refine lv_iload_n F.1 F.2.1 dX19_costOn_19 rfl (lv_at hl 3 rfl) ?_
      refine lv_iconst (v := (1 : Int32)) F.1 F.2.1 dX19_costOn_20 (by decide) ?_
      replace h := zc_some h
      obtain ⟨r7, z8, hc9, h⟩ := h
      refine zr_calli (zrun_V (As := [.int x1, .int x3, .int (1 : Int32)]) (rest := []) zq_2908 zq_2910 zs_X19_netRow zq_2911 zq_4 hdX19_netRow (by decide) (T := TX19) (N := 32) rfl (okX19_netRow l D cy B ids hst N x0 hx0 x1  x3  (1 : Int32)  hr.2.2 hc9) F hr hx0 hl.1 rfl (by decide) dX19_costOn_21 rfl rfl hroX19_costOn_X19_netRow ⟨Nat.zero_le _, Nat.zero_le _⟩) F hA hr (fun H locs hw10 hr => ?_)
      clear hc9
      refine lv_iload_n F.1 F.2.1 dX19_costOn_24 rfl (lv_at hl 2 rfl) ?_
      refine lv_icmp_ne (tgt := 36) F.1 F.2.1 dX19_costOn_25 (by decide) (fun c11 => ?_) (fun c11 => ?_)
      · replace h := zi_t c11 h
        obtain ⟨v12, ev12⟩ : ∃ y : Int32, y = (x3 + 1) := ⟨_, rfl⟩
        replace h := zl_sub ev12 h
        refine lv_iinc (v := v12) (lv' := [(3, .int v12), (0, .ref (B 19 x0)), (1, .int x1), (2, .int x2)]) F.1 F.2.1 dX19_costOn_36 hl (k := 3) rfl (by rw [ev12]; rfl) (by decide) rfl (fun ls hl => ?_)
        refine lv_goto (tgt := 2) F.1 F.2.1 dX19_costOn_39 (by decide) ?_
        exact hK2 x0 x1 x2 v12 hx0 hr (lv_sub hl [1, 2, 3, 0] rfl) h
      · replace h := zi_f (fun q => q c11) h
        refine lv_aload_n F.1 F.2.1 dX19_costOn_28 rfl (lv_at hl 0 rfl) ?_
        refine lv_iload_n F.1 F.2.1 dX19_costOn_29 rfl (lv_at hl 1 rfl) ?_
        refine lv_iload_n F.1 F.2.1 dX19_costOn_30 rfl (lv_at hl 3 rfl) ?_
        refine lv_iconst (v := (2 : Int32)) F.1 F.2.1 dX19_costOn_31 (by decide) ?_
        replace h := zc_some h
        obtain ⟨r13, z14, hc15, h⟩ := h
        refine zr_calli (zrun_V (As := [.int x1, .int x3, .int (2 : Int32)]) (rest := []) zq_2908 zq_2910 zs_X19_netRow zq_2911 zq_4 hdX19_netRow (by decide) (T := TX19) (N := 32) rfl (okX19_netRow l D cy B ids hst N x0 hx0 x1  x3  (2 : Int32)  hr.2.2 hc15) F hr hx0 hl.1 rfl (by decide) dX19_costOn_32 rfl rfl hroX19_costOn_X19_netRow ⟨Nat.zero_le _, Nat.zero_le _⟩) F hA hr (fun H locs hw16 hr => ?_)
        clear hc15
        obtain ⟨rfl, rfl⟩ := zret h
        exact E _ _ _ _ dX19_costOn_35 trivial hr
theorem lX19_costOn_2 (hst : zSt B ids) (F : zFx p m c cX19_costOn 4 s args RX19 D cy B ids A) (hA : ∀ q : Nat, s.heap.size ≤ q → A q) {r : Int32} {z' : St} (E : zEnd p l e rmX19_costOn s m args below meth c cX19_costOn D cy B ids A Q (some (.int r)) z' .ireturn True) {N : Nat}  : ∀ (n : Nat) (x0 : Nat) (x1 : Int32) (x2 : Int32) (x3 : Int32) (hx0 : (19, x0) ∈ ids) {z : St} {H : Heap} {locs : List Loc} {ls : Array Slot} (hr : zRep D cy B ids A s.heap z H locs) (hl : lv_has ls 4 [(0, .ref (B 19 x0)), (1, .int x1), (2, .int x2), (3, .int x3)]), fX19_costOn_2 N  n x0 x1 x2 x3 z = some (r, z') → W p l e rmX19_costOn s m args below meth c H locs 0 0 Q (F0 m 2 ls []) := by
  intro n
  induction n with
  | zero => intro x0 x1 x2 x3 hx0 z H locs ls hr hl h; cases h
  | succ n ih => intro x0 x1 x2 x3 hx0 z H locs ls hr hl h; exact bX19_costOn_2 hst F hA E ih x0 x1 x2 x3 hx0 hr hl h
def fX19_costOn (N : Nat)  (x0 : Nat) (x1 : Int32) (x2 : Int32) (z : St) : Option (Int32 × St) := fX19_costOn_2 N N x0 x1 x2 (0 : Int32) z
set_option maxHeartbeats 4000000 in
set_option maxRecDepth 100000 in
theorem bX19_costOn_0 (hst : zSt B ids) (F : zFx p m c cX19_costOn 4 s args RX19 D cy B ids A) (hA : ∀ q : Nat, s.heap.size ≤ q → A q) {r : Int32} {z' : St} (E : zEnd p l e rmX19_costOn s m args below meth c cX19_costOn D cy B ids A Q (some (.int r)) z' .ireturn True) {N : Nat}  (x0 : Nat) (x1 : Int32) (x2 : Int32) (hx0 : (19, x0) ∈ ids) {z : St} {H : Heap} {locs : List Loc} {ls : Array Slot} (hr : zRep D cy B ids A s.heap z H locs) (hl : lv_has ls 4 [(0, .ref (B 19 x0)), (1, .int x1), (2, .int x2)]) (h : fX19_costOn N x0 x1 x2 z = some (r, z')) : W p l e rmX19_costOn s m args below meth c H locs 0 0 Q (F0 m 0 ls []) := by
  unfold fX19_costOn at h
  refine lv_iconst (v := (0 : Int32)) F.1 F.2.1 dX19_costOn_0 (by decide) ?_
  refine lv_istore_n (lv' := [(3, .int (0 : Int32)), (0, .ref (B 19 x0)), (1, .int x1), (2, .int x2)]) F.1 F.2.1 dX19_costOn_1 rfl hl (by decide) rfl (fun ls hl => ?_)
  exact lX19_costOn_2 hst F hA E  _ x0 x1 x2 (0 : Int32) hx0 hr (lv_sub hl [1, 2, 3, 0] rfl) h
end SX19_costOn
set_option maxRecDepth 100000 in
theorem okX19_costOn (l : Launch) (D : va_G) (cy : Nat → ClassId) (B : Nat → Nat → Nat) (ids : List (Nat × Nat)) (hst : zSt B ids) (N : Nat) (x0 : Nat) (hx0 : (19, x0) ∈ ids) (x1 : Int32) (x2 : Int32) {z : St} {r : Int32} {z' : St} (hW : zWf ids z) (h : fX19_costOn N x0 x1 x2 z = some (r, z')) : zM l yX19_costOn (zws yX19_costOn cX19_costOn 4 (some .int)) rmX19_costOn D cy B ids [.ref (B 19 x0), .int x1, .int x2] (some (.int r)) True z z' :=
  zM_of hst hW (by decide +kernel) (Nat.le_of_ble_eq_true rfl) (fun p e s m args below meth c A ls F hA hret hlocks hr hl => bX19_costOn_0 hst F hA (zEnd_i F hret hlocks) x0 x1 x2 hx0 hr hl h)
abbrev rmX19_newBook : Room := { frames := 0, cells := 0, slots := 0, locals := 0 }
theorem hdX19_newBook : yX19_newBook.cls ≠ "java/lang/invoke/MethodHandle" ∧ yX19_newBook.cls ≠ "java/lang/invoke/VarHandle" ∧ (parseMethodDescriptor yX19_newBook.desc).map (fun d => d.parameters.length) = some 0 := by decide +kernel
section SX19_newBook
variable {p : Program} {l : Launch} {e : Env} {s : State} {m : MethodId} {args : Array Value} {below : List Frame} {meth : Method} {c : Code} {Q : State → Prop} {D : va_G} {cy : Nat → ClassId} {B : Nat → Nat → Nat} {ids : List (Nat × Nat)} {A : Nat → Prop}
def fX19_newBook (N : Nat)  (x0 : Nat) (z : St) : Option (Int32 × St) := zl (zsI z 19 17 x0 ((zgI z 19 17 x0) - (1 : Int32))) fun z1 => zk (zgI z1 19 17 x0) 2592 <| zl (zgA z1 185 x0 (Int32.toNatClampNeg (zgI z1 19 17 x0))) fun v3 => zk v3 2592 <| zl (zsA z1 182 x0 (Int32.toNatClampNeg v3) (0 : Int32)) fun z5 => zk v3 2592 <| zl (zsA z5 183 x0 (Int32.toNatClampNeg v3) (1 : Int32)) fun z7 => zk v3 2592 <| zk v3 2592 <| zl (zsA z7 184 x0 (Int32.toNatClampNeg v3) ((zgA z7 184 x0 (Int32.toNatClampNeg v3)) + (1 : Int32))) fun z10 => some (v3, z10)
set_option maxHeartbeats 4000000 in
set_option maxRecDepth 100000 in
theorem bX19_newBook_0 (hst : zSt B ids) (F : zFx p m c cX19_newBook 2 s args RX19 D cy B ids A) (hA : ∀ q : Nat, s.heap.size ≤ q → A q) {r : Int32} {z' : St} (E : zEnd p l e rmX19_newBook s m args below meth c cX19_newBook D cy B ids A Q (some (.int r)) z' .ireturn True) {N : Nat}  (x0 : Nat) (hx0 : (19, x0) ∈ ids) {z : St} {H : Heap} {locs : List Loc} {ls : Array Slot} (hr : zRep D cy B ids A s.heap z H locs) (hl : lv_has ls 2 [(0, .ref (B 19 x0))]) (h : fX19_newBook N x0 z = some (r, z')) : W p l e rmX19_newBook s m args below meth c H locs 0 0 Q (F0 m 0 ls []) := by
  unfold fX19_newBook at h
  refine lv_aload_n F.1 F.2.1 dX19_newBook_0 rfl (lv_at hl 0 rfl) ?_
  refine lv_dup F.1 F.2.1 dX19_newBook_1 rfl ?_
  refine gf19_84 F hx0 hr dX19_newBook_2 ?_
  refine lv_iconst (v := (1 : Int32)) F.1 F.2.1 dX19_newBook_5 (by decide) ?_
  refine lv_isub F.1 F.2.1 dX19_newBook_6 ?_
  refine pf19_84 F hx0 hr dX19_newBook_7 ((zgI z 19 17 x0) - (1 : Int32)) (fun H locs z1 ez1 hr => ?_)
  replace h := zl_sub ez1 h
  clear ez1
  refine lv_aload_n F.1 F.2.1 dX19_newBook_10 rfl (lv_at hl 0 rfl) ?_
  refine gf19_87 F hx0 hr dX19_newBook_11 ?_
  refine lv_aload_n F.1 F.2.1 dX19_newBook_14 rfl (lv_at hl 0 rfl) ?_
  refine gf19_84 F hx0 hr dX19_newBook_15 ?_
  replace h := zk_some h
  obtain ⟨c2, h⟩ := h
  refine zr_iald (k := 185) (by decide) rfl (by decide) F (zal_a F hx0 (j := 16) rfl) hr dX19_newBook_18 c2 ?_
  refine lv_topi (fun v3 ev3 => ?_)
  replace h := zl_sub ev3 h
  refine lv_istore_n (lv' := [(1, .int v3), (0, .ref (B 19 x0))]) F.1 F.2.1 dX19_newBook_19 rfl hl (by decide) rfl (fun ls hl => ?_)
  refine lv_aload_n F.1 F.2.1 dX19_newBook_20 rfl (lv_at hl 1 rfl) ?_
  refine gf19_90 F hx0 hr dX19_newBook_21 ?_
  refine lv_iload_n F.1 F.2.1 dX19_newBook_24 rfl (lv_at hl 0 rfl) ?_
  refine lv_iconst (v := (0 : Int32)) F.1 F.2.1 dX19_newBook_25 (by decide) ?_
  replace h := zk_some h
  obtain ⟨c4, h⟩ := h
  refine zr_iast (k := 182) (by decide) rfl (by decide) F (zal_a F hx0 (j := 13) rfl) hr dX19_newBook_26 c4 (fun H locs z5 ez5 hr => ?_)
  replace h := zl_sub ez5 h
  clear ez5
  refine lv_aload_n F.1 F.2.1 dX19_newBook_27 rfl (lv_at hl 1 rfl) ?_
  refine gf19_93 F hx0 hr dX19_newBook_28 ?_
  refine lv_iload_n F.1 F.2.1 dX19_newBook_31 rfl (lv_at hl 0 rfl) ?_
  refine lv_iconst (v := (1 : Int32)) F.1 F.2.1 dX19_newBook_32 (by decide) ?_
  replace h := zk_some h
  obtain ⟨c6, h⟩ := h
  refine zr_iast (k := 183) (by decide) rfl (by decide) F (zal_a F hx0 (j := 14) rfl) hr dX19_newBook_33 c6 (fun H locs z7 ez7 hr => ?_)
  replace h := zl_sub ez7 h
  clear ez7
  refine lv_aload_n F.1 F.2.1 dX19_newBook_34 rfl (lv_at hl 1 rfl) ?_
  refine gf19_96 F hx0 hr dX19_newBook_35 ?_
  refine lv_iload_n F.1 F.2.1 dX19_newBook_38 rfl (lv_at hl 0 rfl) ?_
  refine lv_dup2_11 F.1 F.2.1 dX19_newBook_39 rfl rfl ?_
  replace h := zk_some h
  obtain ⟨c8, h⟩ := h
  refine zr_iald (k := 184) (by decide) rfl (by decide) F (zal_a F hx0 (j := 15) rfl) hr dX19_newBook_40 c8 ?_
  refine lv_iconst (v := (1 : Int32)) F.1 F.2.1 dX19_newBook_41 (by decide) ?_
  refine lv_iadd F.1 F.2.1 dX19_newBook_42 ?_
  replace h := zk_some h
  obtain ⟨c9, h⟩ := h
  refine zr_iast (k := 184) (by decide) rfl (by decide) F (zal_a F hx0 (j := 15) rfl) hr dX19_newBook_43 c9 (fun H locs z10 ez10 hr => ?_)
  replace h := zl_sub ez10 h
  clear ez10
  refine lv_iload_n F.1 F.2.1 dX19_newBook_44 rfl (lv_at hl 0 rfl) ?_
  obtain ⟨rfl, rfl⟩ := zret h
  exact E _ _ _ _ dX19_newBook_45 trivial hr
end SX19_newBook
set_option maxRecDepth 100000 in
theorem okX19_newBook (l : Launch) (D : va_G) (cy : Nat → ClassId) (B : Nat → Nat → Nat) (ids : List (Nat × Nat)) (hst : zSt B ids) (N : Nat) (x0 : Nat) (hx0 : (19, x0) ∈ ids) {z : St} {r : Int32} {z' : St} (hW : zWf ids z) (h : fX19_newBook N x0 z = some (r, z')) : zM l yX19_newBook (zws yX19_newBook cX19_newBook 2 (some .int)) rmX19_newBook D cy B ids [.ref (B 19 x0)] (some (.int r)) True z z' :=
  zM_of hst hW (by decide +kernel) (Nat.le_of_ble_eq_true rfl) (fun p e s m args below meth c A ls F hA hret hlocks hr hl => bX19_newBook_0 hst F hA (zEnd_i F hret hlocks) x0 hx0 hr hl h)
abbrev rmX19_writeDown : Room := { frames := 0, cells := 0, slots := 0, locals := 0 }
theorem hdX19_writeDown : yX19_writeDown.cls ≠ "java/lang/invoke/MethodHandle" ∧ yX19_writeDown.cls ≠ "java/lang/invoke/VarHandle" ∧ (parseMethodDescriptor yX19_writeDown.desc).map (fun d => d.parameters.length) = some 2 := by decide +kernel
section SX19_writeDown
variable {p : Program} {l : Launch} {e : Env} {s : State} {m : MethodId} {args : Array Value} {below : List Frame} {meth : Method} {c : Code} {Q : State → Prop} {D : va_G} {cy : Nat → ClassId} {B : Nat → Nat → Nat} {ids : List (Nat × Nat)} {A : Nat → Prop}
def fX19_writeDown (N : Nat)  (x0 : Nat) (x1 : Int32) (x2 : Int32) (z : St) : Option (Int32 × St) := zk x1 2592 <| zl ((zgA z 182 x0 (Int32.toNatClampNeg x1)) &&& (4095 : Int32)) fun v2 => zl (((512 : Int32) * x1) + (v2 >>> ((3 : Int32) &&& 31))) fun v3 => zl ((8 : Int32) * (v2 &&& (7 : Int32))) fun v4 => zk v3 1327104 <| zk v3 1327104 <| zl (zsL z 181 x0 (Int32.toNatClampNeg v3) (((zgL z 181 x0 (Int32.toNatClampNeg v3)) &&& (((255 : Int64) <<< ((v4).toInt64 &&& 63)) ^^^ (-1 : Int64))) ||| ((Int32.toInt64 (x2 &&& (255 : Int32))) <<< ((v4).toInt64 &&& 63)))) fun z7 => zk x1 2592 <| zk x1 2592 <| zl (zsA z7 182 x0 (Int32.toNatClampNeg x1) ((zgA z7 182 x0 (Int32.toNatClampNeg x1)) + (1 : Int32))) fun z10 => some (0, z10)
set_option maxHeartbeats 4000000 in
set_option maxRecDepth 100000 in
theorem bX19_writeDown_0 (hst : zSt B ids) (F : zFx p m c cX19_writeDown 6 s args RX19 D cy B ids A) (hA : ∀ q : Nat, s.heap.size ≤ q → A q) {r : Int32} {z' : St} (E : zEnd p l e rmX19_writeDown s m args below meth c cX19_writeDown D cy B ids A Q none z' .return_ True) {N : Nat}  (x0 : Nat) (x1 : Int32) (x2 : Int32) (hx0 : (19, x0) ∈ ids) {z : St} {H : Heap} {locs : List Loc} {ls : Array Slot} (hr : zRep D cy B ids A s.heap z H locs) (hl : lv_has ls 6 [(0, .ref (B 19 x0)), (1, .int x1), (2, .int x2)]) (h : fX19_writeDown N x0 x1 x2 z = some (r, z')) : W p l e rmX19_writeDown s m args below meth c H locs 0 0 Q (F0 m 0 ls []) := by
  unfold fX19_writeDown at h
  refine lv_aload_n F.1 F.2.1 dX19_writeDown_0 rfl (lv_at hl 0 rfl) ?_
  refine gf19_90 F hx0 hr dX19_writeDown_1 ?_
  refine lv_iload_n F.1 F.2.1 dX19_writeDown_4 rfl (lv_at hl 1 rfl) ?_
  replace h := zk_some h
  obtain ⟨c1, h⟩ := h
  refine zr_iald (k := 182) (by decide) rfl (by decide) F (zal_a F hx0 (j := 13) rfl) hr dX19_writeDown_5 c1 ?_
  refine lv_sipush (v := (4095 : Int32)) F.1 F.2.1 dX19_writeDown_6 (by decide) ?_
  refine lv_iand F.1 F.2.1 dX19_writeDown_9 ?_
  refine lv_topi (fun v2 ev2 => ?_)
  replace h := zl_sub ev2 h
  refine lv_istore_n (lv' := [(3, .int v2), (0, .ref (B 19 x0)), (1, .int x1), (2, .int x2)]) F.1 F.2.1 dX19_writeDown_10 rfl hl (by decide) rfl (fun ls hl => ?_)
  refine lv_sipush (v := (512 : Int32)) F.1 F.2.1 dX19_writeDown_11 (by decide) ?_
  refine lv_iload_n F.1 F.2.1 dX19_writeDown_14 rfl (lv_at hl 2 rfl) ?_
  refine lv_imul F.1 F.2.1 dX19_writeDown_15 ?_
  refine lv_iload_n F.1 F.2.1 dX19_writeDown_16 rfl (lv_at hl 0 rfl) ?_
  refine lv_iconst (v := (3 : Int32)) F.1 F.2.1 dX19_writeDown_17 (by decide) ?_
  refine lv_ishr F.1 F.2.1 dX19_writeDown_18 ?_
  refine lv_iadd F.1 F.2.1 dX19_writeDown_19 ?_
  refine lv_topi (fun v3 ev3 => ?_)
  replace h := zl_sub ev3 h
  refine lv_istore (lv' := [(4, .int v3), (3, .int v2), (0, .ref (B 19 x0)), (1, .int x1), (2, .int x2)]) F.1 F.2.1 dX19_writeDown_20 hl (by decide) rfl (fun ls hl => ?_)
  refine lv_bipush (v := (8 : Int32)) F.1 F.2.1 dX19_writeDown_22 (by decide) ?_
  refine lv_iload_n F.1 F.2.1 dX19_writeDown_24 rfl (lv_at hl 1 rfl) ?_
  refine lv_bipush (v := (7 : Int32)) F.1 F.2.1 dX19_writeDown_25 (by decide) ?_
  refine lv_iand F.1 F.2.1 dX19_writeDown_27 ?_
  refine lv_imul F.1 F.2.1 dX19_writeDown_28 ?_
  refine lv_topi (fun v4 ev4 => ?_)
  replace h := zl_sub ev4 h
  refine lv_istore (lv' := [(5, .int v4), (4, .int v3), (3, .int v2), (0, .ref (B 19 x0)), (1, .int x1), (2, .int x2)]) F.1 F.2.1 dX19_writeDown_29 hl (by decide) rfl (fun ls hl => ?_)
  refine lv_aload_n F.1 F.2.1 dX19_writeDown_31 rfl (lv_at hl 3 rfl) ?_
  refine gf19_99 F hx0 hr dX19_writeDown_32 ?_
  refine lv_iload F.1 F.2.1 dX19_writeDown_35 (lv_at hl 1 rfl) ?_
  refine lv_aload_n F.1 F.2.1 dX19_writeDown_37 rfl (lv_at hl 3 rfl) ?_
  refine gf19_99 F hx0 hr dX19_writeDown_38 ?_
  refine lv_iload F.1 F.2.1 dX19_writeDown_41 (lv_at hl 1 rfl) ?_
  replace h := zk_some h
  obtain ⟨c5, h⟩ := h
  refine zr_lald (k := 181) (by decide) rfl (by decide) F (zal_a F hx0 (j := 12) rfl) hr dX19_writeDown_43 c5 ?_
  refine lv_ldc2 (v := (255)) F.1 F.2.1 F.2.2.2.1 (F.2.2.2.2.1 _ zq_2949) dX19_writeDown_44 ?_
  refine lv_iload F.1 F.2.1 dX19_writeDown_47 (lv_at hl 0 rfl) ?_
  refine lv_lshl F.1 F.2.1 dX19_writeDown_49 rfl ?_
  refine lv_ldc2 (v := (-1)) F.1 F.2.1 F.2.2.2.1 (F.2.2.2.2.1 _ zq_2950) dX19_writeDown_50 ?_
  refine lv_lxor F.1 F.2.1 dX19_writeDown_53 ?_
  refine lv_land F.1 F.2.1 dX19_writeDown_54 ?_
  refine lv_iload_n F.1 F.2.1 dX19_writeDown_55 rfl (lv_at hl 5 rfl) ?_
  refine lv_sipush (v := (255 : Int32)) F.1 F.2.1 dX19_writeDown_56 (by decide) ?_
  refine lv_iand F.1 F.2.1 dX19_writeDown_59 ?_
  refine lv_i2l F.1 F.2.1 dX19_writeDown_60 rfl ?_
  refine lv_iload F.1 F.2.1 dX19_writeDown_61 (lv_at hl 0 rfl) ?_
  refine lv_lshl F.1 F.2.1 dX19_writeDown_63 rfl ?_
  refine lv_lor F.1 F.2.1 dX19_writeDown_64 ?_
  replace h := zk_some h
  obtain ⟨c6, h⟩ := h
  refine zr_last (k := 181) (by decide) rfl (by decide) F (zal_a F hx0 (j := 12) rfl) hr dX19_writeDown_65 c6 (fun H locs z7 ez7 hr => ?_)
  replace h := zl_sub ez7 h
  clear ez7
  refine lv_aload_n F.1 F.2.1 dX19_writeDown_66 rfl (lv_at hl 3 rfl) ?_
  refine gf19_90 F hx0 hr dX19_writeDown_67 ?_
  refine lv_iload_n F.1 F.2.1 dX19_writeDown_70 rfl (lv_at hl 4 rfl) ?_
  refine lv_dup2_11 F.1 F.2.1 dX19_writeDown_71 rfl rfl ?_
  replace h := zk_some h
  obtain ⟨c8, h⟩ := h
  refine zr_iald (k := 182) (by decide) rfl (by decide) F (zal_a F hx0 (j := 13) rfl) hr dX19_writeDown_72 c8 ?_
  refine lv_iconst (v := (1 : Int32)) F.1 F.2.1 dX19_writeDown_73 (by decide) ?_
  refine lv_iadd F.1 F.2.1 dX19_writeDown_74 ?_
  replace h := zk_some h
  obtain ⟨c9, h⟩ := h
  refine zr_iast (k := 182) (by decide) rfl (by decide) F (zal_a F hx0 (j := 13) rfl) hr dX19_writeDown_75 c9 (fun H locs z10 ez10 hr => ?_)
  replace h := zl_sub ez10 h
  clear ez10
  obtain ⟨rfl, rfl⟩ := zret h
  exact E _ _ _ _ dX19_writeDown_76 trivial hr
end SX19_writeDown
set_option maxRecDepth 100000 in
theorem okX19_writeDown (l : Launch) (D : va_G) (cy : Nat → ClassId) (B : Nat → Nat → Nat) (ids : List (Nat × Nat)) (hst : zSt B ids) (N : Nat) (x0 : Nat) (hx0 : (19, x0) ∈ ids) (x1 : Int32) (x2 : Int32) {z : St} {r : Int32} {z' : St} (hW : zWf ids z) (h : fX19_writeDown N x0 x1 x2 z = some (r, z')) : zM l yX19_writeDown (zws yX19_writeDown cX19_writeDown 6 none) rmX19_writeDown D cy B ids [.ref (B 19 x0), .int x1, .int x2] none True z z' :=
  zM_of hst hW (by decide +kernel) (Nat.le_of_ble_eq_true rfl) (fun p e s m args below meth c A ls F hA hret hlocks hr hl => bX19_writeDown_0 hst F hA (zEnd_v F hret hlocks) x0 x1 x2 hx0 hr hl h)
abbrev rmX19_written : Room := { frames := 0, cells := 0, slots := 0, locals := 0 }
theorem hdX19_written : yX19_written.cls ≠ "java/lang/invoke/MethodHandle" ∧ yX19_written.cls ≠ "java/lang/invoke/VarHandle" ∧ (parseMethodDescriptor yX19_written.desc).map (fun d => d.parameters.length) = some 2 := by decide +kernel
section SX19_written
variable {p : Program} {l : Launch} {e : Env} {s : State} {m : MethodId} {args : Array Value} {below : List Frame} {meth : Method} {c : Code} {Q : State → Prop} {D : va_G} {cy : Nat → ClassId} {B : Nat → Nat → Nat} {ids : List (Nat × Nat)} {A : Nat → Prop}
def fX19_written (N : Nat)  (x0 : Nat) (x1 : Int32) (x2 : Int32) (z : St) : Option (Int32 × St) := zl (x2 &&& (4095 : Int32)) fun v1 => zk (((512 : Int32) * x1) + (v1 >>> ((3 : Int32) &&& 31))) 1327104 <| some (((Int64.toInt32 ((zgL z 181 x0 (Int32.toNatClampNeg (((512 : Int32) * x1) + (v1 >>> ((3 : Int32) &&& 31))))) >>> ((((8 : Int32) * (v1 &&& (7 : Int32)))).toInt64 &&& 63))) &&& (255 : Int32)), z)
set_option maxHeartbeats 4000000 in
set_option maxRecDepth 100000 in
theorem bX19_written_0 (hst : zSt B ids) (F : zFx p m c cX19_written 4 s args RX19 D cy B ids A) (hA : ∀ q : Nat, s.heap.size ≤ q → A q) {r : Int32} {z' : St} (E : zEnd p l e rmX19_written s m args below meth c cX19_written D cy B ids A Q (some (.int r)) z' .ireturn True) {N : Nat}  (x0 : Nat) (x1 : Int32) (x2 : Int32) (hx0 : (19, x0) ∈ ids) {z : St} {H : Heap} {locs : List Loc} {ls : Array Slot} (hr : zRep D cy B ids A s.heap z H locs) (hl : lv_has ls 4 [(0, .ref (B 19 x0)), (1, .int x1), (2, .int x2)]) (h : fX19_written N x0 x1 x2 z = some (r, z')) : W p l e rmX19_written s m args below meth c H locs 0 0 Q (F0 m 0 ls []) := by
  unfold fX19_written at h
  refine lv_iload_n F.1 F.2.1 dX19_written_0 rfl (lv_at hl 2 rfl) ?_
  refine lv_sipush (v := (4095 : Int32)) F.1 F.2.1 dX19_written_1 (by decide) ?_
  refine lv_iand F.1 F.2.1 dX19_written_4 ?_
  refine lv_topi (fun v1 ev1 => ?_)
  replace h := zl_sub ev1 h
  refine lv_istore_n (lv' := [(3, .int v1), (0, .ref (B 19 x0)), (1, .int x1), (2, .int x2)]) F.1 F.2.1 dX19_written_5 rfl hl (by decide) rfl (fun ls hl => ?_)
  refine lv_aload_n F.1 F.2.1 dX19_written_6 rfl (lv_at hl 1 rfl) ?_
  refine gf19_99 F hx0 hr dX19_written_7 ?_
  refine lv_sipush (v := (512 : Int32)) F.1 F.2.1 dX19_written_10 (by decide) ?_
  refine lv_iload_n F.1 F.2.1 dX19_written_13 rfl (lv_at hl 2 rfl) ?_
  refine lv_imul F.1 F.2.1 dX19_written_14 ?_
  refine lv_iload_n F.1 F.2.1 dX19_written_15 rfl (lv_at hl 0 rfl) ?_
  refine lv_iconst (v := (3 : Int32)) F.1 F.2.1 dX19_written_16 (by decide) ?_
  refine lv_ishr F.1 F.2.1 dX19_written_17 ?_
  refine lv_iadd F.1 F.2.1 dX19_written_18 ?_
  replace h := zk_some h
  obtain ⟨c2, h⟩ := h
  refine zr_lald (k := 181) (by decide) rfl (by decide) F (zal_a F hx0 (j := 12) rfl) hr dX19_written_19 c2 ?_
  refine lv_bipush (v := (8 : Int32)) F.1 F.2.1 dX19_written_20 (by decide) ?_
  refine lv_iload_n F.1 F.2.1 dX19_written_22 rfl (lv_at hl 0 rfl) ?_
  refine lv_bipush (v := (7 : Int32)) F.1 F.2.1 dX19_written_23 (by decide) ?_
  refine lv_iand F.1 F.2.1 dX19_written_25 ?_
  refine lv_imul F.1 F.2.1 dX19_written_26 ?_
  refine lv_lshr F.1 F.2.1 dX19_written_27 rfl ?_
  refine lv_l2i F.1 F.2.1 dX19_written_28 rfl ?_
  refine lv_sipush (v := (255 : Int32)) F.1 F.2.1 dX19_written_29 (by decide) ?_
  refine lv_iand F.1 F.2.1 dX19_written_32 ?_
  obtain ⟨rfl, rfl⟩ := zret h
  exact E _ _ _ _ dX19_written_33 trivial hr
end SX19_written
set_option maxRecDepth 100000 in
theorem okX19_written (l : Launch) (D : va_G) (cy : Nat → ClassId) (B : Nat → Nat → Nat) (ids : List (Nat × Nat)) (hst : zSt B ids) (N : Nat) (x0 : Nat) (hx0 : (19, x0) ∈ ids) (x1 : Int32) (x2 : Int32) {z : St} {r : Int32} {z' : St} (hW : zWf ids z) (h : fX19_written N x0 x1 x2 z = some (r, z')) : zM l yX19_written (zws yX19_written cX19_written 4 (some .int)) rmX19_written D cy B ids [.ref (B 19 x0), .int x1, .int x2] (some (.int r)) True z z' :=
  zM_of hst hW (by decide +kernel) (Nat.le_of_ble_eq_true rfl) (fun p e s m args below meth c A ls F hA hret hlocks hr hl => bX19_written_0 hst F hA (zEnd_i F hret hlocks) x0 x1 x2 hx0 hr hl h)
abbrev rmX19_thrown : Room := { frames := 0, cells := 0, slots := 0, locals := 0 }
theorem hdX19_thrown : yX19_thrown.cls ≠ "java/lang/invoke/MethodHandle" ∧ yX19_thrown.cls ≠ "java/lang/invoke/VarHandle" ∧ (parseMethodDescriptor yX19_thrown.desc).map (fun d => d.parameters.length) = some 0 := by decide +kernel
section SX19_thrown
variable {p : Program} {l : Launch} {e : Env} {s : State} {m : MethodId} {args : Array Value} {below : List Frame} {meth : Method} {c : Code} {Q : State → Prop} {D : va_G} {cy : Nat → ClassId} {B : Nat → Nat → Nat} {ids : List (Nat × Nat)} {A : Nat → Prop}
def fX19_thrown (N : Nat)  (x0 : Nat) (z : St) : Option (Int32 × St) := some ((zgI z 19 25 x0), z)
set_option maxHeartbeats 4000000 in
set_option maxRecDepth 100000 in
theorem bX19_thrown_0 (hst : zSt B ids) (F : zFx p m c cX19_thrown 1 s args RX19 D cy B ids A) (hA : ∀ q : Nat, s.heap.size ≤ q → A q) {r : Int32} {z' : St} (E : zEnd p l e rmX19_thrown s m args below meth c cX19_thrown D cy B ids A Q (some (.int r)) z' .ireturn True) {N : Nat}  (x0 : Nat) (hx0 : (19, x0) ∈ ids) {z : St} {H : Heap} {locs : List Loc} {ls : Array Slot} (hr : zRep D cy B ids A s.heap z H locs) (hl : lv_has ls 1 [(0, .ref (B 19 x0))]) (h : fX19_thrown N x0 z = some (r, z')) : W p l e rmX19_thrown s m args below meth c H locs 0 0 Q (F0 m 0 ls []) := by
  unfold fX19_thrown at h
  refine lv_aload_n F.1 F.2.1 dX19_thrown_0 rfl (lv_at hl 0 rfl) ?_
  refine gf19_140 F hx0 hr dX19_thrown_1 ?_
  obtain ⟨rfl, rfl⟩ := zret h
  exact E _ _ _ _ dX19_thrown_4 trivial hr
end SX19_thrown
set_option maxRecDepth 100000 in
theorem okX19_thrown (l : Launch) (D : va_G) (cy : Nat → ClassId) (B : Nat → Nat → Nat) (ids : List (Nat × Nat)) (hst : zSt B ids) (N : Nat) (x0 : Nat) (hx0 : (19, x0) ∈ ids) {z : St} {r : Int32} {z' : St} (hW : zWf ids z) (h : fX19_thrown N x0 z = some (r, z')) : zM l yX19_thrown (zws yX19_thrown cX19_thrown 1 (some .int)) rmX19_thrown D cy B ids [.ref (B 19 x0)] (some (.int r)) True z z' :=
  zM_of hst hW (by decide +kernel) (Nat.le_of_ble_eq_true rfl) (fun p e s m args below meth c A ls F hA hret hlocks hr hl => bX19_thrown_0 hst F hA (zEnd_i F hret hlocks) x0 hx0 hr hl h)
abbrev rmX19_stir : Room := { frames := 0, cells := 0, slots := 0, locals := 0 }
theorem hdX19_stir : yX19_stir.cls ≠ "java/lang/invoke/MethodHandle" ∧ yX19_stir.cls ≠ "java/lang/invoke/VarHandle" ∧ (parseMethodDescriptor yX19_stir.desc).map (fun d => d.parameters.length) = some 0 := by decide +kernel
section SX19_stir
variable {p : Program} {l : Launch} {e : Env} {s : State} {m : MethodId} {args : Array Value} {below : List Frame} {meth : Method} {c : Code} {Q : State → Prop} {D : va_G} {cy : Nat → ClassId} {B : Nat → Nat → Nat} {ids : List (Nat × Nat)} {A : Nat → Prop}
def fX19_stir (N : Nat)  (x0 : Nat) (z : St) : Option (Int32 × St) := zl (zsI z 19 27 x0 (zgI z 19 24 x0)) fun z1 => some (0, z1)
set_option maxHeartbeats 4000000 in
set_option maxRecDepth 100000 in
theorem bX19_stir_0 (hst : zSt B ids) (F : zFx p m c cX19_stir 1 s args RX19 D cy B ids A) (hA : ∀ q : Nat, s.heap.size ≤ q → A q) {r : Int32} {z' : St} (E : zEnd p l e rmX19_stir s m args below meth c cX19_stir D cy B ids A Q none z' .return_ True) {N : Nat}  (x0 : Nat) (hx0 : (19, x0) ∈ ids) {z : St} {H : Heap} {locs : List Loc} {ls : Array Slot} (hr : zRep D cy B ids A s.heap z H locs) (hl : lv_has ls 1 [(0, .ref (B 19 x0))]) (h : fX19_stir N x0 z = some (r, z')) : W p l e rmX19_stir s m args below meth c H locs 0 0 Q (F0 m 0 ls []) := by
  unfold fX19_stir at h
  refine lv_aload_n F.1 F.2.1 dX19_stir_0 rfl (lv_at hl 0 rfl) ?_
  refine lv_aload_n F.1 F.2.1 dX19_stir_1 rfl (lv_at hl 0 rfl) ?_
  refine gf19_143 F hx0 hr dX19_stir_2 ?_
  refine pf19_146 F hx0 hr dX19_stir_5 (zgI z 19 24 x0) (fun H locs z1 ez1 hr => ?_)
  replace h := zl_sub ez1 h
  clear ez1
  obtain ⟨rfl, rfl⟩ := zret h
  exact E _ _ _ _ dX19_stir_8 trivial hr
end SX19_stir
set_option maxRecDepth 100000 in
theorem okX19_stir (l : Launch) (D : va_G) (cy : Nat → ClassId) (B : Nat → Nat → Nat) (ids : List (Nat × Nat)) (hst : zSt B ids) (N : Nat) (x0 : Nat) (hx0 : (19, x0) ∈ ids) {z : St} {r : Int32} {z' : St} (hW : zWf ids z) (h : fX19_stir N x0 z = some (r, z')) : zM l yX19_stir (zws yX19_stir cX19_stir 1 none) rmX19_stir D cy B ids [.ref (B 19 x0)] none True z z' :=
  zM_of hst hW (by decide +kernel) (Nat.le_of_ble_eq_true rfl) (fun p e s m args below meth c A ls F hA hret hlocks hr hl => bX19_stir_0 hst F hA (zEnd_v F hret hlocks) x0 hx0 hr hl h)
abbrev rmX19_frame : Room := { frames := 2, cells := 0, slots := 0, locals := 45 }
theorem hdX19_frame : yX19_frame.cls ≠ "java/lang/invoke/MethodHandle" ∧ yX19_frame.cls ≠ "java/lang/invoke/VarHandle" ∧ (parseMethodDescriptor yX19_frame.desc).map (fun d => d.parameters.length) = some 6 := by decide +kernel
theorem hroX19_frame_X19_copyOf : rmX19_copyOf.frames + 1 ≤ rmX19_frame.frames ∧ 8 + (4 + 11) + rmX19_copyOf.locals ≤ rmX19_frame.locals := by decide
section SX19_frame
variable {p : Program} {l : Launch} {e : Env} {s : State} {m : MethodId} {args : Array Value} {below : List Frame} {meth : Method} {c : Code} {Q : State → Prop} {D : va_G} {cy : Nat → ClassId} {B : Nat → Nat → Nat} {ids : List (Nat × Nat)} {A : Nat → Prop}
def fX19_frame_91 (N : Nat)  (x0 : Nat) (x6 : Int32) (x7 : Int32) (s0 : Nat) (s1 : Int32) (s2 : Int32) (z : St) : Option (Int32 × St) := zk s1 3584 <| zl (zsA z 188 s0 (Int32.toNatClampNeg s1) s2) fun z2 => zk (x7 + (6 : Int32)) 3584 <| zl (zsA z2 188 x0 (Int32.toNatClampNeg (x7 + (6 : Int32))) x6) fun z4 => zl (zsI z4 19 23 x0 ((zgI z4 19 23 x0) + (1 : Int32))) fun z5 => some (0, z5)
set_option maxHeartbeats 4000000 in
set_option maxRecDepth 100000 in
theorem bX19_frame_91 (hst : zSt B ids) (F : zFx p m c cX19_frame 8 s args RX19 D cy B ids A) (hA : ∀ q : Nat, s.heap.size ≤ q → A q) {r : Int32} {z' : St} (E : zEnd p l e rmX19_frame s m args below meth c cX19_frame D cy B ids A Q none z' .return_ True) {N : Nat}  (x0 : Nat) (x6 : Int32) (x7 : Int32) (s0 : Nat) (s1 : Int32) (s2 : Int32) (hx0 : (19, x0) ∈ ids) (hs0 : (188, s0) ∈ ids) {z : St} {H : Heap} {locs : List Loc} {ls : Array Slot} (hr : zRep D cy B ids A s.heap z H locs) (hl : lv_has ls 8 [(0, .ref (B 19 x0)), (6, .int x6), (7, .int x7)]) (h : fX19_frame_91 N x0 x6 x7 s0 s1 s2 z = some (r, z')) : W p l e rmX19_frame s m args below meth c H locs 0 0 Q (F0 m 91 ls [.int s2, .int s1, .ref (B 188 s0)]) := by
  unfold fX19_frame_91 at h
  replace h := zk_some h
  obtain ⟨c1, h⟩ := h
  refine zr_iast (k := 188) (by decide) rfl (by decide) F hs0 hr dX19_frame_91 c1 (fun H locs z2 ez2 hr => ?_)
  replace h := zl_sub ez2 h
  clear ez2
  refine lv_aload_n F.1 F.2.1 dX19_frame_92 rfl (lv_at hl 0 rfl) ?_
  refine gf19_124 F hx0 hr dX19_frame_93 ?_
  refine lv_iload F.1 F.2.1 dX19_frame_96 (lv_at hl 2 rfl) ?_
  refine lv_bipush (v := (6 : Int32)) F.1 F.2.1 dX19_frame_98 (by decide) ?_
  refine lv_iadd F.1 F.2.1 dX19_frame_100 ?_
  refine lv_iload F.1 F.2.1 dX19_frame_101 (lv_at hl 1 rfl) ?_
  replace h := zk_some h
  obtain ⟨c3, h⟩ := h
  refine zr_iast (k := 188) (by decide) rfl (by decide) F (zal_a F hx0 (j := 22) rfl) hr dX19_frame_103 c3 (fun H locs z4 ez4 hr => ?_)
  replace h := zl_sub ez4 h
  clear ez4
  refine lv_aload_n F.1 F.2.1 dX19_frame_104 rfl (lv_at hl 0 rfl) ?_
  refine lv_dup F.1 F.2.1 dX19_frame_105 rfl ?_
  refine gf19_171 F hx0 hr dX19_frame_106 ?_
  refine lv_iconst (v := (1 : Int32)) F.1 F.2.1 dX19_frame_109 (by decide) ?_
  refine lv_iadd F.1 F.2.1 dX19_frame_110 ?_
  refine pf19_171 F hx0 hr dX19_frame_111 ((zgI z4 19 23 x0) + (1 : Int32)) (fun H locs z5 ez5 hr => ?_)
  replace h := zl_sub ez5 h
  clear ez5
  obtain ⟨rfl, rfl⟩ := zret h
  exact E _ _ _ _ dX19_frame_114 trivial hr
def fX19_frame (N : Nat)  (x0 : Nat) (x1 : Nat) (x2 : Int32) (x3 : Int32) (x4 : Int32) (x5 : Int32) (x6 : Int32) (z : St) : Option (Int32 × St) := zl ((7 : Int32) * (zgI z 19 23 x0)) fun v1 => zl (zgR z 18 2 x1) fun y2 => zd y2 fun a3 => zk v1 3584 <| zl (zsA z 188 x0 (Int32.toNatClampNeg v1) (zgI z 16 0 a3)) fun z5 => zk (v1 + (1 : Int32)) 3584 <| zl (zsA z5 188 x0 (Int32.toNatClampNeg (v1 + (1 : Int32))) (zgI z5 18 3 x1)) fun z7 => zk (v1 + (2 : Int32)) 3584 <| zl (zsA z7 188 x0 (Int32.toNatClampNeg (v1 + (2 : Int32))) x2) fun z9 => zk (v1 + (3 : Int32)) 3584 <| zl (zsA z9 188 x0 (Int32.toNatClampNeg (v1 + (3 : Int32))) x3) fun z11 => zk (v1 + (4 : Int32)) 3584 <| zl (zsA z11 188 x0 (Int32.toNatClampNeg (v1 + (4 : Int32))) x4) fun z13 => if ¬ x5 = (-1 : Int32) then (zc (fX19_copyOf N x0 x5 z13) fun r15 z16 => fX19_frame_91 N x0 x6 v1 x0 (v1 + (5 : Int32)) r15 z16) else (fX19_frame_91 N x0 x6 v1 x0 (v1 + (5 : Int32)) (-1 : Int32) z13)
set_option maxHeartbeats 4000000 in
set_option maxRecDepth 100000 in
theorem bX19_frame_0 (hst : zSt B ids) (F : zFx p m c cX19_frame 8 s args RX19 D cy B ids A) (hA : ∀ q : Nat, s.heap.size ≤ q → A q) {r : Int32} {z' : St} (E : zEnd p l e rmX19_frame s m args below meth c cX19_frame D cy B ids A Q none z' .return_ True) {N : Nat}  (x0 : Nat) (x1 : Nat) (x2 : Int32) (x3 : Int32) (x4 : Int32) (x5 : Int32) (x6 : Int32) (hx0 : (19, x0) ∈ ids) (hx1 : (18, x1) ∈ ids) {z : St} {H : Heap} {locs : List Loc} {ls : Array Slot} (hr : zRep D cy B ids A s.heap z H locs) (hl : lv_has ls 8 [(0, .ref (B 19 x0)), (1, .ref (B 18 x1)), (2, .int x2), (3, .int x3), (4, .int x4), (5, .int x5), (6, .int x6)]) (h : fX19_frame N x0 x1 x2 x3 x4 x5 x6 z = some (r, z')) : W p l e rmX19_frame s m args below meth c H locs 0 0 Q (F0 m 0 ls []) := by
  unfold fX19_frame at h
  refine lv_bipush (v := (7 : Int32)) F.1 F.2.1 dX19_frame_0 (by decide) ?_
  refine lv_aload_n F.1 F.2.1 dX19_frame_2 rfl (lv_at hl 0 rfl) ?_
  refine gf19_171 F hx0 hr dX19_frame_3 ?_
  refine lv_imul F.1 F.2.1 dX19_frame_6 ?_
  refine lv_topi (fun v1 ev1 => ?_)
  replace h := zl_sub ev1 h
  refine lv_istore (lv' := [(7, .int v1), (0, .ref (B 19 x0)), (1, .ref (B 18 x1)), (2, .int x2), (3, .int x3), (4, .int x4), (5, .int x5), (6, .int x6)]) F.1 F.2.1 dX19_frame_7 hl (by decide) rfl (fun ls hl => ?_)
  refine lv_aload_n F.1 F.2.1 dX19_frame_9 rfl (lv_at hl 1 rfl) ?_
  refine gf19_124 F hx0 hr dX19_frame_10 ?_
  refine lv_iload F.1 F.2.1 dX19_frame_13 (lv_at hl 0 rfl) ?_
  refine lv_aload_n F.1 F.2.1 dX19_frame_15 rfl (lv_at hl 2 rfl) ?_
  refine gf19_149 F hx1 hr dX19_frame_16 (fun y2 ey2 => ?_)
  replace h := zl_sub ey2 h
  have hy2 := zal_g hr hx1 (j := 2) rfl ey2
  clear ey2
  replace h := zd_some h
  obtain ⟨a3, rfl, h⟩ := h
  refine gf19_181 F (hy2 _ rfl) hr dX19_frame_19 ?_
  replace h := zk_some h
  obtain ⟨c4, h⟩ := h
  refine zr_iast (k := 188) (by decide) rfl (by decide) F (zal_a F hx0 (j := 22) rfl) hr dX19_frame_22 c4 (fun H locs z5 ez5 hr => ?_)
  replace h := zl_sub ez5 h
  clear ez5
  refine lv_aload_n F.1 F.2.1 dX19_frame_23 rfl (lv_at hl 1 rfl) ?_
  refine gf19_124 F hx0 hr dX19_frame_24 ?_
  refine lv_iload F.1 F.2.1 dX19_frame_27 (lv_at hl 0 rfl) ?_
  refine lv_iconst (v := (1 : Int32)) F.1 F.2.1 dX19_frame_29 (by decide) ?_
  refine lv_iadd F.1 F.2.1 dX19_frame_30 ?_
  refine lv_aload_n F.1 F.2.1 dX19_frame_31 rfl (lv_at hl 2 rfl) ?_
  refine gf19_184 F hx1 hr dX19_frame_32 ?_
  replace h := zk_some h
  obtain ⟨c6, h⟩ := h
  refine zr_iast (k := 188) (by decide) rfl (by decide) F (zal_a F hx0 (j := 22) rfl) hr dX19_frame_35 c6 (fun H locs z7 ez7 hr => ?_)
  replace h := zl_sub ez7 h
  clear ez7
  refine lv_aload_n F.1 F.2.1 dX19_frame_36 rfl (lv_at hl 1 rfl) ?_
  refine gf19_124 F hx0 hr dX19_frame_37 ?_
  refine lv_iload F.1 F.2.1 dX19_frame_40 (lv_at hl 0 rfl) ?_
  refine lv_iconst (v := (2 : Int32)) F.1 F.2.1 dX19_frame_42 (by decide) ?_
  refine lv_iadd F.1 F.2.1 dX19_frame_43 ?_
  refine lv_iload_n F.1 F.2.1 dX19_frame_44 rfl (lv_at hl 3 rfl) ?_
  replace h := zk_some h
  obtain ⟨c8, h⟩ := h
  refine zr_iast (k := 188) (by decide) rfl (by decide) F (zal_a F hx0 (j := 22) rfl) hr dX19_frame_45 c8 (fun H locs z9 ez9 hr => ?_)
  replace h := zl_sub ez9 h
  clear ez9
  refine lv_aload_n F.1 F.2.1 dX19_frame_46 rfl (lv_at hl 1 rfl) ?_
  refine gf19_124 F hx0 hr dX19_frame_47 ?_
  refine lv_iload F.1 F.2.1 dX19_frame_50 (lv_at hl 0 rfl) ?_
  refine lv_iconst (v := (3 : Int32)) F.1 F.2.1 dX19_frame_52 (by decide) ?_
  refine lv_iadd F.1 F.2.1 dX19_frame_53 ?_
  refine lv_iload_n F.1 F.2.1 dX19_frame_54 rfl (lv_at hl 4 rfl) ?_
  replace h := zk_some h
  obtain ⟨c10, h⟩ := h
  refine zr_iast (k := 188) (by decide) rfl (by decide) F (zal_a F hx0 (j := 22) rfl) hr dX19_frame_55 c10 (fun H locs z11 ez11 hr => ?_)
  replace h := zl_sub ez11 h
  clear ez11
  refine lv_aload_n F.1 F.2.1 dX19_frame_56 rfl (lv_at hl 1 rfl) ?_
  refine gf19_124 F hx0 hr dX19_frame_57 ?_
  refine lv_iload F.1 F.2.1 dX19_frame_60 (lv_at hl 0 rfl) ?_
  refine lv_iconst (v := (4 : Int32)) F.1 F.2.1 dX19_frame_62 (by decide) ?_
  refine lv_iadd F.1 F.2.1 dX19_frame_63 ?_
  refine lv_iload F.1 F.2.1 dX19_frame_64 (lv_at hl 5 rfl) ?_
  replace h := zk_some h
  obtain ⟨c12, h⟩ := h
  refine zr_iast (k := 188) (by decide) rfl (by decide) F (zal_a F hx0 (j := 22) rfl) hr dX19_frame_66 c12 (fun H locs z13 ez13 hr => ?_)
  replace h := zl_sub ez13 h
  clear ez13
  refine lv_aload_n F.1 F.2.1 dX19_frame_67 rfl (lv_at hl 1 rfl) ?_
  refine gf19_124 F hx0 hr dX19_frame_68 ?_
  refine lv_iload F.1 F.2.1 dX19_frame_71 (lv_at hl 0 rfl) ?_
  refine lv_iconst (v := (5 : Int32)) F.1 F.2.1 dX19_frame_73 (by decide) ?_
  refine lv_iadd F.1 F.2.1 dX19_frame_74 ?_
  refine lv_iload F.1 F.2.1 dX19_frame_75 (lv_at hl 6 rfl) ?_
  refine lv_iconst (v := (-1 : Int32)) F.1 F.2.1 dX19_frame_77 (by decide) ?_
  refine lv_icmp_ne (tgt := 85) F.1 F.2.1 dX19_frame_78 (by decide) (fun c14 => ?_) (fun c14 => ?_)
  · replace h := zi_t c14 h
    refine lv_aload_n F.1 F.2.1 dX19_frame_85 rfl (lv_at hl 1 rfl) ?_
    refine lv_iload F.1 F.2.1 dX19_frame_86 (lv_at hl 6 rfl) ?_
    replace h := zc_some h
    obtain ⟨r15, z16, hc17, h⟩ := h
    refine zr_calli (zrun_V (As := [.int x5]) (rest := [.int (v1 + (5 : Int32)), .ref (B 188 x0)]) zq_2619 zq_2621 zs_X19_copyOf zq_2622 zq_4 hdX19_copyOf (by decide) (T := TX19) (N := 32) rfl (okX19_copyOf l D cy B ids hst N x0 hx0 x5  hr.2.2 hc17) F hr hx0 hl.1 rfl (Nat.le_of_ble_eq_true rfl) dX19_frame_88 rfl rfl hroX19_frame_X19_copyOf ⟨Nat.zero_le _, Nat.zero_le _⟩) F hA hr (fun H locs hw18 hr => ?_)
    clear hc17
    exact bX19_frame_91 hst F hA E  x0 x6 v1 x0 (v1 + (5 : Int32)) r15 hx0 (zal_a F hx0 (j := 22) rfl) hr (lv_sub hl [1, 7, 0] rfl) h
  · replace h := zi_f (fun q => q c14) h
    refine lv_iconst (v := (-1 : Int32)) F.1 F.2.1 dX19_frame_81 (by decide) ?_
    refine lv_goto (tgt := 91) F.1 F.2.1 dX19_frame_82 (by decide) ?_
    exact bX19_frame_91 hst F hA E  x0 x6 v1 x0 (v1 + (5 : Int32)) (-1 : Int32) hx0 (zal_a F hx0 (j := 22) rfl) hr (lv_sub hl [1, 7, 0] rfl) h
end SX19_frame
set_option maxRecDepth 100000 in
theorem okX19_frame (l : Launch) (D : va_G) (cy : Nat → ClassId) (B : Nat → Nat → Nat) (ids : List (Nat × Nat)) (hst : zSt B ids) (N : Nat) (x0 : Nat) (hx0 : (19, x0) ∈ ids) (x1 : Nat) (hx1 : (18, x1) ∈ ids) (x2 : Int32) (x3 : Int32) (x4 : Int32) (x5 : Int32) (x6 : Int32) {z : St} {r : Int32} {z' : St} (hW : zWf ids z) (h : fX19_frame N x0 x1 x2 x3 x4 x5 x6 z = some (r, z')) : zM l yX19_frame (zws yX19_frame cX19_frame 8 none) rmX19_frame D cy B ids [.ref (B 19 x0), .ref (B 18 x1), .int x2, .int x3, .int x4, .int x5, .int x6] none True z z' :=
  zM_of hst hW (by decide +kernel) (Nat.le_of_ble_eq_true rfl) (fun p e s m args below meth c A ls F hA hret hlocks hr hl => bX19_frame_0 hst F hA (zEnd_v F hret hlocks) x0 x1 x2 x3 x4 x5 x6 hx0 hx1 hr hl h)
abbrev rmX19_put : Room := { frames := 3, cells := 0, slots := 0, locals := 72 }
theorem hdX19_put : yX19_put.cls ≠ "java/lang/invoke/MethodHandle" ∧ yX19_put.cls ≠ "java/lang/invoke/VarHandle" ∧ (parseMethodDescriptor yX19_put.desc).map (fun d => d.parameters.length) = some 5 := by decide +kernel
theorem hroX19_put_X19_frame : rmX19_frame.frames + 1 ≤ rmX19_put.frames ∧ 8 + (8 + 11) + rmX19_frame.locals ≤ rmX19_put.locals := by decide
theorem hroX19_put_X19_stir : rmX19_stir.frames + 1 ≤ rmX19_put.frames ∧ 8 + (1 + 11) + rmX19_stir.locals ≤ rmX19_put.locals := by decide
section SX19_put
variable {p : Program} {l : Launch} {e : Env} {s : State} {m : MethodId} {args : Array Value} {below : List Frame} {meth : Method} {c : Code} {Q : State → Prop} {D : va_G} {cy : Nat → ClassId} {B : Nat → Nat → Nat} {ids : List (Nat × Nat)} {A : Nat → Prop}
def fX19_put_205 (N : Nat)  (x0 : Nat) (x1 : Nat) (x2 : Int32) (x3 : Int32) (x4 : Int32) (x5 : Int32) (x6 : Nat) (x7 : Int32) (z : St) : Option (Int32 × St) := if ¬ x7 = (3 : Int32) then (some (0, z)) else (zc (fX19_frame N x0 x1 x2 x3 x4 x5 ((zgI z 19 24 x0) + ((4 : Int32) * (zgI z 16 2 x6))) z) fun _ z3 => some (0, z3))
set_option maxHeartbeats 4000000 in
set_option maxRecDepth 100000 in
theorem bX19_put_205 (hst : zSt B ids) (F : zFx p m c cX19_put 9 s args RX19 D cy B ids A) (hA : ∀ q : Nat, s.heap.size ≤ q → A q) {r : Int32} {z' : St} (E : zEnd p l e rmX19_put s m args below meth c cX19_put D cy B ids A Q none z' .return_ True) {N : Nat}  (x0 : Nat) (x1 : Nat) (x2 : Int32) (x3 : Int32) (x4 : Int32) (x5 : Int32) (x6 : Nat) (x7 : Int32) (hx0 : (19, x0) ∈ ids) (hx1 : (18, x1) ∈ ids) (hx6 : (16, x6) ∈ ids) {z : St} {H : Heap} {locs : List Loc} {ls : Array Slot} (hr : zRep D cy B ids A s.heap z H locs) (hl : lv_has ls 9 [(0, .ref (B 19 x0)), (1, .ref (B 18 x1)), (2, .int x2), (3, .int x3), (4, .int x4), (5, .int x5), (6, .ref (B 16 x6)), (7, .int x7)]) (h : fX19_put_205 N x0 x1 x2 x3 x4 x5 x6 x7 z = some (r, z')) : W p l e rmX19_put s m args below meth c H locs 0 0 Q (F0 m 205 ls []) := by
  unfold fX19_put_205 at h
  refine lv_iload F.1 F.2.1 dX19_put_205 (lv_at hl 7 rfl) ?_
  refine lv_iconst (v := (3 : Int32)) F.1 F.2.1 dX19_put_207 (by decide) ?_
  refine lv_icmp_ne (tgt := 234) F.1 F.2.1 dX19_put_208 (by decide) (fun c1 => ?_) (fun c1 => ?_)
  · replace h := zi_t c1 h
    obtain ⟨rfl, rfl⟩ := zret h
    exact E _ _ _ _ dX19_put_234 trivial hr
  · replace h := zi_f (fun q => q c1) h
    refine lv_aload_n F.1 F.2.1 dX19_put_211 rfl (lv_at hl 0 rfl) ?_
    refine lv_aload_n F.1 F.2.1 dX19_put_212 rfl (lv_at hl 1 rfl) ?_
    refine lv_iload_n F.1 F.2.1 dX19_put_213 rfl (lv_at hl 2 rfl) ?_
    refine lv_iload_n F.1 F.2.1 dX19_put_214 rfl (lv_at hl 3 rfl) ?_
    refine lv_iload F.1 F.2.1 dX19_put_215 (lv_at hl 4 rfl) ?_
    refine lv_iload F.1 F.2.1 dX19_put_217 (lv_at hl 5 rfl) ?_
    refine lv_aload_n F.1 F.2.1 dX19_put_219 rfl (lv_at hl 0 rfl) ?_
    refine gf19_143 F hx0 hr dX19_put_220 ?_
    refine lv_iconst (v := (4 : Int32)) F.1 F.2.1 dX19_put_223 (by decide) ?_
    refine lv_aload F.1 F.2.1 dX19_put_224 (lv_at hl 6 rfl) ?_
    refine gf19_174 F hx6 hr dX19_put_226 ?_
    refine lv_imul F.1 F.2.1 dX19_put_229 ?_
    refine lv_iadd F.1 F.2.1 dX19_put_230 ?_
    replace h := zc_some h
    obtain ⟨r2, z3, hc4, h⟩ := h
    refine zr_callv (zrun_V (As := [.ref (B 18 x1), .int x2, .int x3, .int x4, .int x5, .int ((zgI z 19 24 x0) + ((4 : Int32) * (zgI z 16 2 x6)))]) (rest := []) zq_2615 zq_2617 zs_X19_frame zq_2618 zq_4 hdX19_frame (by decide) (T := TX19) (N := 32) rfl (okX19_frame l D cy B ids hst N x0 hx0 x1 hx1 x2  x3  x4  x5  ((zgI z 19 24 x0) + ((4 : Int32) * (zgI z 16 2 x6)))  hr.2.2 hc4) F hr hx0 hl.1 rfl (by decide) dX19_put_231 rfl rfl hroX19_put_X19_frame ⟨Nat.zero_le _, Nat.zero_le _⟩) F hA hr (fun H locs hw5 hr => ?_)
    clear hc4
    obtain ⟨rfl, rfl⟩ := zret h
    exact E _ _ _ _ dX19_put_234 trivial hr
def fX19_put_176 (N : Nat)  (x0 : Nat) (x1 : Nat) (x2 : Int32) (x3 : Int32) (x4 : Int32) (x5 : Int32) (x6 : Nat) (x7 : Int32) (z : St) : Option (Int32 × St) := if ¬ x7 = (2 : Int32) then (fX19_put_205 N x0 x1 x2 x3 x4 x5 x6 x7 z) else (zc (fX19_frame N x0 x1 x2 x3 x4 x5 ((zgI z 19 24 x0) + ((3 : Int32) * (zgI z 16 2 x6))) z) fun _ z3 => fX19_put_205 N x0 x1 x2 x3 x4 x5 x6 x7 z3)
set_option maxHeartbeats 4000000 in
set_option maxRecDepth 100000 in
theorem bX19_put_176 (hst : zSt B ids) (F : zFx p m c cX19_put 9 s args RX19 D cy B ids A) (hA : ∀ q : Nat, s.heap.size ≤ q → A q) {r : Int32} {z' : St} (E : zEnd p l e rmX19_put s m args below meth c cX19_put D cy B ids A Q none z' .return_ True) {N : Nat}  (x0 : Nat) (x1 : Nat) (x2 : Int32) (x3 : Int32) (x4 : Int32) (x5 : Int32) (x6 : Nat) (x7 : Int32) (hx0 : (19, x0) ∈ ids) (hx1 : (18, x1) ∈ ids) (hx6 : (16, x6) ∈ ids) {z : St} {H : Heap} {locs : List Loc} {ls : Array Slot} (hr : zRep D cy B ids A s.heap z H locs) (hl : lv_has ls 9 [(0, .ref (B 19 x0)), (1, .ref (B 18 x1)), (2, .int x2), (3, .int x3), (4, .int x4), (5, .int x5), (6, .ref (B 16 x6)), (7, .int x7)]) (h : fX19_put_176 N x0 x1 x2 x3 x4 x5 x6 x7 z = some (r, z')) : W p l e rmX19_put s m args below meth c H locs 0 0 Q (F0 m 176 ls []) := by
  unfold fX19_put_176 at h
  refine lv_iload F.1 F.2.1 dX19_put_176 (lv_at hl 7 rfl) ?_
  refine lv_iconst (v := (2 : Int32)) F.1 F.2.1 dX19_put_178 (by decide) ?_
  refine lv_icmp_ne (tgt := 205) F.1 F.2.1 dX19_put_179 (by decide) (fun c1 => ?_) (fun c1 => ?_)
  · replace h := zi_t c1 h
    exact bX19_put_205 hst F hA E  x0 x1 x2 x3 x4 x5 x6 x7 hx0 hx1 hx6 hr (lv_sub hl [0, 1, 2, 3, 4, 5, 6, 7] rfl) h
  · replace h := zi_f (fun q => q c1) h
    refine lv_aload_n F.1 F.2.1 dX19_put_182 rfl (lv_at hl 0 rfl) ?_
    refine lv_aload_n F.1 F.2.1 dX19_put_183 rfl (lv_at hl 1 rfl) ?_
    refine lv_iload_n F.1 F.2.1 dX19_put_184 rfl (lv_at hl 2 rfl) ?_
    refine lv_iload_n F.1 F.2.1 dX19_put_185 rfl (lv_at hl 3 rfl) ?_
    refine lv_iload F.1 F.2.1 dX19_put_186 (lv_at hl 4 rfl) ?_
    refine lv_iload F.1 F.2.1 dX19_put_188 (lv_at hl 5 rfl) ?_
    refine lv_aload_n F.1 F.2.1 dX19_put_190 rfl (lv_at hl 0 rfl) ?_
    refine gf19_143 F hx0 hr dX19_put_191 ?_
    refine lv_iconst (v := (3 : Int32)) F.1 F.2.1 dX19_put_194 (by decide) ?_
    refine lv_aload F.1 F.2.1 dX19_put_195 (lv_at hl 6 rfl) ?_
    refine gf19_174 F hx6 hr dX19_put_197 ?_
    refine lv_imul F.1 F.2.1 dX19_put_200 ?_
    refine lv_iadd F.1 F.2.1 dX19_put_201 ?_
    replace h := zc_some h
    obtain ⟨r2, z3, hc4, h⟩ := h
    refine zr_callv (zrun_V (As := [.ref (B 18 x1), .int x2, .int x3, .int x4, .int x5, .int ((zgI z 19 24 x0) + ((3 : Int32) * (zgI z 16 2 x6)))]) (rest := []) zq_2615 zq_2617 zs_X19_frame zq_2618 zq_4 hdX19_frame (by decide) (T := TX19) (N := 32) rfl (okX19_frame l D cy B ids hst N x0 hx0 x1 hx1 x2  x3  x4  x5  ((zgI z 19 24 x0) + ((3 : Int32) * (zgI z 16 2 x6)))  hr.2.2 hc4) F hr hx0 hl.1 rfl (by decide) dX19_put_202 rfl rfl hroX19_put_X19_frame ⟨Nat.zero_le _, Nat.zero_le _⟩) F hA hr (fun H locs hw5 hr => ?_)
    clear hc4
    exact bX19_put_205 hst F hA E  x0 x1 x2 x3 x4 x5 x6 x7 hx0 hx1 hx6 hr (lv_sub hl [0, 1, 2, 3, 4, 5, 6, 7] rfl) h
def fX19_put_155 (N : Nat)  (x0 : Nat) (x1 : Nat) (x2 : Int32) (x3 : Int32) (x4 : Int32) (x5 : Int32) (x6 : Nat) (x7 : Int32) (z : St) : Option (Int32 × St) := zc (fX19_frame N x0 x1 x2 x3 x4 x5 ((zgI z 19 24 x0) + (zgI z 16 2 x6)) z) fun _ z2 => fX19_put_176 N x0 x1 x2 x3 x4 x5 x6 x7 z2
set_option maxHeartbeats 4000000 in
set_option maxRecDepth 100000 in
theorem bX19_put_155 (hst : zSt B ids) (F : zFx p m c cX19_put 9 s args RX19 D cy B ids A) (hA : ∀ q : Nat, s.heap.size ≤ q → A q) {r : Int32} {z' : St} (E : zEnd p l e rmX19_put s m args below meth c cX19_put D cy B ids A Q none z' .return_ True) {N : Nat}  (x0 : Nat) (x1 : Nat) (x2 : Int32) (x3 : Int32) (x4 : Int32) (x5 : Int32) (x6 : Nat) (x7 : Int32) (hx0 : (19, x0) ∈ ids) (hx1 : (18, x1) ∈ ids) (hx6 : (16, x6) ∈ ids) {z : St} {H : Heap} {locs : List Loc} {ls : Array Slot} (hr : zRep D cy B ids A s.heap z H locs) (hl : lv_has ls 9 [(0, .ref (B 19 x0)), (1, .ref (B 18 x1)), (2, .int x2), (3, .int x3), (4, .int x4), (5, .int x5), (6, .ref (B 16 x6)), (7, .int x7)]) (h : fX19_put_155 N x0 x1 x2 x3 x4 x5 x6 x7 z = some (r, z')) : W p l e rmX19_put s m args below meth c H locs 0 0 Q (F0 m 155 ls []) := by
  unfold fX19_put_155 at h
  refine lv_aload_n F.1 F.2.1 dX19_put_155 rfl (lv_at hl 0 rfl) ?_
  refine lv_aload_n F.1 F.2.1 dX19_put_156 rfl (lv_at hl 1 rfl) ?_
  refine lv_iload_n F.1 F.2.1 dX19_put_157 rfl (lv_at hl 2 rfl) ?_
  refine lv_iload_n F.1 F.2.1 dX19_put_158 rfl (lv_at hl 3 rfl) ?_
  refine lv_iload F.1 F.2.1 dX19_put_159 (lv_at hl 4 rfl) ?_
  refine lv_iload F.1 F.2.1 dX19_put_161 (lv_at hl 5 rfl) ?_
  refine lv_aload_n F.1 F.2.1 dX19_put_163 rfl (lv_at hl 0 rfl) ?_
  refine gf19_143 F hx0 hr dX19_put_164 ?_
  refine lv_aload F.1 F.2.1 dX19_put_167 (lv_at hl 6 rfl) ?_
  refine gf19_174 F hx6 hr dX19_put_169 ?_
  refine lv_iadd F.1 F.2.1 dX19_put_172 ?_
  replace h := zc_some h
  obtain ⟨r1, z2, hc3, h⟩ := h
  refine zr_callv (zrun_V (As := [.ref (B 18 x1), .int x2, .int x3, .int x4, .int x5, .int ((zgI z 19 24 x0) + (zgI z 16 2 x6))]) (rest := []) zq_2615 zq_2617 zs_X19_frame zq_2618 zq_4 hdX19_frame (by decide) (T := TX19) (N := 32) rfl (okX19_frame l D cy B ids hst N x0 hx0 x1 hx1 x2  x3  x4  x5  ((zgI z 19 24 x0) + (zgI z 16 2 x6))  hr.2.2 hc3) F hr hx0 hl.1 rfl (by decide) dX19_put_173 rfl rfl hroX19_put_X19_frame ⟨Nat.zero_le _, Nat.zero_le _⟩) F hA hr (fun H locs hw4 hr => ?_)
  clear hc3
  exact bX19_put_176 hst F hA E  x0 x1 x2 x3 x4 x5 x6 x7 hx0 hx1 hx6 hr (lv_sub hl [0, 1, 2, 3, 4, 5, 6, 7] rfl) h
def fX19_put_124 (N : Nat)  (x0 : Nat) (x1 : Nat) (x2 : Int32) (x3 : Int32) (x4 : Int32) (x5 : Int32) (x6 : Nat) (x7 : Int32) (s0 : Int32) (z : St) : Option (Int32 × St) := if ((zgI z 19 23 x0) + s0) ≤ (512 : Int32) then (if x7 = 0 then (fX19_put_155 N x0 x1 x2 x3 x4 x5 x6 x7 z) else (if ¬ x7 = (2 : Int32) then (fX19_put_176 N x0 x1 x2 x3 x4 x5 x6 x7 z) else (fX19_put_155 N x0 x1 x2 x3 x4 x5 x6 x7 z))) else (zc (fX19_stir N x0 z) fun _ z5 => some (0, z5))
set_option maxHeartbeats 4000000 in
set_option maxRecDepth 100000 in
theorem bX19_put_124 (hst : zSt B ids) (F : zFx p m c cX19_put 9 s args RX19 D cy B ids A) (hA : ∀ q : Nat, s.heap.size ≤ q → A q) {r : Int32} {z' : St} (E : zEnd p l e rmX19_put s m args below meth c cX19_put D cy B ids A Q none z' .return_ True) {N : Nat}  (x0 : Nat) (x1 : Nat) (x2 : Int32) (x3 : Int32) (x4 : Int32) (x5 : Int32) (x6 : Nat) (x7 : Int32) (s0 : Int32) (hx0 : (19, x0) ∈ ids) (hx1 : (18, x1) ∈ ids) (hx6 : (16, x6) ∈ ids) {z : St} {H : Heap} {locs : List Loc} {ls : Array Slot} (hr : zRep D cy B ids A s.heap z H locs) (hl : lv_has ls 9 [(0, .ref (B 19 x0)), (1, .ref (B 18 x1)), (2, .int x2), (3, .int x3), (4, .int x4), (5, .int x5), (6, .ref (B 16 x6)), (7, .int x7)]) (h : fX19_put_124 N x0 x1 x2 x3 x4 x5 x6 x7 s0 z = some (r, z')) : W p l e rmX19_put s m args below meth c H locs 0 0 Q (F0 m 124 ls [.int s0]) := by
  unfold fX19_put_124 at h
  refine lv_istore (lv' := [(8, .int s0), (0, .ref (B 19 x0)), (1, .ref (B 18 x1)), (2, .int x2), (3, .int x3), (4, .int x4), (5, .int x5), (6, .ref (B 16 x6)), (7, .int x7)]) F.1 F.2.1 dX19_put_124 hl (by decide) rfl (fun ls hl => ?_)
  refine lv_aload_n F.1 F.2.1 dX19_put_126 rfl (lv_at hl 1 rfl) ?_
  refine gf19_171 F hx0 hr dX19_put_127 ?_
  refine lv_iload F.1 F.2.1 dX19_put_130 (lv_at hl 0 rfl) ?_
  refine lv_iadd F.1 F.2.1 dX19_put_132 ?_
  refine lv_sipush (v := (512 : Int32)) F.1 F.2.1 dX19_put_133 (by decide) ?_
  refine lv_icmp_le (tgt := 144) F.1 F.2.1 dX19_put_136 (by decide) (fun c1 => ?_) (fun c1 => ?_)
  · replace h := zi_t c1 h
    refine lv_iload F.1 F.2.1 dX19_put_144 (lv_at hl 8 rfl) ?_
    refine lv_if_eq (tgt := 155) F.1 F.2.1 dX19_put_146 (by decide) (fun c2 => ?_) (fun c2 => ?_)
    · replace h := zi_t c2 h
      exact bX19_put_155 hst F hA E  x0 x1 x2 x3 x4 x5 x6 x7 hx0 hx1 hx6 hr (lv_sub hl [1, 2, 3, 4, 5, 6, 7, 8] rfl) h
    · replace h := zi_f c2 h
      refine lv_iload F.1 F.2.1 dX19_put_149 (lv_at hl 8 rfl) ?_
      refine lv_iconst (v := (2 : Int32)) F.1 F.2.1 dX19_put_151 (by decide) ?_
      refine lv_icmp_ne (tgt := 176) F.1 F.2.1 dX19_put_152 (by decide) (fun c3 => ?_) (fun c3 => ?_)
      · replace h := zi_t c3 h
        exact bX19_put_176 hst F hA E  x0 x1 x2 x3 x4 x5 x6 x7 hx0 hx1 hx6 hr (lv_sub hl [1, 2, 3, 4, 5, 6, 7, 8] rfl) h
      · replace h := zi_f (fun q => q c3) h
        exact bX19_put_155 hst F hA E  x0 x1 x2 x3 x4 x5 x6 x7 hx0 hx1 hx6 hr (lv_sub hl [1, 2, 3, 4, 5, 6, 7, 8] rfl) h
  · replace h := zi_f c1 h
    refine lv_aload_n F.1 F.2.1 dX19_put_139 rfl (lv_at hl 1 rfl) ?_
    replace h := zc_some h
    obtain ⟨r4, z5, hc6, h⟩ := h
    refine zr_callv (zrun_V (As := []) (rest := []) zq_2394 zq_2396 zs_X19_stir zq_2397 zq_4 hdX19_stir (by decide) (T := TX19) (N := 32) rfl (okX19_stir l D cy B ids hst N x0 hx0 hr.2.2 hc6) F hr hx0 hl.1 rfl (by decide) dX19_put_140 rfl rfl hroX19_put_X19_stir ⟨Nat.zero_le _, Nat.zero_le _⟩) F hA hr (fun H locs hw7 hr => ?_)
    clear hc6
    obtain ⟨rfl, rfl⟩ := zret h
    exact E _ _ _ _ dX19_put_143 trivial hr
def fX19_put_103 (N : Nat)  (x0 : Nat) (x1 : Nat) (x2 : Int32) (x3 : Int32) (x4 : Int32) (x5 : Int32) (x6 : Nat) (x7 : Int32) (z : St) : Option (Int32 × St) := if ¬ x7 = (1 : Int32) then (if ¬ x7 = (2 : Int32) then (fX19_put_124 N x0 x1 x2 x3 x4 x5 x6 x7 (1 : Int32) z) else (fX19_put_124 N x0 x1 x2 x3 x4 x5 x6 x7 (2 : Int32) z)) else (fX19_put_124 N x0 x1 x2 x3 x4 x5 x6 x7 (0 : Int32) z)
set_option maxHeartbeats 4000000 in
set_option maxRecDepth 100000 in
theorem bX19_put_103 (hst : zSt B ids) (F : zFx p m c cX19_put 9 s args RX19 D cy B ids A) (hA : ∀ q : Nat, s.heap.size ≤ q → A q) {r : Int32} {z' : St} (E : zEnd p l e rmX19_put s m args below meth c cX19_put D cy B ids A Q none z' .return_ True) {N : Nat}  (x0 : Nat) (x1 : Nat) (x2 : Int32) (x3 : Int32) (x4 : Int32) (x5 : Int32) (x6 : Nat) (x7 : Int32) (hx0 : (19, x0) ∈ ids) (hx1 : (18, x1) ∈ ids) (hx6 : (16, x6) ∈ ids) {z : St} {H : Heap} {locs : List Loc} {ls : Array Slot} (hr : zRep D cy B ids A s.heap z H locs) (hl : lv_has ls 9 [(0, .ref (B 19 x0)), (1, .ref (B 18 x1)), (2, .int x2), (3, .int x3), (4, .int x4), (5, .int x5), (6, .ref (B 16 x6)), (7, .int x7)]) (h : fX19_put_103 N x0 x1 x2 x3 x4 x5 x6 x7 z = some (r, z')) : W p l e rmX19_put s m args below meth c H locs 0 0 Q (F0 m 103 ls []) := by
  unfold fX19_put_103 at h
  refine lv_iload F.1 F.2.1 dX19_put_103 (lv_at hl 7 rfl) ?_
  refine lv_iconst (v := (1 : Int32)) F.1 F.2.1 dX19_put_105 (by decide) ?_
  refine lv_icmp_ne (tgt := 113) F.1 F.2.1 dX19_put_106 (by decide) (fun c1 => ?_) (fun c1 => ?_)
  · replace h := zi_t c1 h
    refine lv_iload F.1 F.2.1 dX19_put_113 (lv_at hl 7 rfl) ?_
    refine lv_iconst (v := (2 : Int32)) F.1 F.2.1 dX19_put_115 (by decide) ?_
    refine lv_icmp_ne (tgt := 123) F.1 F.2.1 dX19_put_116 (by decide) (fun c2 => ?_) (fun c2 => ?_)
    · replace h := zi_t c2 h
      refine lv_iconst (v := (1 : Int32)) F.1 F.2.1 dX19_put_123 (by decide) ?_
      exact bX19_put_124 hst F hA E  x0 x1 x2 x3 x4 x5 x6 x7 (1 : Int32) hx0 hx1 hx6 hr (lv_sub hl [0, 1, 2, 3, 4, 5, 6, 7] rfl) h
    · replace h := zi_f (fun q => q c2) h
      refine lv_iconst (v := (2 : Int32)) F.1 F.2.1 dX19_put_119 (by decide) ?_
      refine lv_goto (tgt := 124) F.1 F.2.1 dX19_put_120 (by decide) ?_
      exact bX19_put_124 hst F hA E  x0 x1 x2 x3 x4 x5 x6 x7 (2 : Int32) hx0 hx1 hx6 hr (lv_sub hl [0, 1, 2, 3, 4, 5, 6, 7] rfl) h
  · replace h := zi_f (fun q => q c1) h
    refine lv_iconst (v := (0 : Int32)) F.1 F.2.1 dX19_put_109 (by decide) ?_
    refine lv_goto (tgt := 124) F.1 F.2.1 dX19_put_110 (by decide) ?_
    exact bX19_put_124 hst F hA E  x0 x1 x2 x3 x4 x5 x6 x7 (0 : Int32) hx0 hx1 hx6 hr (lv_sub hl [0, 1, 2, 3, 4, 5, 6, 7] rfl) h
def fX19_put_94 (N : Nat)  (x0 : Nat) (x1 : Nat) (x2 : Int32) (x3 : Int32) (x4 : Int32) (x5 : Int32) (x6 : Nat) (x7 : Int32) (z : St) : Option (Int32 × St) := if x7 = 0 then (fX19_put_103 N x0 x1 x2 x3 x4 x5 x6 x7 z) else (zc (fX19_stir N x0 z) fun _ z3 => fX19_put_103 N x0 x1 x2 x3 x4 x5 x6 x7 z3)
set_option maxHeartbeats 4000000 in
set_option maxRecDepth 100000 in
theorem bX19_put_94 (hst : zSt B ids) (F : zFx p m c cX19_put 9 s args RX19 D cy B ids A) (hA : ∀ q : Nat, s.heap.size ≤ q → A q) {r : Int32} {z' : St} (E : zEnd p l e rmX19_put s m args below meth c cX19_put D cy B ids A Q none z' .return_ True) {N : Nat}  (x0 : Nat) (x1 : Nat) (x2 : Int32) (x3 : Int32) (x4 : Int32) (x5 : Int32) (x6 : Nat) (x7 : Int32) (hx0 : (19, x0) ∈ ids) (hx1 : (18, x1) ∈ ids) (hx6 : (16, x6) ∈ ids) {z : St} {H : Heap} {locs : List Loc} {ls : Array Slot} (hr : zRep D cy B ids A s.heap z H locs) (hl : lv_has ls 9 [(0, .ref (B 19 x0)), (1, .ref (B 18 x1)), (2, .int x2), (3, .int x3), (4, .int x4), (5, .int x5), (6, .ref (B 16 x6)), (7, .int x7)]) (h : fX19_put_94 N x0 x1 x2 x3 x4 x5 x6 x7 z = some (r, z')) : W p l e rmX19_put s m args below meth c H locs 0 0 Q (F0 m 94 ls []) := by
  unfold fX19_put_94 at h
  refine lv_iload F.1 F.2.1 dX19_put_94 (lv_at hl 7 rfl) ?_
  refine lv_if_eq (tgt := 103) F.1 F.2.1 dX19_put_96 (by decide) (fun c1 => ?_) (fun c1 => ?_)
  · replace h := zi_t c1 h
    exact bX19_put_103 hst F hA E  x0 x1 x2 x3 x4 x5 x6 x7 hx0 hx1 hx6 hr (lv_sub hl [0, 1, 2, 3, 4, 5, 6, 7] rfl) h
  · replace h := zi_f c1 h
    refine lv_aload_n F.1 F.2.1 dX19_put_99 rfl (lv_at hl 0 rfl) ?_
    replace h := zc_some h
    obtain ⟨r2, z3, hc4, h⟩ := h
    refine zr_callv (zrun_V (As := []) (rest := []) zq_2394 zq_2396 zs_X19_stir zq_2397 zq_4 hdX19_stir (by decide) (T := TX19) (N := 32) rfl (okX19_stir l D cy B ids hst N x0 hx0 hr.2.2 hc4) F hr hx0 hl.1 rfl (by decide) dX19_put_100 rfl rfl hroX19_put_X19_stir ⟨Nat.zero_le _, Nat.zero_le _⟩) F hA hr (fun H locs hw5 hr => ?_)
    clear hc4
    exact bX19_put_103 hst F hA E  x0 x1 x2 x3 x4 x5 x6 x7 hx0 hx1 hx6 hr (lv_sub hl [0, 1, 2, 3, 4, 5, 6, 7] rfl) h
def fX19_put_60b (N : Nat) (K60 : Nat → Nat → Int32 → Int32 → Int32 → Int32 → Nat → Int32 → Int32 → St → Option (Int32 × St)) (x0 : Nat) (x1 : Nat) (x2 : Int32) (x3 : Int32) (x4 : Int32) (x5 : Int32) (x6 : Nat) (x7 : Int32) (x8 : Int32) (z : St) : Option (Int32 × St) := if (zgI z 16 7 x6) ≤ x8 then (fX19_put_94 N x0 x1 x2 x3 x4 x5 x6 x7 z) else (zk (x8 + (1 : Int32)) 64 <| zk x8 64 <| zl (zsA z 165 x6 (Int32.toNatClampNeg x8) (zgA z 165 x6 (Int32.toNatClampNeg (x8 + (1 : Int32))))) fun z4 => zl (x8 + 1) fun v5 => K60 x0 x1 x2 x3 x4 x5 x6 x7 v5 z4)
def fX19_put_60 (N : Nat)  : Nat → Nat → Nat → Int32 → Int32 → Int32 → Int32 → Nat → Int32 → Int32 → St → Option (Int32 × St)
  | 0 => fun _ _ _ _ _ _ _ _ _ _ => none
  | n + 1 => fX19_put_60b N (fX19_put_60 N  n)
set_option maxHeartbeats 4000000 in
set_option maxRecDepth 100000 in
theorem bX19_put_60 (hst : zSt B ids) (F : zFx p m c cX19_put 9 s args RX19 D cy B ids A) (hA : ∀ q : Nat, s.heap.size ≤ q → A q) {r : Int32} {z' : St} (E : zEnd p l e rmX19_put s m args below meth c cX19_put D cy B ids A Q none z' .return_ True) {N : Nat} {K60 : Nat → Nat → Int32 → Int32 → Int32 → Int32 → Nat → Int32 → Int32 → St → Option (Int32 × St)} (hK60 : ∀ (x0 : Nat) (x1 : Nat) (x2 : Int32) (x3 : Int32) (x4 : Int32) (x5 : Int32) (x6 : Nat) (x7 : Int32) (x8 : Int32) (hx0 : (19, x0) ∈ ids) (hx1 : (18, x1) ∈ ids) (hx6 : (16, x6) ∈ ids) {z : St} {H : Heap} {locs : List Loc} {ls : Array Slot} (hr : zRep D cy B ids A s.heap z H locs) (hl : lv_has ls 9 [(0, .ref (B 19 x0)), (1, .ref (B 18 x1)), (2, .int x2), (3, .int x3), (4, .int x4), (5, .int x5), (6, .ref (B 16 x6)), (7, .int x7), (8, .int x8)]), K60 x0 x1 x2 x3 x4 x5 x6 x7 x8 z = some (r, z') → W p l e rmX19_put s m args below meth c H locs 0 0 Q (F0 m 60 ls [])) (x0 : Nat) (x1 : Nat) (x2 : Int32) (x3 : Int32) (x4 : Int32) (x5 : Int32) (x6 : Nat) (x7 : Int32) (x8 : Int32) (hx0 : (19, x0) ∈ ids) (hx1 : (18, x1) ∈ ids) (hx6 : (16, x6) ∈ ids) {z : St} {H : Heap} {locs : List Loc} {ls : Array Slot} (hr : zRep D cy B ids A s.heap z H locs) (hl : lv_has ls 9 [(0, .ref (B 19 x0)), (1, .ref (B 18 x1)), (2, .int x2), (3, .int x3), (4, .int x4), (5, .int x5), (6, .ref (B 16 x6)), (7, .int x7), (8, .int x8)]) (h : fX19_put_60b N K60 x0 x1 x2 x3 x4 x5 x6 x7 x8 z = some (r, z')) : W p l e rmX19_put s m args below meth c H locs 0 0 Q (F0 m 60 ls []) := by
  unfold fX19_put_60b at h
  refine lv_iload F.1 F.2.1 dX19_put_60 (lv_at hl 8 rfl) ?_
  refine lv_aload F.1 F.2.1 dX19_put_62 (lv_at hl 6 rfl) ?_
  refine gf19_162 F hx6 hr dX19_put_64 ?_
  refine lv_icmp_ge (tgt := 94) F.1 F.2.1 dX19_put_67 (by decide) (fun c1 => ?_) (fun c1 => ?_)
  · replace h := zi_t c1 h
    exact bX19_put_94 hst F hA E  x0 x1 x2 x3 x4 x5 x6 x7 hx0 hx1 hx6 hr (lv_sub hl [0, 1, 2, 3, 4, 5, 6, 7] rfl) h
  · replace h := zi_f c1 h
    refine lv_aload F.1 F.2.1 dX19_put_70 (lv_at hl 6 rfl) ?_
    refine gf19_165 F hx6 hr dX19_put_72 ?_
    refine lv_iload F.1 F.2.1 dX19_put_75 (lv_at hl 8 rfl) ?_
    refine lv_aload F.1 F.2.1 dX19_put_77 (lv_at hl 6 rfl) ?_
    refine gf19_165 F hx6 hr dX19_put_79 ?_
    refine lv_iload F.1 F.2.1 dX19_put_82 (lv_at hl 8 rfl) ?_
    refine lv_iconst (v := (1 : Int32)) F.1 F.2.1 dX19_put_84 (by decide) ?_
    refine lv_iadd F.1 F.2.1 dX19_put_85 ?_
    replace h := zk_some h
    obtain ⟨c2, h⟩ := h
    refine zr_iald (k := 165) (by decide) rfl (by decide) F (zal_a F hx6 (j := 6) rfl) hr dX19_put_86 c2 ?_
    replace h := zk_some h
    obtain ⟨c3, h⟩ := h
    refine zr_iast (k := 165) (by decide) rfl (by decide) F (zal_a F hx6 (j := 6) rfl) hr dX19_put_87 c3 (fun H locs z4 ez4 hr => ?_)
    replace h := zl_sub ez4 h
    clear ez4
    obtain ⟨v5, ev5⟩ : ∃ y : Int32, y = (x8 + 1) := ⟨_, rfl⟩
    replace h := zl_sub ev5 h
    refine lv_iinc (v := v5) (lv' := [(8, .int v5), (0, .ref (B 19 x0)), (1, .ref (B 18 x1)), (2, .int x2), (3, .int x3), (4, .int x4), (5, .int x5), (6, .ref (B 16 x6)), (7, .int x7)]) F.1 F.2.1 dX19_put_88 hl (k := 8) rfl (by rw [ev5]; rfl) (by decide) rfl (fun ls hl => ?_)
    refine lv_goto (tgt := 60) F.1 F.2.1 dX19_put_91 (by decide) ?_
    exact hK60 x0 x1 x2 x3 x4 x5 x6 x7 v5 hx0 hx1 hx6 hr (lv_sub hl [1, 2, 3, 4, 5, 6, 7, 8, 0] rfl) h
theorem lX19_put_60 (hst : zSt B ids) (F : zFx p m c cX19_put 9 s args RX19 D cy B ids A) (hA : ∀ q : Nat, s.heap.size ≤ q → A q) {r : Int32} {z' : St} (E : zEnd p l e rmX19_put s m args below meth c cX19_put D cy B ids A Q none z' .return_ True) {N : Nat}  : ∀ (n : Nat) (x0 : Nat) (x1 : Nat) (x2 : Int32) (x3 : Int32) (x4 : Int32) (x5 : Int32) (x6 : Nat) (x7 : Int32) (x8 : Int32) (hx0 : (19, x0) ∈ ids) (hx1 : (18, x1) ∈ ids) (hx6 : (16, x6) ∈ ids) {z : St} {H : Heap} {locs : List Loc} {ls : Array Slot} (hr : zRep D cy B ids A s.heap z H locs) (hl : lv_has ls 9 [(0, .ref (B 19 x0)), (1, .ref (B 18 x1)), (2, .int x2), (3, .int x3), (4, .int x4), (5, .int x5), (6, .ref (B 16 x6)), (7, .int x7), (8, .int x8)]), fX19_put_60 N  n x0 x1 x2 x3 x4 x5 x6 x7 x8 z = some (r, z') → W p l e rmX19_put s m args below meth c H locs 0 0 Q (F0 m 60 ls []) := by
  intro n
  induction n with
  | zero => intro x0 x1 x2 x3 x4 x5 x6 x7 x8 hx0 hx1 hx6 z H locs ls hr hl h; cases h
  | succ n ih => intro x0 x1 x2 x3 x4 x5 x6 x7 x8 hx0 hx1 hx6 z H locs ls hr hl h; exact bX19_put_60 hst F hA E ih x0 x1 x2 x3 x4 x5 x6 x7 x8 hx0 hx1 hx6 hr hl h
def fX19_put (N : Nat)  (x0 : Nat) (x1 : Nat) (x2 : Int32) (x3 : Int32) (x4 : Int32) (x5 : Int32) (z : St) : Option (Int32 × St) := zl (zgR z 18 2 x1) fun y1 => zd y1 fun a2 => zl (zsI z 16 8 a2 ((zgI z 16 8 a2) + (1 : Int32))) fun z3 => if ¬ (zgI z3 16 3 a2) = 0 then (if (zgI z3 16 7 a2) ≤ 0 then (fX19_put_94 N x0 x1 x2 x3 x4 x5 a2 (0 : Int32) z3) else (zk (0 : Int32) 64 <| zl (zgA z3 165 a2 (Int32.toNatClampNeg (0 : Int32))) fun v7 => zl (zsI z3 16 7 a2 ((zgI z3 16 7 a2) - (1 : Int32))) fun z8 => fX19_put_60 N N x0 x1 x2 x3 x4 x5 a2 v7 (0 : Int32) z8)) else (some (0, z3))
set_option maxHeartbeats 4000000 in
set_option maxRecDepth 100000 in
theorem bX19_put_0 (hst : zSt B ids) (F : zFx p m c cX19_put 9 s args RX19 D cy B ids A) (hA : ∀ q : Nat, s.heap.size ≤ q → A q) {r : Int32} {z' : St} (E : zEnd p l e rmX19_put s m args below meth c cX19_put D cy B ids A Q none z' .return_ True) {N : Nat}  (x0 : Nat) (x1 : Nat) (x2 : Int32) (x3 : Int32) (x4 : Int32) (x5 : Int32) (hx0 : (19, x0) ∈ ids) (hx1 : (18, x1) ∈ ids) {z : St} {H : Heap} {locs : List Loc} {ls : Array Slot} (hr : zRep D cy B ids A s.heap z H locs) (hl : lv_has ls 9 [(0, .ref (B 19 x0)), (1, .ref (B 18 x1)), (2, .int x2), (3, .int x3), (4, .int x4), (5, .int x5)]) (h : fX19_put N x0 x1 x2 x3 x4 x5 z = some (r, z')) : W p l e rmX19_put s m args below meth c H locs 0 0 Q (F0 m 0 ls []) := by
  unfold fX19_put at h
  refine lv_aload_n F.1 F.2.1 dX19_put_0 rfl (lv_at hl 1 rfl) ?_
  refine gf19_149 F hx1 hr dX19_put_1 (fun y1 ey1 => ?_)
  replace h := zl_sub ey1 h
  have hy1 := zal_g hr hx1 (j := 2) rfl ey1
  clear ey1
  refine zr_astore (lv' := [(6, va_rf (Option.map (B 16) y1)), (0, .ref (B 19 x0)), (1, .ref (B 18 x1)), (2, .int x2), (3, .int x3), (4, .int x4), (5, .int x5)]) F.1 F.2.1 dX19_put_4 hl (by decide) rfl (fun ls hl => ?_)
  refine zr_aload F.1 F.2.1 dX19_put_6 (lv_at hl 0 rfl) ?_
  refine lv_dup F.1 F.2.1 dX19_put_8 zrf_cat ?_
  replace h := zd_some h
  obtain ⟨a2, rfl, h⟩ := h
  refine gf19_155 F (hy1 _ rfl) hr dX19_put_9 ?_
  refine lv_iconst (v := (1 : Int32)) F.1 F.2.1 dX19_put_12 (by decide) ?_
  refine lv_iadd F.1 F.2.1 dX19_put_13 ?_
  refine pf19_155 F (hy1 _ rfl) hr dX19_put_14 ((zgI z 16 8 a2) + (1 : Int32)) (fun H locs z3 ez3 hr => ?_)
  replace h := zl_sub ez3 h
  clear ez3
  refine lv_aload F.1 F.2.1 dX19_put_17 (lv_at hl 0 rfl) ?_
  refine gf19_158 F (hy1 _ rfl) hr dX19_put_19 ?_
  refine lv_if_ne (tgt := 26) F.1 F.2.1 dX19_put_22 (by decide) (fun c4 => ?_) (fun c4 => ?_)
  · replace h := zi_t c4 h
    refine lv_iconst (v := (0 : Int32)) F.1 F.2.1 dX19_put_26 (by decide) ?_
    refine lv_istore (lv' := [(7, .int (0 : Int32)), (6, .ref (B 16 a2)), (0, .ref (B 19 x0)), (1, .ref (B 18 x1)), (2, .int x2), (3, .int x3), (4, .int x4), (5, .int x5)]) F.1 F.2.1 dX19_put_27 hl (by decide) rfl (fun ls hl => ?_)
    refine lv_aload F.1 F.2.1 dX19_put_29 (lv_at hl 1 rfl) ?_
    refine gf19_162 F (hy1 _ rfl) hr dX19_put_31 ?_
    refine lv_if_le (tgt := 94) F.1 F.2.1 dX19_put_34 (by decide) (fun c5 => ?_) (fun c5 => ?_)
    · replace h := zi_t c5 h
      exact bX19_put_94 hst F hA E  x0 x1 x2 x3 x4 x5 a2 (0 : Int32) hx0 hx1 (hy1 _ rfl) hr (lv_sub hl [2, 3, 4, 5, 6, 7, 1, 0] rfl) h
    · replace h := zi_f c5 h
      refine lv_aload F.1 F.2.1 dX19_put_37 (lv_at hl 1 rfl) ?_
      refine gf19_165 F (hy1 _ rfl) hr dX19_put_39 ?_
      refine lv_iconst (v := (0 : Int32)) F.1 F.2.1 dX19_put_42 (by decide) ?_
      replace h := zk_some h
      obtain ⟨c6, h⟩ := h
      refine zr_iald (k := 165) (by decide) rfl (by decide) F (zal_a F (hy1 _ rfl) (j := 6) rfl) hr dX19_put_43 c6 ?_
      refine lv_topi (fun v7 ev7 => ?_)
      replace h := zl_sub ev7 h
      refine lv_istore (lv' := [(7, .int v7), (6, .ref (B 16 a2)), (0, .ref (B 19 x0)), (1, .ref (B 18 x1)), (2, .int x2), (3, .int x3), (4, .int x4), (5, .int x5)]) F.1 F.2.1 dX19_put_44 hl (by decide) rfl (fun ls hl => ?_)
      refine lv_aload F.1 F.2.1 dX19_put_46 (lv_at hl 1 rfl) ?_
      refine lv_dup F.1 F.2.1 dX19_put_48 rfl ?_
      refine gf19_162 F (hy1 _ rfl) hr dX19_put_49 ?_
      refine lv_iconst (v := (1 : Int32)) F.1 F.2.1 dX19_put_52 (by decide) ?_
      refine lv_isub F.1 F.2.1 dX19_put_53 ?_
      refine pf19_162 F (hy1 _ rfl) hr dX19_put_54 ((zgI z3 16 7 a2) - (1 : Int32)) (fun H locs z8 ez8 hr => ?_)
      replace h := zl_sub ez8 h
      clear ez8
      refine lv_iconst (v := (0 : Int32)) F.1 F.2.1 dX19_put_57 (by decide) ?_
      refine lv_istore (lv' := [(8, .int (0 : Int32)), (7, .int v7), (6, .ref (B 16 a2)), (0, .ref (B 19 x0)), (1, .ref (B 18 x1)), (2, .int x2), (3, .int x3), (4, .int x4), (5, .int x5)]) F.1 F.2.1 dX19_put_58 hl (by decide) rfl (fun ls hl => ?_)
      exact lX19_put_60 hst F hA E  _ x0 x1 x2 x3 x4 x5 a2 v7 (0 : Int32) hx0 hx1 (hy1 _ rfl) hr (lv_sub hl [3, 4, 5, 6, 7, 8, 2, 1, 0] rfl) h
  · replace h := zi_f (fun q => q c4) h
    obtain ⟨rfl, rfl⟩ := zret h
    exact E _ _ _ _ dX19_put_25 trivial hr
end SX19_put
set_option maxRecDepth 100000 in
theorem okX19_put (l : Launch) (D : va_G) (cy : Nat → ClassId) (B : Nat → Nat → Nat) (ids : List (Nat × Nat)) (hst : zSt B ids) (N : Nat) (x0 : Nat) (hx0 : (19, x0) ∈ ids) (x1 : Nat) (hx1 : (18, x1) ∈ ids) (x2 : Int32) (x3 : Int32) (x4 : Int32) (x5 : Int32) {z : St} {r : Int32} {z' : St} (hW : zWf ids z) (h : fX19_put N x0 x1 x2 x3 x4 x5 z = some (r, z')) : zM l yX19_put (zws yX19_put cX19_put 9 none) rmX19_put D cy B ids [.ref (B 19 x0), .ref (B 18 x1), .int x2, .int x3, .int x4, .int x5] none True z z' :=
  zM_of hst hW (by decide +kernel) (Nat.le_of_ble_eq_true rfl) (fun p e s m args below meth c A ls F hA hret hlocks hr hl => bX19_put_0 hst F hA (zEnd_v F hret hlocks) x0 x1 x2 x3 x4 x5 hx0 hx1 hr hl h)
abbrev rmX19_takeFrame : Room := { frames := 0, cells := 0, slots := 0, locals := 0 }
theorem hdX19_takeFrame : yX19_takeFrame.cls ≠ "java/lang/invoke/MethodHandle" ∧ yX19_takeFrame.cls ≠ "java/lang/invoke/VarHandle" ∧ (parseMethodDescriptor yX19_takeFrame.desc).map (fun d => d.parameters.length) = some 1 := by decide +kernel
section SX19_takeFrame
variable {p : Program} {l : Launch} {e : Env} {s : State} {m : MethodId} {args : Array Value} {below : List Frame} {meth : Method} {c : Code} {Q : State → Prop} {D : va_G} {cy : Nat → ClassId} {B : Nat → Nat → Nat} {ids : List (Nat × Nat)} {A : Nat → Prop}
def fX19_takeFrame_15b (N : Nat) (K15 : Nat → Int32 → St → Option (Int32 × St)) (x0 : Nat) (x2 : Int32) (z : St) : Option (Int32 × St) := if ((7 : Int32) * (zgI z 19 23 x0)) ≤ x2 then (some (0, z)) else (zk (x2 + (7 : Int32)) 3584 <| zk x2 3584 <| zl (zsA z 188 x0 (Int32.toNatClampNeg x2) (zgA z 188 x0 (Int32.toNatClampNeg (x2 + (7 : Int32))))) fun z4 => zl (x2 + 1) fun v5 => K15 x0 v5 z4)
def fX19_takeFrame_15 (N : Nat)  : Nat → Nat → Int32 → St → Option (Int32 × St)
  | 0 => fun _ _ _ => none
  | n + 1 => fX19_takeFrame_15b N (fX19_takeFrame_15 N  n)
set_option maxHeartbeats 4000000 in
set_option maxRecDepth 100000 in
theorem bX19_takeFrame_15 (hst : zSt B ids) (F : zFx p m c cX19_takeFrame 3 s args RX19 D cy B ids A) (hA : ∀ q : Nat, s.heap.size ≤ q → A q) {r : Int32} {z' : St} (E : zEnd p l e rmX19_takeFrame s m args below meth c cX19_takeFrame D cy B ids A Q none z' .return_ True) {N : Nat} {K15 : Nat → Int32 → St → Option (Int32 × St)} (hK15 : ∀ (x0 : Nat) (x2 : Int32) (hx0 : (19, x0) ∈ ids) {z : St} {H : Heap} {locs : List Loc} {ls : Array Slot} (hr : zRep D cy B ids A s.heap z H locs) (hl : lv_has ls 3 [(0, .ref (B 19 x0)), (2, .int x2)]), K15 x0 x2 z = some (r, z') → W p l e rmX19_takeFrame s m args below meth c H locs 0 0 Q (F0 m 15 ls [])) (x0 : Nat) (x2 : Int32) (hx0 : (19, x0) ∈ ids) {z : St} {H : Heap} {locs : List Loc} {ls : Array Slot} (hr : zRep D cy B ids A s.heap z H locs) (hl : lv_has ls 3 [(0, .ref (B 19 x0)), (2, .int x2)]) (h : fX19_takeFrame_15b N K15 x0 x2 z = some (r, z')) : W p l e rmX19_takeFrame s m args below meth c H locs 0 0 Q (F0 m 15 ls []) := by
  unfold fX19_takeFrame_15b at h
  refine lv_iload_n F.1 F.2.1 dX19_takeFrame_15 rfl (lv_at hl 1 rfl) ?_
  refine lv_bipush (v := (7 : Int32)) F.1 F.2.1 dX19_takeFrame_16 (by decide) ?_
  refine lv_aload_n F.1 F.2.1 dX19_takeFrame_18 rfl (lv_at hl 0 rfl) ?_
  refine gf19_171 F hx0 hr dX19_takeFrame_19 ?_
  refine lv_imul F.1 F.2.1 dX19_takeFrame_22 ?_
  refine lv_icmp_ge (tgt := 47) F.1 F.2.1 dX19_takeFrame_23 (by decide) (fun c1 => ?_) (fun c1 => ?_)
  · replace h := zi_t c1 h
    obtain ⟨rfl, rfl⟩ := zret h
    exact E _ _ _ _ dX19_takeFrame_47 trivial hr
  · replace h := zi_f c1 h
    refine lv_aload_n F.1 F.2.1 dX19_takeFrame_26 rfl (lv_at hl 0 rfl) ?_
    refine gf19_124 F hx0 hr dX19_takeFrame_27 ?_
    refine lv_iload_n F.1 F.2.1 dX19_takeFrame_30 rfl (lv_at hl 1 rfl) ?_
    refine lv_aload_n F.1 F.2.1 dX19_takeFrame_31 rfl (lv_at hl 0 rfl) ?_
    refine gf19_124 F hx0 hr dX19_takeFrame_32 ?_
    refine lv_iload_n F.1 F.2.1 dX19_takeFrame_35 rfl (lv_at hl 1 rfl) ?_
    refine lv_bipush (v := (7 : Int32)) F.1 F.2.1 dX19_takeFrame_36 (by decide) ?_
    refine lv_iadd F.1 F.2.1 dX19_takeFrame_38 ?_
    replace h := zk_some h
    obtain ⟨c2, h⟩ := h
    refine zr_iald (k := 188) (by decide) rfl (by decide) F (zal_a F hx0 (j := 22) rfl) hr dX19_takeFrame_39 c2 ?_
    replace h := zk_some h
    obtain ⟨c3, h⟩ := h
    refine zr_iast (k := 188) (by decide) rfl (by decide) F (zal_a F hx0 (j := 22) rfl) hr dX19_takeFrame_40 c3 (fun H locs z4 ez4 hr => ?_)
    replace h := zl_sub ez4 h
    clear ez4
    obtain ⟨v5, ev5⟩ : ∃ y : Int32, y = (x2 + 1) := ⟨_, rfl⟩
    replace h := zl_sub ev5 h
    refine lv_iinc (v := v5) (lv' := [(2, .int v5), (0, .ref (B 19 x0))]) F.1 F.2.1 dX19_takeFrame_41 hl (k := 1) rfl (by rw [ev5]; rfl) (by decide) rfl (fun ls hl => ?_)
    refine lv_goto (tgt := 15) F.1 F.2.1 dX19_takeFrame_44 (by decide) ?_
    exact hK15 x0 v5 hx0 hr (lv_sub hl [1, 0] rfl) h
theorem lX19_takeFrame_15 (hst : zSt B ids) (F : zFx p m c cX19_takeFrame 3 s args RX19 D cy B ids A) (hA : ∀ q : Nat, s.heap.size ≤ q → A q) {r : Int32} {z' : St} (E : zEnd p l e rmX19_takeFrame s m args below meth c cX19_takeFrame D cy B ids A Q none z' .return_ True) {N : Nat}  : ∀ (n : Nat) (x0 : Nat) (x2 : Int32) (hx0 : (19, x0) ∈ ids) {z : St} {H : Heap} {locs : List Loc} {ls : Array Slot} (hr : zRep D cy B ids A s.heap z H locs) (hl : lv_has ls 3 [(0, .ref (B 19 x0)), (2, .int x2)]), fX19_takeFrame_15 N  n x0 x2 z = some (r, z') → W p l e rmX19_takeFrame s m args below meth c H locs 0 0 Q (F0 m 15 ls []) := by
  intro n
  induction n with
  | zero => intro x0 x2 hx0 z H locs ls hr hl h; cases h
  | succ n ih => intro x0 x2 hx0 z H locs ls hr hl h; exact bX19_takeFrame_15 hst F hA E ih x0 x2 hx0 hr hl h
def fX19_takeFrame (N : Nat)  (x0 : Nat) (x1 : Int32) (z : St) : Option (Int32 × St) := zl (zsI z 19 23 x0 ((zgI z 19 23 x0) - (1 : Int32))) fun z1 => zl ((7 : Int32) * x1) fun v2 => fX19_takeFrame_15 N N x0 v2 z1
set_option maxHeartbeats 4000000 in
set_option maxRecDepth 100000 in
theorem bX19_takeFrame_0 (hst : zSt B ids) (F : zFx p m c cX19_takeFrame 3 s args RX19 D cy B ids A) (hA : ∀ q : Nat, s.heap.size ≤ q → A q) {r : Int32} {z' : St} (E : zEnd p l e rmX19_takeFrame s m args below meth c cX19_takeFrame D cy B ids A Q none z' .return_ True) {N : Nat}  (x0 : Nat) (x1 : Int32) (hx0 : (19, x0) ∈ ids) {z : St} {H : Heap} {locs : List Loc} {ls : Array Slot} (hr : zRep D cy B ids A s.heap z H locs) (hl : lv_has ls 3 [(0, .ref (B 19 x0)), (1, .int x1)]) (h : fX19_takeFrame N x0 x1 z = some (r, z')) : W p l e rmX19_takeFrame s m args below meth c H locs 0 0 Q (F0 m 0 ls []) := by
  unfold fX19_takeFrame at h
  refine lv_aload_n F.1 F.2.1 dX19_takeFrame_0 rfl (lv_at hl 0 rfl) ?_
  refine lv_dup F.1 F.2.1 dX19_takeFrame_1 rfl ?_
  refine gf19_171 F hx0 hr dX19_takeFrame_2 ?_
  refine lv_iconst (v := (1 : Int32)) F.1 F.2.1 dX19_takeFrame_5 (by decide) ?_
  refine lv_isub F.1 F.2.1 dX19_takeFrame_6 ?_
  refine pf19_171 F hx0 hr dX19_takeFrame_7 ((zgI z 19 23 x0) - (1 : Int32)) (fun H locs z1 ez1 hr => ?_)
  replace h := zl_sub ez1 h
  clear ez1
  refine lv_bipush (v := (7 : Int32)) F.1 F.2.1 dX19_takeFrame_10 (by decide) ?_
  refine lv_iload_n F.1 F.2.1 dX19_takeFrame_12 rfl (lv_at hl 1 rfl) ?_
  refine lv_imul F.1 F.2.1 dX19_takeFrame_13 ?_
  refine lv_topi (fun v2 ev2 => ?_)
  replace h := zl_sub ev2 h
  refine lv_istore_n (lv' := [(2, .int v2), (0, .ref (B 19 x0)), (1, .int x1)]) F.1 F.2.1 dX19_takeFrame_14 rfl hl (by decide) rfl (fun ls hl => ?_)
  exact lX19_takeFrame_15 hst F hA E  _ x0 v2 hx0 hr (lv_sub hl [1, 0] rfl) h
end SX19_takeFrame
set_option maxRecDepth 100000 in
theorem okX19_takeFrame (l : Launch) (D : va_G) (cy : Nat → ClassId) (B : Nat → Nat → Nat) (ids : List (Nat × Nat)) (hst : zSt B ids) (N : Nat) (x0 : Nat) (hx0 : (19, x0) ∈ ids) (x1 : Int32) {z : St} {r : Int32} {z' : St} (hW : zWf ids z) (h : fX19_takeFrame N x0 x1 z = some (r, z')) : zM l yX19_takeFrame (zws yX19_takeFrame cX19_takeFrame 3 none) rmX19_takeFrame D cy B ids [.ref (B 19 x0), .int x1] none True z z' :=
  zM_of hst hW (by decide +kernel) (Nat.le_of_ble_eq_true rfl) (fun p e s m args below meth c A ls F hA hret hlocks hr hl => bX19_takeFrame_0 hst F hA (zEnd_v F hret hlocks) x0 x1 hx0 hr hl h)
abbrev rmX19_carry : Room := { frames := 4, cells := 0, slots := 0, locals := 100 }
theorem hdX19_carry : yX19_carry.cls ≠ "java/lang/invoke/MethodHandle" ∧ yX19_carry.cls ≠ "java/lang/invoke/VarHandle" ∧ (parseMethodDescriptor yX19_carry.desc).map (fun d => d.parameters.length) = some 3 := by decide +kernel
theorem hroX19_carry_X19_copyOf : rmX19_copyOf.frames + 1 ≤ rmX19_carry.frames ∧ 8 + (4 + 11) + rmX19_copyOf.locals ≤ rmX19_carry.locals := by decide
theorem hroX19_carry_X19_drop : rmX19_drop.frames + 1 ≤ rmX19_carry.frames ∧ 8 + (2 + 11) + rmX19_drop.locals ≤ rmX19_carry.locals := by decide
theorem hroX19_carry_X19_of : rmX19_of.frames + 1 ≤ rmX19_carry.frames ∧ 8 + (3 + 11) + rmX19_of.locals ≤ rmX19_carry.locals := by decide
theorem hroX19_carry_X19_put : rmX19_put.frames + 1 ≤ rmX19_carry.frames ∧ 8 + (9 + 11) + rmX19_put.locals ≤ rmX19_carry.locals := by decide
theorem hroX19_carry_X19_set : rmX19_set.frames + 1 ≤ rmX19_carry.frames ∧ 8 + (4 + 11) + rmX19_set.locals ≤ rmX19_carry.locals := by decide
section SX19_carry
variable {p : Program} {l : Launch} {e : Env} {s : State} {m : MethodId} {args : Array Value} {below : List Frame} {meth : Method} {c : Code} {Q : State → Prop} {D : va_G} {cy : Nat → ClassId} {B : Nat → Nat → Nat} {ids : List (Nat × Nat)} {A : Nat → Prop}
def fX19_carry_144 (N : Nat) (K54 : Nat → Nat → Int32 → Int32 → Int32 → Int32 → Int32 → St → Option (Int32 × St)) (x0 : Nat) (x1 : Nat) (x2 : Int32) (x3 : Int32) (x5 : Int32) (x6 : Int32) (x7 : Int32) (x8 : Int32) (s0 : Nat) (s1 : Int32) (s2 : Int32) (s3 : Int32) (z : St) : Option (Int32 × St) := zc (fX19_set N s0 s1 s2 s3 z) fun _ z2 => zc (fX19_set N x0 x8 (8 : Int32) (1 : Int32) z2) fun _ z6 => zl (zgR z6 18 0 x1) fun y9 => zd y9 fun a10 => zl (zsI z6 12 7 a10 ((zgI z6 12 7 a10) + (1 : Int32))) fun z11 => zc (fX19_put N x0 x1 x2 (2 : Int32) (0 : Int32) x8 z11) fun _ z13 => zc (fX19_drop N x0 x8 z13) fun _ z17 => zl (x7 + x5) fun v20 => K54 x0 x1 x2 x3 x5 x6 v20 z17
set_option maxHeartbeats 4000000 in
set_option maxRecDepth 100000 in
theorem bX19_carry_144 (hst : zSt B ids) (F : zFx p m c cX19_carry 9 s args RX19 D cy B ids A) (hA : ∀ q : Nat, s.heap.size ≤ q → A q) {r : Int32} {z' : St} (E : zEnd p l e rmX19_carry s m args below meth c cX19_carry D cy B ids A Q none z' .return_ True) {N : Nat} {K54 : Nat → Nat → Int32 → Int32 → Int32 → Int32 → Int32 → St → Option (Int32 × St)} (hK54 : ∀ (x0 : Nat) (x1 : Nat) (x2 : Int32) (x3 : Int32) (x5 : Int32) (x6 : Int32) (x7 : Int32) (hx0 : (19, x0) ∈ ids) (hx1 : (18, x1) ∈ ids) {z : St} {H : Heap} {locs : List Loc} {ls : Array Slot} (hr : zRep D cy B ids A s.heap z H locs) (hl : lv_has ls 9 [(0, .ref (B 19 x0)), (1, .ref (B 18 x1)), (2, .int x2), (3, .int x3), (5, .int x5), (6, .int x6), (7, .int x7)]), K54 x0 x1 x2 x3 x5 x6 x7 z = some (r, z') → W p l e rmX19_carry s m args below meth c H locs 0 0 Q (F0 m 54 ls [])) (x0 : Nat) (x1 : Nat) (x2 : Int32) (x3 : Int32) (x5 : Int32) (x6 : Int32) (x7 : Int32) (x8 : Int32) (s0 : Nat) (s1 : Int32) (s2 : Int32) (s3 : Int32) (hx0 : (19, x0) ∈ ids) (hx1 : (18, x1) ∈ ids) (hs0 : (19, s0) ∈ ids) {z : St} {H : Heap} {locs : List Loc} {ls : Array Slot} (hr : zRep D cy B ids A s.heap z H locs) (hl : lv_has ls 9 [(0, .ref (B 19 x0)), (1, .ref (B 18 x1)), (2, .int x2), (3, .int x3), (5, .int x5), (6, .int x6), (7, .int x7), (8, .int x8)]) (h : fX19_carry_144 N K54 x0 x1 x2 x3 x5 x6 x7 x8 s0 s1 s2 s3 z = some (r, z')) : W p l e rmX19_carry s m args below meth c H locs 0 0 Q (F0 m 144 ls [.int s3, .int s2, .int s1, .ref (B 19 s0)]) := by
  unfold fX19_carry_144 at h
  replace h := zc_some h
  obtain ⟨r1, z2, hc3, h⟩ := h
  refine zr_callv (zrun_V (As := [.int s1, .int s2, .int s3]) (rest := []) zq_2623 zq_2625 zs_X19_set zq_2626 zq_4 hdX19_set (by decide) (T := TX19) (N := 32) rfl (okX19_set l D cy B ids hst N s0 hs0 s1  s2  s3  hr.2.2 hc3) F hr hs0 hl.1 rfl (by decide) dX19_carry_144 rfl rfl hroX19_carry_X19_set ⟨Nat.zero_le _, Nat.zero_le _⟩) F hA hr (fun H locs hw4 hr => ?_)
  clear hc3
  refine lv_aload_n F.1 F.2.1 dX19_carry_147 rfl (lv_at hl 0 rfl) ?_
  refine lv_iload F.1 F.2.1 dX19_carry_148 (lv_at hl 7 rfl) ?_
  refine lv_bipush (v := (8 : Int32)) F.1 F.2.1 dX19_carry_150 (by decide) ?_
  refine lv_iconst (v := (1 : Int32)) F.1 F.2.1 dX19_carry_152 (by decide) ?_
  replace h := zc_some h
  obtain ⟨r5, z6, hc7, h⟩ := h
  refine zr_callv (zrun_V (As := [.int x8, .int (8 : Int32), .int (1 : Int32)]) (rest := []) zq_2623 zq_2625 zs_X19_set zq_2626 zq_4 hdX19_set (by decide) (T := TX19) (N := 32) rfl (okX19_set l D cy B ids hst N x0 hx0 x8  (8 : Int32)  (1 : Int32)  hr.2.2 hc7) F hr hx0 hl.1 rfl (by decide) dX19_carry_153 rfl rfl hroX19_carry_X19_set ⟨Nat.zero_le _, Nat.zero_le _⟩) F hA hr (fun H locs hw8 hr => ?_)
  clear hc7
  refine lv_aload_n F.1 F.2.1 dX19_carry_156 rfl (lv_at hl 1 rfl) ?_
  refine gf19_197 F hx1 hr dX19_carry_157 (fun y9 ey9 => ?_)
  replace h := zl_sub ey9 h
  have hy9 := zal_g hr hx1 (j := 0) rfl ey9
  clear ey9
  refine lv_dup F.1 F.2.1 dX19_carry_160 zrf_cat ?_
  replace h := zd_some h
  obtain ⟨a10, rfl, h⟩ := h
  refine gf19_201 F (hy9 _ rfl) hr dX19_carry_161 ?_
  refine lv_iconst (v := (1 : Int32)) F.1 F.2.1 dX19_carry_164 (by decide) ?_
  refine lv_iadd F.1 F.2.1 dX19_carry_165 ?_
  refine pf19_201 F (hy9 _ rfl) hr dX19_carry_166 ((zgI z6 12 7 a10) + (1 : Int32)) (fun H locs z11 ez11 hr => ?_)
  replace h := zl_sub ez11 h
  clear ez11
  refine lv_aload_n F.1 F.2.1 dX19_carry_169 rfl (lv_at hl 0 rfl) ?_
  refine lv_aload_n F.1 F.2.1 dX19_carry_170 rfl (lv_at hl 1 rfl) ?_
  refine lv_iload_n F.1 F.2.1 dX19_carry_171 rfl (lv_at hl 2 rfl) ?_
  refine lv_iconst (v := (2 : Int32)) F.1 F.2.1 dX19_carry_172 (by decide) ?_
  refine lv_iconst (v := (0 : Int32)) F.1 F.2.1 dX19_carry_173 (by decide) ?_
  refine lv_iload F.1 F.2.1 dX19_carry_174 (lv_at hl 7 rfl) ?_
  replace h := zc_some h
  obtain ⟨r12, z13, hc14, h⟩ := h
  refine zr_callv (zrun_V (As := [.ref (B 18 x1), .int x2, .int (2 : Int32), .int (0 : Int32), .int x8]) (rest := []) zq_2611 zq_2613 zs_X19_put zq_2614 zq_4 hdX19_put (by decide) (T := TX19) (N := 32) rfl (okX19_put l D cy B ids hst N x0 hx0 x1 hx1 x2  (2 : Int32)  (0 : Int32)  x8  hr.2.2 hc14) F hr hx0 hl.1 rfl (by decide) dX19_carry_176 rfl rfl hroX19_carry_X19_put ⟨Nat.zero_le _, Nat.zero_le _⟩) F hA hr (fun H locs hw15 hr => ?_)
  clear hc14
  refine lv_aload_n F.1 F.2.1 dX19_carry_179 rfl (lv_at hl 0 rfl) ?_
  refine lv_iload F.1 F.2.1 dX19_carry_180 (lv_at hl 7 rfl) ?_
  replace h := zc_some h
  obtain ⟨r16, z17, hc18, h⟩ := h
  refine zr_callv (zrun_V (As := [.int x8]) (rest := []) zq_2545 zq_2547 zs_X19_drop zq_2548 zq_4 hdX19_drop (by decide) (T := TX19) (N := 32) rfl (okX19_drop l D cy B ids hst N x0 hx0 x8  hr.2.2 hc18) F hr hx0 hl.1 rfl (by decide) dX19_carry_182 rfl rfl hroX19_carry_X19_drop ⟨Nat.zero_le _, Nat.zero_le _⟩) F hA hr (fun H locs hw19 hr => ?_)
  clear hc18
  refine lv_iload F.1 F.2.1 dX19_carry_185 (lv_at hl 6 rfl) ?_
  refine lv_iload F.1 F.2.1 dX19_carry_187 (lv_at hl 4 rfl) ?_
  refine lv_iadd F.1 F.2.1 dX19_carry_189 ?_
  refine lv_topi (fun v20 ev20 => ?_)
  replace h := zl_sub ev20 h
  refine lv_istore (lv' := [(7, .int v20), (0, .ref (B 19 x0)), (1, .ref (B 18 x1)), (2, .int x2), (3, .int x3), (5, .int x5), (6, .int x6), (8, .int x8)]) F.1 F.2.1 dX19_carry_190 hl (by decide) rfl (fun ls hl => ?_)
  refine lv_goto (tgt := 54) F.1 F.2.1 dX19_carry_192 (by decide) ?_
  exact hK54 x0 x1 x2 x3 x5 x6 v20 hx0 hx1 hr (lv_sub hl [1, 2, 3, 4, 5, 6, 0] rfl) h
def fX19_carry_139 (N : Nat) (K54 : Nat → Nat → Int32 → Int32 → Int32 → Int32 → Int32 → St → Option (Int32 × St)) (x0 : Nat) (x1 : Nat) (x2 : Int32) (x3 : Int32) (x5 : Int32) (x6 : Int32) (x7 : Int32) (x8 : Int32) (s0 : Nat) (s1 : Int32) (s2 : Int32) (z : St) : Option (Int32 × St) := fX19_carry_144 N K54 x0 x1 x2 x3 x5 x6 x7 x8 s0 s1 s2 (1 : Int32) z
set_option maxHeartbeats 4000000 in
set_option maxRecDepth 100000 in
theorem bX19_carry_139 (hst : zSt B ids) (F : zFx p m c cX19_carry 9 s args RX19 D cy B ids A) (hA : ∀ q : Nat, s.heap.size ≤ q → A q) {r : Int32} {z' : St} (E : zEnd p l e rmX19_carry s m args below meth c cX19_carry D cy B ids A Q none z' .return_ True) {N : Nat} {K54 : Nat → Nat → Int32 → Int32 → Int32 → Int32 → Int32 → St → Option (Int32 × St)} (hK54 : ∀ (x0 : Nat) (x1 : Nat) (x2 : Int32) (x3 : Int32) (x5 : Int32) (x6 : Int32) (x7 : Int32) (hx0 : (19, x0) ∈ ids) (hx1 : (18, x1) ∈ ids) {z : St} {H : Heap} {locs : List Loc} {ls : Array Slot} (hr : zRep D cy B ids A s.heap z H locs) (hl : lv_has ls 9 [(0, .ref (B 19 x0)), (1, .ref (B 18 x1)), (2, .int x2), (3, .int x3), (5, .int x5), (6, .int x6), (7, .int x7)]), K54 x0 x1 x2 x3 x5 x6 x7 z = some (r, z') → W p l e rmX19_carry s m args below meth c H locs 0 0 Q (F0 m 54 ls [])) (x0 : Nat) (x1 : Nat) (x2 : Int32) (x3 : Int32) (x5 : Int32) (x6 : Int32) (x7 : Int32) (x8 : Int32) (s0 : Nat) (s1 : Int32) (s2 : Int32) (hx0 : (19, x0) ∈ ids) (hx1 : (18, x1) ∈ ids) (hs0 : (19, s0) ∈ ids) {z : St} {H : Heap} {locs : List Loc} {ls : Array Slot} (hr : zRep D cy B ids A s.heap z H locs) (hl : lv_has ls 9 [(0, .ref (B 19 x0)), (1, .ref (B 18 x1)), (2, .int x2), (3, .int x3), (5, .int x5), (6, .int x6), (7, .int x7), (8, .int x8)]) (h : fX19_carry_139 N K54 x0 x1 x2 x3 x5 x6 x7 x8 s0 s1 s2 z = some (r, z')) : W p l e rmX19_carry s m args below meth c H locs 0 0 Q (F0 m 139 ls [.int s2, .int s1, .ref (B 19 s0)]) := by
  unfold fX19_carry_139 at h
  refine lv_iconst (v := (1 : Int32)) F.1 F.2.1 dX19_carry_139 (by decide) ?_
  refine lv_goto (tgt := 144) F.1 F.2.1 dX19_carry_140 (by decide) ?_
  exact bX19_carry_144 hst F hA E hK54 x0 x1 x2 x3 x5 x6 x7 x8 s0 s1 s2 (1 : Int32) hx0 hx1 hs0 hr (lv_sub hl [0, 1, 2, 3, 4, 5, 6, 7] rfl) h
def fX19_carry_110 (N : Nat) (K54 : Nat → Nat → Int32 → Int32 → Int32 → Int32 → Int32 → St → Option (Int32 × St)) (x0 : Nat) (x1 : Nat) (x2 : Int32) (x3 : Int32) (x5 : Int32) (x6 : Int32) (x7 : Int32) (x8 : Int32) (s0 : Nat) (s1 : Int32) (s2 : Int32) (s3 : Int32) (z : St) : Option (Int32 × St) := zc (fX19_set N s0 s1 s2 s3 z) fun _ z2 => zc (fX19_of N x0 x3 (7 : Int32) z2) fun r5 z6 => if r5 = (1 : Int32) then (fX19_carry_139 N K54 x0 x1 x2 x3 x5 x6 x7 x8 x0 x8 (7 : Int32) z6) else (if x6 ≤ (x7 + x5) then (fX19_carry_144 N K54 x0 x1 x2 x3 x5 x6 x7 x8 x0 x8 (7 : Int32) (0 : Int32) z6) else (fX19_carry_139 N K54 x0 x1 x2 x3 x5 x6 x7 x8 x0 x8 (7 : Int32) z6))
set_option maxHeartbeats 4000000 in
set_option maxRecDepth 100000 in
theorem bX19_carry_110 (hst : zSt B ids) (F : zFx p m c cX19_carry 9 s args RX19 D cy B ids A) (hA : ∀ q : Nat, s.heap.size ≤ q → A q) {r : Int32} {z' : St} (E : zEnd p l e rmX19_carry s m args below meth c cX19_carry D cy B ids A Q none z' .return_ True) {N : Nat} {K54 : Nat → Nat → Int32 → Int32 → Int32 → Int32 → Int32 → St → Option (Int32 × St)} (hK54 : ∀ (x0 : Nat) (x1 : Nat) (x2 : Int32) (x3 : Int32) (x5 : Int32) (x6 : Int32) (x7 : Int32) (hx0 : (19, x0) ∈ ids) (hx1 : (18, x1) ∈ ids) {z : St} {H : Heap} {locs : List Loc} {ls : Array Slot} (hr : zRep D cy B ids A s.heap z H locs) (hl : lv_has ls 9 [(0, .ref (B 19 x0)), (1, .ref (B 18 x1)), (2, .int x2), (3, .int x3), (5, .int x5), (6, .int x6), (7, .int x7)]), K54 x0 x1 x2 x3 x5 x6 x7 z = some (r, z') → W p l e rmX19_carry s m args below meth c H locs 0 0 Q (F0 m 54 ls [])) (x0 : Nat) (x1 : Nat) (x2 : Int32) (x3 : Int32) (x5 : Int32) (x6 : Int32) (x7 : Int32) (x8 : Int32) (s0 : Nat) (s1 : Int32) (s2 : Int32) (s3 : Int32) (hx0 : (19, x0) ∈ ids) (hx1 : (18, x1) ∈ ids) (hs0 : (19, s0) ∈ ids) {z : St} {H : Heap} {locs : List Loc} {ls : Array Slot} (hr : zRep D cy B ids A s.heap z H locs) (hl : lv_has ls 9 [(0, .ref (B 19 x0)), (1, .ref (B 18 x1)), (2, .int x2), (3, .int x3), (5, .int x5), (6, .int x6), (7, .int x7), (8, .int x8)]) (h : fX19_carry_110 N K54 x0 x1 x2 x3 x5 x6 x7 x8 s0 s1 s2 s3 z = some (r, z')) : W p l e rmX19_carry s m args below meth c H locs 0 0 Q (F0 m 110 ls [.int s3, .int s2, .int s1, .ref (B 19 s0)]) := by
  unfold fX19_carry_110 at h
  replace h := zc_some h
  obtain ⟨r1, z2, hc3, h⟩ := h
  refine zr_callv (zrun_V (As := [.int s1, .int s2, .int s3]) (rest := []) zq_2623 zq_2625 zs_X19_set zq_2626 zq_4 hdX19_set (by decide) (T := TX19) (N := 32) rfl (okX19_set l D cy B ids hst N s0 hs0 s1  s2  s3  hr.2.2 hc3) F hr hs0 hl.1 rfl (by decide) dX19_carry_110 rfl rfl hroX19_carry_X19_set ⟨Nat.zero_le _, Nat.zero_le _⟩) F hA hr (fun H locs hw4 hr => ?_)
  clear hc3
  refine lv_aload_n F.1 F.2.1 dX19_carry_113 rfl (lv_at hl 0 rfl) ?_
  refine lv_iload F.1 F.2.1 dX19_carry_114 (lv_at hl 7 rfl) ?_
  refine lv_bipush (v := (7 : Int32)) F.1 F.2.1 dX19_carry_116 (by decide) ?_
  refine lv_aload_n F.1 F.2.1 dX19_carry_118 rfl (lv_at hl 0 rfl) ?_
  refine lv_iload_n F.1 F.2.1 dX19_carry_119 rfl (lv_at hl 3 rfl) ?_
  refine lv_bipush (v := (7 : Int32)) F.1 F.2.1 dX19_carry_120 (by decide) ?_
  replace h := zc_some h
  obtain ⟨r5, z6, hc7, h⟩ := h
  refine zr_calli (zrun_V (As := [.int x3, .int (7 : Int32)]) (rest := [.int (7 : Int32), .int x8, .ref (B 19 x0)]) zq_2549 zq_2551 zs_X19_of zq_2552 zq_4 hdX19_of (by decide) (T := TX19) (N := 32) rfl (okX19_of l D cy B ids hst N x0 hx0 x3  (7 : Int32)  hr.2.2 hc7) F hr hx0 hl.1 rfl (Nat.le_of_ble_eq_true rfl) dX19_carry_122 rfl rfl hroX19_carry_X19_of ⟨Nat.zero_le _, Nat.zero_le _⟩) F hA hr (fun H locs hw8 hr => ?_)
  clear hc7
  refine lv_iconst (v := (1 : Int32)) F.1 F.2.1 dX19_carry_125 (by decide) ?_
  refine lv_icmp_eq (tgt := 139) F.1 F.2.1 dX19_carry_126 (by decide) (fun c9 => ?_) (fun c9 => ?_)
  · replace h := zi_t c9 h
    exact bX19_carry_139 hst F hA E hK54 x0 x1 x2 x3 x5 x6 x7 x8 x0 x8 (7 : Int32) hx0 hx1 hx0 hr (lv_sub hl [0, 1, 2, 3, 4, 5, 6, 7] rfl) h
  · replace h := zi_f c9 h
    refine lv_iload F.1 F.2.1 dX19_carry_129 (lv_at hl 6 rfl) ?_
    refine lv_iload F.1 F.2.1 dX19_carry_131 (lv_at hl 4 rfl) ?_
    refine lv_iadd F.1 F.2.1 dX19_carry_133 ?_
    refine lv_iload F.1 F.2.1 dX19_carry_134 (lv_at hl 5 rfl) ?_
    refine lv_icmp_ge (tgt := 143) F.1 F.2.1 dX19_carry_136 (by decide) (fun c10 => ?_) (fun c10 => ?_)
    · replace h := zi_t c10 h
      refine lv_iconst (v := (0 : Int32)) F.1 F.2.1 dX19_carry_143 (by decide) ?_
      exact bX19_carry_144 hst F hA E hK54 x0 x1 x2 x3 x5 x6 x7 x8 x0 x8 (7 : Int32) (0 : Int32) hx0 hx1 hx0 hr (lv_sub hl [0, 1, 2, 3, 4, 5, 6, 7] rfl) h
    · replace h := zi_f c10 h
      exact bX19_carry_139 hst F hA E hK54 x0 x1 x2 x3 x5 x6 x7 x8 x0 x8 (7 : Int32) hx0 hx1 hx0 hr (lv_sub hl [0, 1, 2, 3, 4, 5, 6, 7] rfl) h
def fX19_carry_54b (N : Nat) (K54 : Nat → Nat → Int32 → Int32 → Int32 → Int32 → Int32 → St → Option (Int32 × St)) (x0 : Nat) (x1 : Nat) (x2 : Int32) (x3 : Int32) (x5 : Int32) (x6 : Int32) (x7 : Int32) (z : St) : Option (Int32 × St) := if x6 ≤ x7 then (some (0, z)) else (zc (fX19_copyOf N x0 x3 z) fun r2 z3 => zc (fX19_of N x0 x3 (6 : Int32) z3) fun r6 z7 => zc (fX19_set N x0 r2 (6 : Int32) (r6 + x7) z7) fun _ z11 => if (x6 - x7) ≤ x5 then (fX19_carry_110 N K54 x0 x1 x2 x3 x5 x6 x7 r2 x0 r2 (5 : Int32) (x6 - x7) z11) else (fX19_carry_110 N K54 x0 x1 x2 x3 x5 x6 x7 r2 x0 r2 (5 : Int32) x5 z11))
def fX19_carry_54 (N : Nat)  : Nat → Nat → Nat → Int32 → Int32 → Int32 → Int32 → Int32 → St → Option (Int32 × St)
  | 0 => fun _ _ _ _ _ _ _ _ => none
  | n + 1 => fX19_carry_54b N (fX19_carry_54 N  n)
set_option maxHeartbeats 4000000 in
set_option maxRecDepth 100000 in
theorem bX19_carry_54 (hst : zSt B ids) (F : zFx p m c cX19_carry 9 s args RX19 D cy B ids A) (hA : ∀ q : Nat, s.heap.size ≤ q → A q) {r : Int32} {z' : St} (E : zEnd p l e rmX19_carry s m args below meth c cX19_carry D cy B ids A Q none z' .return_ True) {N : Nat} {K54 : Nat → Nat → Int32 → Int32 → Int32 → Int32 → Int32 → St → Option (Int32 × St)} (hK54 : ∀ (x0 : Nat) (x1 : Nat) (x2 : Int32) (x3 : Int32) (x5 : Int32) (x6 : Int32) (x7 : Int32) (hx0 : (19, x0) ∈ ids) (hx1 : (18, x1) ∈ ids) {z : St} {H : Heap} {locs : List Loc} {ls : Array Slot} (hr : zRep D cy B ids A s.heap z H locs) (hl : lv_has ls 9 [(0, .ref (B 19 x0)), (1, .ref (B 18 x1)), (2, .int x2), (3, .int x3), (5, .int x5), (6, .int x6), (7, .int x7)]), K54 x0 x1 x2 x3 x5 x6 x7 z = some (r, z') → W p l e rmX19_carry s m args below meth c H locs 0 0 Q (F0 m 54 ls [])) (x0 : Nat) (x1 : Nat) (x2 : Int32) (x3 : Int32) (x5 : Int32) (x6 : Int32) (x7 : Int32) (hx0 : (19, x0) ∈ ids) (hx1 : (18, x1) ∈ ids) {z : St} {H : Heap} {locs : List Loc} {ls : Array Slot} (hr : zRep D cy B ids A s.heap z H locs) (hl : lv_has ls 9 [(0, .ref (B 19 x0)), (1, .ref (B 18 x1)), (2, .int x2), (3, .int x3), (5, .int x5), (6, .int x6), (7, .int x7)]) (h : fX19_carry_54b N K54 x0 x1 x2 x3 x5 x6 x7 z = some (r, z')) : W p l e rmX19_carry s m args below meth c H locs 0 0 Q (F0 m 54 ls []) := by
  unfold fX19_carry_54b at h
  refine lv_iload F.1 F.2.1 dX19_carry_54 (lv_at hl 6 rfl) ?_
  refine lv_iload F.1 F.2.1 dX19_carry_56 (lv_at hl 5 rfl) ?_
  refine lv_icmp_ge (tgt := 195) F.1 F.2.1 dX19_carry_58 (by decide) (fun c1 => ?_) (fun c1 => ?_)
  · replace h := zi_t c1 h
    obtain ⟨rfl, rfl⟩ := zret h
    exact E _ _ _ _ dX19_carry_195 trivial hr
  · replace h := zi_f c1 h
    refine lv_aload_n F.1 F.2.1 dX19_carry_61 rfl (lv_at hl 0 rfl) ?_
    refine lv_iload_n F.1 F.2.1 dX19_carry_62 rfl (lv_at hl 3 rfl) ?_
    replace h := zc_some h
    obtain ⟨r2, z3, hc4, h⟩ := h
    refine zr_calli (zrun_V (As := [.int x3]) (rest := []) zq_2619 zq_2621 zs_X19_copyOf zq_2622 zq_4 hdX19_copyOf (by decide) (T := TX19) (N := 32) rfl (okX19_copyOf l D cy B ids hst N x0 hx0 x3  hr.2.2 hc4) F hr hx0 hl.1 rfl (by decide) dX19_carry_63 rfl rfl hroX19_carry_X19_copyOf ⟨Nat.zero_le _, Nat.zero_le _⟩) F hA hr (fun H locs hw5 hr => ?_)
    clear hc4
    refine lv_istore (lv' := [(8, .int r2), (0, .ref (B 19 x0)), (1, .ref (B 18 x1)), (2, .int x2), (3, .int x3), (5, .int x5), (6, .int x6), (7, .int x7)]) F.1 F.2.1 dX19_carry_66 hl (by decide) rfl (fun ls hl => ?_)
    refine lv_aload_n F.1 F.2.1 dX19_carry_68 rfl (lv_at hl 1 rfl) ?_
    refine lv_iload F.1 F.2.1 dX19_carry_69 (lv_at hl 0 rfl) ?_
    refine lv_bipush (v := (6 : Int32)) F.1 F.2.1 dX19_carry_71 (by decide) ?_
    refine lv_aload_n F.1 F.2.1 dX19_carry_73 rfl (lv_at hl 1 rfl) ?_
    refine lv_iload_n F.1 F.2.1 dX19_carry_74 rfl (lv_at hl 4 rfl) ?_
    refine lv_bipush (v := (6 : Int32)) F.1 F.2.1 dX19_carry_75 (by decide) ?_
    replace h := zc_some h
    obtain ⟨r6, z7, hc8, h⟩ := h
    refine zr_calli (zrun_V (As := [.int x3, .int (6 : Int32)]) (rest := [.int (6 : Int32), .int r2, .ref (B 19 x0)]) zq_2549 zq_2551 zs_X19_of zq_2552 zq_4 hdX19_of (by decide) (T := TX19) (N := 32) rfl (okX19_of l D cy B ids hst N x0 hx0 x3  (6 : Int32)  hr.2.2 hc8) F hr hx0 hl.1 rfl (Nat.le_of_ble_eq_true rfl) dX19_carry_77 rfl rfl hroX19_carry_X19_of ⟨Nat.zero_le _, Nat.zero_le _⟩) F hA hr (fun H locs hw9 hr => ?_)
    clear hc8
    refine lv_iload F.1 F.2.1 dX19_carry_80 (lv_at hl 7 rfl) ?_
    refine lv_iadd F.1 F.2.1 dX19_carry_82 ?_
    replace h := zc_some h
    obtain ⟨r10, z11, hc12, h⟩ := h
    refine zr_callv (zrun_V (As := [.int r2, .int (6 : Int32), .int (r6 + x7)]) (rest := []) zq_2623 zq_2625 zs_X19_set zq_2626 zq_4 hdX19_set (by decide) (T := TX19) (N := 32) rfl (okX19_set l D cy B ids hst N x0 hx0 r2  (6 : Int32)  (r6 + x7)  hr.2.2 hc12) F hr hx0 hl.1 rfl (by decide) dX19_carry_83 rfl rfl hroX19_carry_X19_set ⟨Nat.zero_le _, Nat.zero_le _⟩) F hA hr (fun H locs hw13 hr => ?_)
    clear hc12
    refine lv_aload_n F.1 F.2.1 dX19_carry_86 rfl (lv_at hl 1 rfl) ?_
    refine lv_iload F.1 F.2.1 dX19_carry_87 (lv_at hl 0 rfl) ?_
    refine lv_iconst (v := (5 : Int32)) F.1 F.2.1 dX19_carry_89 (by decide) ?_
    refine lv_iload F.1 F.2.1 dX19_carry_90 (lv_at hl 5 rfl) ?_
    refine lv_iload F.1 F.2.1 dX19_carry_92 (lv_at hl 6 rfl) ?_
    refine lv_iload F.1 F.2.1 dX19_carry_94 (lv_at hl 7 rfl) ?_
    refine lv_isub F.1 F.2.1 dX19_carry_96 ?_
    refine lv_icmp_ge (tgt := 105) F.1 F.2.1 dX19_carry_97 (by decide) (fun c14 => ?_) (fun c14 => ?_)
    · replace h := zi_t c14 h
      refine lv_iload F.1 F.2.1 dX19_carry_105 (lv_at hl 6 rfl) ?_
      refine lv_iload F.1 F.2.1 dX19_carry_107 (lv_at hl 7 rfl) ?_
      refine lv_isub F.1 F.2.1 dX19_carry_109 ?_
      exact bX19_carry_110 hst F hA E hK54 x0 x1 x2 x3 x5 x6 x7 r2 x0 r2 (5 : Int32) (x6 - x7) hx0 hx1 hx0 hr (lv_sub hl [1, 2, 3, 4, 5, 6, 7, 0] rfl) h
    · replace h := zi_f c14 h
      refine lv_iload F.1 F.2.1 dX19_carry_100 (lv_at hl 5 rfl) ?_
      refine lv_goto (tgt := 110) F.1 F.2.1 dX19_carry_102 (by decide) ?_
      exact bX19_carry_110 hst F hA E hK54 x0 x1 x2 x3 x5 x6 x7 r2 x0 r2 (5 : Int32) x5 hx0 hx1 hx0 hr (lv_sub hl [1, 2, 3, 4, 5, 6, 7, 0] rfl) h
theorem lX19_carry_54 (hst : zSt B ids) (F : zFx p m c cX19_carry 9 s args RX19 D cy B ids A) (hA : ∀ q : Nat, s.heap.size ≤ q → A q) {r : Int32} {z' : St} (E : zEnd p l e rmX19_carry s m args below meth c cX19_carry D cy B ids A Q none z' .return_ True) {N : Nat}  : ∀ (n : Nat) (x0 : Nat) (x1 : Nat) (x2 : Int32) (x3 : Int32) (x5 : Int32) (x6 : Int32) (x7 : Int32) (hx0 : (19, x0) ∈ ids) (hx1 : (18, x1) ∈ ids) {z : St} {H : Heap} {locs : List Loc} {ls : Array Slot} (hr : zRep D cy B ids A s.heap z H locs) (hl : lv_has ls 9 [(0, .ref (B 19 x0)), (1, .ref (B 18 x1)), (2, .int x2), (3, .int x3), (5, .int x5), (6, .int x6), (7, .int x7)]), fX19_carry_54 N  n x0 x1 x2 x3 x5 x6 x7 z = some (r, z') → W p l e rmX19_carry s m args below meth c H locs 0 0 Q (F0 m 54 ls []) := by
  intro n
  induction n with
  | zero => intro x0 x1 x2 x3 x5 x6 x7 hx0 hx1 z H locs ls hr hl h; cases h
  | succ n ih => intro x0 x1 x2 x3 x5 x6 x7 hx0 hx1 z H locs ls hr hl h; exact bX19_carry_54 hst F hA E ih x0 x1 x2 x3 x5 x6 x7 hx0 hx1 hr hl h
def fX19_carry (N : Nat)  (x0 : Nat) (x1 : Nat) (x2 : Int32) (x3 : Int32) (z : St) : Option (Int32 × St) := zl (zgR z 18 2 x1) fun y1 => zd y1 fun a2 => zl ((zgI z 16 1 a2) - (20 : Int32)) fun v3 => zc (fX19_of N x0 x3 (5 : Int32) z) fun r4 z5 => if v3 < r4 then (zl ((v3 / (8 : Int32)) * (8 : Int32)) fun v9 => zc (fX19_of N x0 x3 (5 : Int32) z5) fun r10 z11 => fX19_carry_54 N N x0 x1 x2 x3 v9 r10 (0 : Int32) z11) else (zc (fX19_put N x0 x1 x2 (2 : Int32) (0 : Int32) x3 z5) fun _ z15 => some (0, z15))
set_option maxHeartbeats 4000000 in
set_option maxRecDepth 100000 in
theorem bX19_carry_0 (hst : zSt B ids) (F : zFx p m c cX19_carry 9 s args RX19 D cy B ids A) (hA : ∀ q : Nat, s.heap.size ≤ q → A q) {r : Int32} {z' : St} (E : zEnd p l e rmX19_carry s m args below meth c cX19_carry D cy B ids A Q none z' .return_ True) {N : Nat}  (x0 : Nat) (x1 : Nat) (x2 : Int32) (x3 : Int32) (hx0 : (19, x0) ∈ ids) (hx1 : (18, x1) ∈ ids) {z : St} {H : Heap} {locs : List Loc} {ls : Array Slot} (hr : zRep D cy B ids A s.heap z H locs) (hl : lv_has ls 9 [(0, .ref (B 19 x0)), (1, .ref (B 18 x1)), (2, .int x2), (3, .int x3)]) (h : fX19_carry N x0 x1 x2 x3 z = some (r, z')) : W p l e rmX19_carry s m args below meth c H locs 0 0 Q (F0 m 0 ls []) := by
  unfold fX19_carry at h
  refine lv_aload_n F.1 F.2.1 dX19_carry_0 rfl (lv_at hl 1 rfl) ?_
  refine gf19_149 F hx1 hr dX19_carry_1 (fun y1 ey1 => ?_)
  replace h := zl_sub ey1 h
  have hy1 := zal_g hr hx1 (j := 2) rfl ey1
  clear ey1
  replace h := zd_some h
  obtain ⟨a2, rfl, h⟩ := h
  refine gf19_191 F (hy1 _ rfl) hr dX19_carry_4 ?_
  refine lv_bipush (v := (20 : Int32)) F.1 F.2.1 dX19_carry_7 (by decide) ?_
  refine lv_isub F.1 F.2.1 dX19_carry_9 ?_
  refine lv_topi (fun v3 ev3 => ?_)
  replace h := zl_sub ev3 h
  refine lv_istore (lv' := [(4, .int v3), (0, .ref (B 19 x0)), (1, .ref (B 18 x1)), (2, .int x2), (3, .int x3)]) F.1 F.2.1 dX19_carry_10 hl (by decide) rfl (fun ls hl => ?_)
  refine lv_aload_n F.1 F.2.1 dX19_carry_12 rfl (lv_at hl 1 rfl) ?_
  refine lv_iload_n F.1 F.2.1 dX19_carry_13 rfl (lv_at hl 4 rfl) ?_
  refine lv_iconst (v := (5 : Int32)) F.1 F.2.1 dX19_carry_14 (by decide) ?_
  replace h := zc_some h
  obtain ⟨r4, z5, hc6, h⟩ := h
  refine zr_calli (zrun_V (As := [.int x3, .int (5 : Int32)]) (rest := []) zq_2549 zq_2551 zs_X19_of zq_2552 zq_4 hdX19_of (by decide) (T := TX19) (N := 32) rfl (okX19_of l D cy B ids hst N x0 hx0 x3  (5 : Int32)  hr.2.2 hc6) F hr hx0 hl.1 rfl (by decide) dX19_carry_15 rfl rfl hroX19_carry_X19_of ⟨Nat.zero_le _, Nat.zero_le _⟩) F hA hr (fun H locs hw7 hr => ?_)
  clear hc6
  refine lv_iload F.1 F.2.1 dX19_carry_18 (lv_at hl 0 rfl) ?_
  refine lv_icmp_gt (tgt := 33) F.1 F.2.1 dX19_carry_20 (by decide) (fun c8 => ?_) (fun c8 => ?_)
  · replace h := zi_t c8 h
    refine lv_iload F.1 F.2.1 dX19_carry_33 (lv_at hl 0 rfl) ?_
    refine lv_bipush (v := (8 : Int32)) F.1 F.2.1 dX19_carry_35 (by decide) ?_
    refine lv_idiv F.1 F.2.1 dX19_carry_37 (by decide) ?_
    refine lv_bipush (v := (8 : Int32)) F.1 F.2.1 dX19_carry_38 (by decide) ?_
    refine lv_imul F.1 F.2.1 dX19_carry_40 ?_
    refine lv_topi (fun v9 ev9 => ?_)
    replace h := zl_sub ev9 h
    refine lv_istore (lv' := [(5, .int v9), (4, .int v3), (0, .ref (B 19 x0)), (1, .ref (B 18 x1)), (2, .int x2), (3, .int x3)]) F.1 F.2.1 dX19_carry_41 hl (by decide) rfl (fun ls hl => ?_)
    refine lv_aload_n F.1 F.2.1 dX19_carry_43 rfl (lv_at hl 2 rfl) ?_
    refine lv_iload_n F.1 F.2.1 dX19_carry_44 rfl (lv_at hl 5 rfl) ?_
    refine lv_iconst (v := (5 : Int32)) F.1 F.2.1 dX19_carry_45 (by decide) ?_
    replace h := zc_some h
    obtain ⟨r10, z11, hc12, h⟩ := h
    refine zr_calli (zrun_V (As := [.int x3, .int (5 : Int32)]) (rest := []) zq_2549 zq_2551 zs_X19_of zq_2552 zq_4 hdX19_of (by decide) (T := TX19) (N := 32) rfl (okX19_of l D cy B ids hst N x0 hx0 x3  (5 : Int32)  hr.2.2 hc12) F hr hx0 hl.1 rfl (by decide) dX19_carry_46 rfl rfl hroX19_carry_X19_of ⟨Nat.zero_le _, Nat.zero_le _⟩) F hA hr (fun H locs hw13 hr => ?_)
    clear hc12
    refine lv_istore (lv' := [(6, .int r10), (5, .int v9), (4, .int v3), (0, .ref (B 19 x0)), (1, .ref (B 18 x1)), (2, .int x2), (3, .int x3)]) F.1 F.2.1 dX19_carry_49 hl (by decide) rfl (fun ls hl => ?_)
    refine lv_iconst (v := (0 : Int32)) F.1 F.2.1 dX19_carry_51 (by decide) ?_
    refine lv_istore (lv' := [(7, .int (0 : Int32)), (6, .int r10), (5, .int v9), (4, .int v3), (0, .ref (B 19 x0)), (1, .ref (B 18 x1)), (2, .int x2), (3, .int x3)]) F.1 F.2.1 dX19_carry_52 hl (by decide) rfl (fun ls hl => ?_)
    exact lX19_carry_54 hst F hA E  _ x0 x1 x2 x3 v9 r10 (0 : Int32) hx0 hx1 hr (lv_sub hl [4, 5, 6, 7, 2, 1, 0] rfl) h
  · replace h := zi_f c8 h
    refine lv_aload_n F.1 F.2.1 dX19_carry_23 rfl (lv_at hl 1 rfl) ?_
    refine lv_aload_n F.1 F.2.1 dX19_carry_24 rfl (lv_at hl 2 rfl) ?_
    refine lv_iload_n F.1 F.2.1 dX19_carry_25 rfl (lv_at hl 3 rfl) ?_
    refine lv_iconst (v := (2 : Int32)) F.1 F.2.1 dX19_carry_26 (by decide) ?_
    refine lv_iconst (v := (0 : Int32)) F.1 F.2.1 dX19_carry_27 (by decide) ?_
    refine lv_iload_n F.1 F.2.1 dX19_carry_28 rfl (lv_at hl 4 rfl) ?_
    replace h := zc_some h
    obtain ⟨r14, z15, hc16, h⟩ := h
    refine zr_callv (zrun_V (As := [.ref (B 18 x1), .int x2, .int (2 : Int32), .int (0 : Int32), .int x3]) (rest := []) zq_2611 zq_2613 zs_X19_put zq_2614 zq_4 hdX19_put (by decide) (T := TX19) (N := 32) rfl (okX19_put l D cy B ids hst N x0 hx0 x1 hx1 x2  (2 : Int32)  (0 : Int32)  x3  hr.2.2 hc16) F hr hx0 hl.1 rfl (by decide) dX19_carry_29 rfl rfl hroX19_carry_X19_put ⟨Nat.zero_le _, Nat.zero_le _⟩) F hA hr (fun H locs hw17 hr => ?_)
    clear hc16
    obtain ⟨rfl, rfl⟩ := zret h
    exact E _ _ _ _ dX19_carry_32 trivial hr
end SX19_carry
set_option maxRecDepth 100000 in
theorem okX19_carry (l : Launch) (D : va_G) (cy : Nat → ClassId) (B : Nat → Nat → Nat) (ids : List (Nat × Nat)) (hst : zSt B ids) (N : Nat) (x0 : Nat) (hx0 : (19, x0) ∈ ids) (x1 : Nat) (hx1 : (18, x1) ∈ ids) (x2 : Int32) (x3 : Int32) {z : St} {r : Int32} {z' : St} (hW : zWf ids z) (h : fX19_carry N x0 x1 x2 x3 z = some (r, z')) : zM l yX19_carry (zws yX19_carry cX19_carry 9 none) rmX19_carry D cy B ids [.ref (B 19 x0), .ref (B 18 x1), .int x2, .int x3] none True z z' :=
  zM_of hst hW (by decide +kernel) (Nat.le_of_ble_eq_true rfl) (fun p e s m args below meth c A ls F hA hret hlocks hr hl => bX19_carry_0 hst F hA (zEnd_v F hret hlocks) x0 x1 x2 x3 hx0 hx1 hr hl h)
