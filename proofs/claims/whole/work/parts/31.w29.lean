abbrev rmX19_neighbours : Room := { frames := 0, cells := 0, slots := 0, locals := 0 }
theorem hdX19_neighbours : yX19_neighbours.cls ≠ "java/lang/invoke/MethodHandle" ∧ yX19_neighbours.cls ≠ "java/lang/invoke/VarHandle" ∧ (parseMethodDescriptor yX19_neighbours.desc).map (fun d => d.parameters.length) = some 2 := by decide +kernel
section SX19_neighbours
variable {p : Program} {l : Launch} {e : Env} {s : State} {m : MethodId} {args : Array Value} {below : List Frame} {meth : Method} {c : Code} {Q : State → Prop} {D : va_G} {cy : Nat → ClassId} {B : Nat → Nat → Nat} {ids : List (Nat × Nat)} {A : Nat → Prop}
def fX19_neighbours_74 (N : Nat) (K2 : Nat → Int32 → Int32 → St → Option (Int32 × St)) (K150 : Nat → Int32 → Int32 → Nat → Int32 → St → Option (Int32 × St)) (x0 : Nat) (x1 : Int32) (x2 : Int32) (x3 : Option Nat) (s0 : Nat) (s1 : Int32) (z : St) : Option (Int32 × St) := zq (s1 = 0 ∨ s1 = 1) <| zl (zsI z 12 23 s0 s1) fun z1 => zd x3 fun a3 => zl (zgR z1 18 2 a3) fun y4 => zd y4 fun a5 => zq ((zgI z1 16 3 a5) = 0 ∨ (zgI z1 16 3 a5) = 1) <| zl (zsI z1 18 5 a3 (zgI z1 16 3 a5)) fun z6 => zl (x2 + 1) fun v8 => K2 x0 x1 v8 z6
set_option maxHeartbeats 4000000 in
set_option maxRecDepth 100000 in
theorem bX19_neighbours_74 (hst : zSt B ids) (F : zFx p m c cX19_neighbours 5 s args RX19 D cy B ids A) (hA : ∀ q : Nat, s.heap.size ≤ q → A q) {r : Int32} {z' : St} (E : zEnd p l e rmX19_neighbours s m args below meth c cX19_neighbours D cy B ids A Q none z' .return_ True) {N : Nat} {K2 : Nat → Int32 → Int32 → St → Option (Int32 × St)} {K150 : Nat → Int32 → Int32 → Nat → Int32 → St → Option (Int32 × St)} (hK2 : ∀ (x0 : Nat) (x1 : Int32) (x2 : Int32) (hx0 : (12, x0) ∈ ids) {z : St} {H : Heap} {locs : List Loc} {ls : Array Slot} (hr : zRep D cy B ids A s.heap z H locs) (hl : lv_has ls 5 [(0, .ref (B 12 x0)), (1, .int x1), (2, .int x2)]), K2 x0 x1 x2 z = some (r, z') → W p l e rmX19_neighbours s m args below meth c H locs 0 0 Q (F0 m 2 ls [])) (hK150 : ∀ (x0 : Nat) (x1 : Int32) (x2 : Int32) (x3 : Nat) (x4 : Int32) (hx0 : (12, x0) ∈ ids) (hx3 : (15, x3) ∈ ids) {z : St} {H : Heap} {locs : List Loc} {ls : Array Slot} (hr : zRep D cy B ids A s.heap z H locs) (hl : lv_has ls 5 [(0, .ref (B 12 x0)), (1, .int x1), (2, .int x2), (3, .ref (B 15 x3)), (4, .int x4)]), K150 x0 x1 x2 x3 x4 z = some (r, z') → W p l e rmX19_neighbours s m args below meth c H locs 0 0 Q (F0 m 150 ls [])) (x0 : Nat) (x1 : Int32) (x2 : Int32) (x3 : Option Nat) (s0 : Nat) (s1 : Int32) (hx0 : (12, x0) ∈ ids) (hx3 : ∀ t, x3 = some t → (18, t) ∈ ids) (hs0 : (12, s0) ∈ ids) {z : St} {H : Heap} {locs : List Loc} {ls : Array Slot} (hr : zRep D cy B ids A s.heap z H locs) (hl : lv_has ls 5 [(0, .ref (B 12 x0)), (1, .int x1), (2, .int x2), (3, va_rf (Option.map (B 18) x3))]) (h : fX19_neighbours_74 N K2 K150 x0 x1 x2 x3 s0 s1 z = some (r, z')) : W p l e rmX19_neighbours s m args below meth c H locs 0 0 Q (F0 m 74 ls [.int s1, .ref (B 12 s0)]) := by
  unfold fX19_neighbours_74 at h
  obtain ⟨c2, h⟩ := zq_some h
  refine pf19_489 F hs0 hr dX19_neighbours_74 s1 c2 (fun H locs z1 ez1 hr => ?_)
  replace h := zl_sub ez1 h
  clear ez1
  refine zr_aload_n F.1 F.2.1 dX19_neighbours_77 rfl (lv_at hl 3 rfl) ?_
  refine zr_aload_n F.1 F.2.1 dX19_neighbours_78 rfl (lv_at hl 3 rfl) ?_
  obtain ⟨a3, rfl, h⟩ := zd_some h
  refine gf19_149 F (hx3 _ rfl) hr dX19_neighbours_79 (fun y4 ey4 => ?_)
  replace h := zl_sub ey4 h
  have hy4 := zal_g hr (hx3 _ rfl) (j := 2) rfl ey4
  clear ey4
  obtain ⟨a5, rfl, h⟩ := zd_some h
  refine gf19_158 F (hy4 _ rfl) hr dX19_neighbours_82 ?_
  obtain ⟨c7, h⟩ := zq_some h
  refine pf19_479 F (hx3 _ rfl) hr dX19_neighbours_85 (zgI z1 16 3 a5) c7 (fun H locs z6 ez6 hr => ?_)
  replace h := zl_sub ez6 h
  clear ez6
  obtain ⟨v8, ev8⟩ : ∃ y : Int32, y = (x2 + 1) := ⟨_, rfl⟩
  replace h := zl_sub ev8 h
  refine lv_iinc (v := v8) (lv' := [(2, .int v8), (0, .ref (B 12 x0)), (1, .int x1), (3, .ref (B 18 a3))]) F.1 F.2.1 dX19_neighbours_88 hl (k := 2) rfl (by rw [ev8]; rfl) (by decide) rfl (fun ls hl => ?_)
  refine lv_goto (tgt := 2) F.1 F.2.1 dX19_neighbours_91 (by decide) ?_
  exact hK2 x0 x1 v8 hx0 hr (lv_sub hl [1, 2, 0] rfl) h
def fX19_neighbours_69 (N : Nat) (K2 : Nat → Int32 → Int32 → St → Option (Int32 × St)) (K150 : Nat → Int32 → Int32 → Nat → Int32 → St → Option (Int32 × St)) (x0 : Nat) (x1 : Int32) (x2 : Int32) (x3 : Option Nat) (s0 : Nat) (z : St) : Option (Int32 × St) := fX19_neighbours_74 N K2 K150 x0 x1 x2 x3 s0 (1) z
set_option maxHeartbeats 4000000 in
set_option maxRecDepth 100000 in
theorem bX19_neighbours_69 (hst : zSt B ids) (F : zFx p m c cX19_neighbours 5 s args RX19 D cy B ids A) (hA : ∀ q : Nat, s.heap.size ≤ q → A q) {r : Int32} {z' : St} (E : zEnd p l e rmX19_neighbours s m args below meth c cX19_neighbours D cy B ids A Q none z' .return_ True) {N : Nat} {K2 : Nat → Int32 → Int32 → St → Option (Int32 × St)} {K150 : Nat → Int32 → Int32 → Nat → Int32 → St → Option (Int32 × St)} (hK2 : ∀ (x0 : Nat) (x1 : Int32) (x2 : Int32) (hx0 : (12, x0) ∈ ids) {z : St} {H : Heap} {locs : List Loc} {ls : Array Slot} (hr : zRep D cy B ids A s.heap z H locs) (hl : lv_has ls 5 [(0, .ref (B 12 x0)), (1, .int x1), (2, .int x2)]), K2 x0 x1 x2 z = some (r, z') → W p l e rmX19_neighbours s m args below meth c H locs 0 0 Q (F0 m 2 ls [])) (hK150 : ∀ (x0 : Nat) (x1 : Int32) (x2 : Int32) (x3 : Nat) (x4 : Int32) (hx0 : (12, x0) ∈ ids) (hx3 : (15, x3) ∈ ids) {z : St} {H : Heap} {locs : List Loc} {ls : Array Slot} (hr : zRep D cy B ids A s.heap z H locs) (hl : lv_has ls 5 [(0, .ref (B 12 x0)), (1, .int x1), (2, .int x2), (3, .ref (B 15 x3)), (4, .int x4)]), K150 x0 x1 x2 x3 x4 z = some (r, z') → W p l e rmX19_neighbours s m args below meth c H locs 0 0 Q (F0 m 150 ls [])) (x0 : Nat) (x1 : Int32) (x2 : Int32) (x3 : Option Nat) (s0 : Nat) (hx0 : (12, x0) ∈ ids) (hx3 : ∀ t, x3 = some t → (18, t) ∈ ids) (hs0 : (12, s0) ∈ ids) {z : St} {H : Heap} {locs : List Loc} {ls : Array Slot} (hr : zRep D cy B ids A s.heap z H locs) (hl : lv_has ls 5 [(0, .ref (B 12 x0)), (1, .int x1), (2, .int x2), (3, va_rf (Option.map (B 18) x3))]) (h : fX19_neighbours_69 N K2 K150 x0 x1 x2 x3 s0 z = some (r, z')) : W p l e rmX19_neighbours s m args below meth c H locs 0 0 Q (F0 m 69 ls [.ref (B 12 s0)]) := by
  unfold fX19_neighbours_69 at h
  refine lv_iconst (v := (1)) F.1 F.2.1 dX19_neighbours_69 (by decide) ?_
  refine lv_goto (tgt := 74) F.1 F.2.1 dX19_neighbours_70 (by decide) ?_
  exact bX19_neighbours_74 hst F hA E hK2 hK150 x0 x1 x2 x3 s0 (1) hx0 hx3 hs0 hr (lv_sub hl [0, 1, 2, 3] rfl) h
def fX19_neighbours_44 (N : Nat) (K2 : Nat → Int32 → Int32 → St → Option (Int32 × St)) (K150 : Nat → Int32 → Int32 → Nat → Int32 → St → Option (Int32 × St)) (x0 : Nat) (x1 : Int32) (x2 : Int32) (x3 : Option Nat) (s0 : Nat) (s1 : Int32) (z : St) : Option (Int32 × St) := zq (s1 = 0 ∨ s1 = 1) <| zl (zsI z 12 24 s0 s1) fun z1 => if ¬ (zgI z1 12 23 x0) = 0 then (fX19_neighbours_69 N K2 K150 x0 x1 x2 x3 x0 z1) else (zd x3 fun a4 => zl (zgR z1 18 2 a4) fun y5 => zd y5 fun a6 => if (zgI z1 18 5 a4) = (zgI z1 16 3 a6) then (fX19_neighbours_74 N K2 K150 x0 x1 x2 (some a4) x0 (0) z1) else (fX19_neighbours_69 N K2 K150 x0 x1 x2 (some a4) x0 z1))
set_option maxHeartbeats 4000000 in
set_option maxRecDepth 100000 in
theorem bX19_neighbours_44 (hst : zSt B ids) (F : zFx p m c cX19_neighbours 5 s args RX19 D cy B ids A) (hA : ∀ q : Nat, s.heap.size ≤ q → A q) {r : Int32} {z' : St} (E : zEnd p l e rmX19_neighbours s m args below meth c cX19_neighbours D cy B ids A Q none z' .return_ True) {N : Nat} {K2 : Nat → Int32 → Int32 → St → Option (Int32 × St)} {K150 : Nat → Int32 → Int32 → Nat → Int32 → St → Option (Int32 × St)} (hK2 : ∀ (x0 : Nat) (x1 : Int32) (x2 : Int32) (hx0 : (12, x0) ∈ ids) {z : St} {H : Heap} {locs : List Loc} {ls : Array Slot} (hr : zRep D cy B ids A s.heap z H locs) (hl : lv_has ls 5 [(0, .ref (B 12 x0)), (1, .int x1), (2, .int x2)]), K2 x0 x1 x2 z = some (r, z') → W p l e rmX19_neighbours s m args below meth c H locs 0 0 Q (F0 m 2 ls [])) (hK150 : ∀ (x0 : Nat) (x1 : Int32) (x2 : Int32) (x3 : Nat) (x4 : Int32) (hx0 : (12, x0) ∈ ids) (hx3 : (15, x3) ∈ ids) {z : St} {H : Heap} {locs : List Loc} {ls : Array Slot} (hr : zRep D cy B ids A s.heap z H locs) (hl : lv_has ls 5 [(0, .ref (B 12 x0)), (1, .int x1), (2, .int x2), (3, .ref (B 15 x3)), (4, .int x4)]), K150 x0 x1 x2 x3 x4 z = some (r, z') → W p l e rmX19_neighbours s m args below meth c H locs 0 0 Q (F0 m 150 ls [])) (x0 : Nat) (x1 : Int32) (x2 : Int32) (x3 : Option Nat) (s0 : Nat) (s1 : Int32) (hx0 : (12, x0) ∈ ids) (hx3 : ∀ t, x3 = some t → (18, t) ∈ ids) (hs0 : (12, s0) ∈ ids) {z : St} {H : Heap} {locs : List Loc} {ls : Array Slot} (hr : zRep D cy B ids A s.heap z H locs) (hl : lv_has ls 5 [(0, .ref (B 12 x0)), (1, .int x1), (2, .int x2), (3, va_rf (Option.map (B 18) x3))]) (h : fX19_neighbours_44 N K2 K150 x0 x1 x2 x3 s0 s1 z = some (r, z')) : W p l e rmX19_neighbours s m args below meth c H locs 0 0 Q (F0 m 44 ls [.int s1, .ref (B 12 s0)]) := by
  unfold fX19_neighbours_44 at h
  obtain ⟨c2, h⟩ := zq_some h
  refine pf19_486 F hs0 hr dX19_neighbours_44 s1 c2 (fun H locs z1 ez1 hr => ?_)
  replace h := zl_sub ez1 h
  clear ez1
  refine lv_aload_n F.1 F.2.1 dX19_neighbours_47 rfl (lv_at hl 0 rfl) ?_
  refine lv_aload_n F.1 F.2.1 dX19_neighbours_48 rfl (lv_at hl 0 rfl) ?_
  refine gf19_489 F hx0 hr dX19_neighbours_49 ?_
  refine lv_if_ne (tgt := 69) F.1 F.2.1 dX19_neighbours_52 (by decide) (fun c3 => ?_) (fun c3 => ?_)
  · replace h := zi_t c3 h
    exact bX19_neighbours_69 hst F hA E hK2 hK150 x0 x1 x2 x3 x0 hx0 hx3 hx0 hr (lv_sub hl [0, 1, 2, 3] rfl) h
  · replace h := zi_f (fun q => q c3) h
    refine zr_aload_n F.1 F.2.1 dX19_neighbours_55 rfl (lv_at hl 3 rfl) ?_
    obtain ⟨a4, rfl, h⟩ := zd_some h
    refine gf19_479 F (hx3 _ rfl) hr dX19_neighbours_56 ?_
    refine lv_aload_n F.1 F.2.1 dX19_neighbours_59 rfl (lv_at hl 3 rfl) ?_
    refine gf19_149 F (hx3 _ rfl) hr dX19_neighbours_60 (fun y5 ey5 => ?_)
    replace h := zl_sub ey5 h
    have hy5 := zal_g hr (hx3 _ rfl) (j := 2) rfl ey5
    clear ey5
    obtain ⟨a6, rfl, h⟩ := zd_some h
    refine gf19_158 F (hy5 _ rfl) hr dX19_neighbours_63 ?_
    refine lv_icmp_eq (tgt := 73) F.1 F.2.1 dX19_neighbours_66 (by decide) (fun c7 => ?_) (fun c7 => ?_)
    · replace h := zi_t c7 h
      refine lv_iconst (v := (0)) F.1 F.2.1 dX19_neighbours_73 (by decide) ?_
      exact bX19_neighbours_74 hst F hA E hK2 hK150 x0 x1 x2 (some a4) x0 (0) hx0 (zal_s (hx3 _ rfl)) hx0 hr (lv_sub hl [0, 1, 2, 3] rfl) h
    · replace h := zi_f c7 h
      exact bX19_neighbours_69 hst F hA E hK2 hK150 x0 x1 x2 (some a4) x0 hx0 (zal_s (hx3 _ rfl)) hx0 hr (lv_sub hl [0, 1, 2, 3] rfl) h
def fX19_neighbours_39 (N : Nat) (K2 : Nat → Int32 → Int32 → St → Option (Int32 × St)) (K150 : Nat → Int32 → Int32 → Nat → Int32 → St → Option (Int32 × St)) (x0 : Nat) (x1 : Int32) (x2 : Int32) (x3 : Option Nat) (s0 : Nat) (z : St) : Option (Int32 × St) := fX19_neighbours_44 N K2 K150 x0 x1 x2 x3 s0 (1) z
set_option maxHeartbeats 4000000 in
set_option maxRecDepth 100000 in
theorem bX19_neighbours_39 (hst : zSt B ids) (F : zFx p m c cX19_neighbours 5 s args RX19 D cy B ids A) (hA : ∀ q : Nat, s.heap.size ≤ q → A q) {r : Int32} {z' : St} (E : zEnd p l e rmX19_neighbours s m args below meth c cX19_neighbours D cy B ids A Q none z' .return_ True) {N : Nat} {K2 : Nat → Int32 → Int32 → St → Option (Int32 × St)} {K150 : Nat → Int32 → Int32 → Nat → Int32 → St → Option (Int32 × St)} (hK2 : ∀ (x0 : Nat) (x1 : Int32) (x2 : Int32) (hx0 : (12, x0) ∈ ids) {z : St} {H : Heap} {locs : List Loc} {ls : Array Slot} (hr : zRep D cy B ids A s.heap z H locs) (hl : lv_has ls 5 [(0, .ref (B 12 x0)), (1, .int x1), (2, .int x2)]), K2 x0 x1 x2 z = some (r, z') → W p l e rmX19_neighbours s m args below meth c H locs 0 0 Q (F0 m 2 ls [])) (hK150 : ∀ (x0 : Nat) (x1 : Int32) (x2 : Int32) (x3 : Nat) (x4 : Int32) (hx0 : (12, x0) ∈ ids) (hx3 : (15, x3) ∈ ids) {z : St} {H : Heap} {locs : List Loc} {ls : Array Slot} (hr : zRep D cy B ids A s.heap z H locs) (hl : lv_has ls 5 [(0, .ref (B 12 x0)), (1, .int x1), (2, .int x2), (3, .ref (B 15 x3)), (4, .int x4)]), K150 x0 x1 x2 x3 x4 z = some (r, z') → W p l e rmX19_neighbours s m args below meth c H locs 0 0 Q (F0 m 150 ls [])) (x0 : Nat) (x1 : Int32) (x2 : Int32) (x3 : Option Nat) (s0 : Nat) (hx0 : (12, x0) ∈ ids) (hx3 : ∀ t, x3 = some t → (18, t) ∈ ids) (hs0 : (12, s0) ∈ ids) {z : St} {H : Heap} {locs : List Loc} {ls : Array Slot} (hr : zRep D cy B ids A s.heap z H locs) (hl : lv_has ls 5 [(0, .ref (B 12 x0)), (1, .int x1), (2, .int x2), (3, va_rf (Option.map (B 18) x3))]) (h : fX19_neighbours_39 N K2 K150 x0 x1 x2 x3 s0 z = some (r, z')) : W p l e rmX19_neighbours s m args below meth c H locs 0 0 Q (F0 m 39 ls [.ref (B 12 s0)]) := by
  unfold fX19_neighbours_39 at h
  refine lv_iconst (v := (1)) F.1 F.2.1 dX19_neighbours_39 (by decide) ?_
  refine lv_goto (tgt := 44) F.1 F.2.1 dX19_neighbours_40 (by decide) ?_
  exact bX19_neighbours_44 hst F hA E hK2 hK150 x0 x1 x2 x3 s0 (1) hx0 hx3 hs0 hr (lv_sub hl [0, 1, 2, 3] rfl) h
def fX19_neighbours_137 (N : Nat) (K96 : Nat → Int32 → Int32 → St → Option (Int32 × St)) (K150 : Nat → Int32 → Int32 → Nat → Int32 → St → Option (Int32 × St)) (x0 : Nat) (x1 : Int32) (x2 : Int32) (x3 : Nat) (z : St) : Option (Int32 × St) := zl (zsI z 12 13 x0 ((zgI z 12 13 x0) - (1))) fun z1 => K150 x0 x1 x2 x3 x2 z1
set_option maxHeartbeats 4000000 in
set_option maxRecDepth 100000 in
theorem bX19_neighbours_137 (hst : zSt B ids) (F : zFx p m c cX19_neighbours 5 s args RX19 D cy B ids A) (hA : ∀ q : Nat, s.heap.size ≤ q → A q) {r : Int32} {z' : St} (E : zEnd p l e rmX19_neighbours s m args below meth c cX19_neighbours D cy B ids A Q none z' .return_ True) {N : Nat} {K96 : Nat → Int32 → Int32 → St → Option (Int32 × St)} {K150 : Nat → Int32 → Int32 → Nat → Int32 → St → Option (Int32 × St)} (hK96 : ∀ (x0 : Nat) (x1 : Int32) (x2 : Int32) (hx0 : (12, x0) ∈ ids) {z : St} {H : Heap} {locs : List Loc} {ls : Array Slot} (hr : zRep D cy B ids A s.heap z H locs) (hl : lv_has ls 5 [(0, .ref (B 12 x0)), (1, .int x1), (2, .int x2)]), K96 x0 x1 x2 z = some (r, z') → W p l e rmX19_neighbours s m args below meth c H locs 0 0 Q (F0 m 96 ls [])) (hK150 : ∀ (x0 : Nat) (x1 : Int32) (x2 : Int32) (x3 : Nat) (x4 : Int32) (hx0 : (12, x0) ∈ ids) (hx3 : (15, x3) ∈ ids) {z : St} {H : Heap} {locs : List Loc} {ls : Array Slot} (hr : zRep D cy B ids A s.heap z H locs) (hl : lv_has ls 5 [(0, .ref (B 12 x0)), (1, .int x1), (2, .int x2), (3, .ref (B 15 x3)), (4, .int x4)]), K150 x0 x1 x2 x3 x4 z = some (r, z') → W p l e rmX19_neighbours s m args below meth c H locs 0 0 Q (F0 m 150 ls [])) (x0 : Nat) (x1 : Int32) (x2 : Int32) (x3 : Nat) (hx0 : (12, x0) ∈ ids) (hx3 : (15, x3) ∈ ids) {z : St} {H : Heap} {locs : List Loc} {ls : Array Slot} (hr : zRep D cy B ids A s.heap z H locs) (hl : lv_has ls 5 [(0, .ref (B 12 x0)), (1, .int x1), (2, .int x2), (3, .ref (B 15 x3))]) (h : fX19_neighbours_137 N K96 K150 x0 x1 x2 x3 z = some (r, z')) : W p l e rmX19_neighbours s m args below meth c H locs 0 0 Q (F0 m 137 ls []) := by
  unfold fX19_neighbours_137 at h
  refine lv_aload_n F.1 F.2.1 dX19_neighbours_137 rfl (lv_at hl 0 rfl) ?_
  refine lv_dup F.1 F.2.1 dX19_neighbours_138 rfl ?_
  refine gf19_457 F hx0 hr dX19_neighbours_139 ?_
  refine lv_iconst (v := (1)) F.1 F.2.1 dX19_neighbours_142 (by decide) ?_
  refine lv_isub F.1 F.2.1 dX19_neighbours_143 ?_
  refine pf19_457 F hx0 hr dX19_neighbours_144 ((zgI z 12 13 x0) - (1)) (fun H locs z1 ez1 hr => ?_)
  replace h := zl_sub ez1 h
  clear ez1
  refine lv_iload_n F.1 F.2.1 dX19_neighbours_147 rfl (lv_at hl 2 rfl) ?_
  refine lv_istore (lv' := [(4, .int x2), (0, .ref (B 12 x0)), (1, .int x1), (2, .int x2), (3, .ref (B 15 x3))]) F.1 F.2.1 dX19_neighbours_148 hl (by decide) rfl (fun ls hl => ?_)
  exact hK150 x0 x1 x2 x3 x2 hx0 hx3 hr (lv_sub hl [1, 2, 3, 4, 0] rfl) h
def fX19_neighbours_202 (N : Nat) (K96 : Nat → Int32 → Int32 → St → Option (Int32 × St)) (K150 : Nat → Int32 → Int32 → Nat → Int32 → St → Option (Int32 × St)) (x0 : Nat) (x1 : Int32) (x2 : Int32) (z : St) : Option (Int32 × St) := K96 x0 x1 x2 z
set_option maxHeartbeats 4000000 in
set_option maxRecDepth 100000 in
theorem bX19_neighbours_202 (hst : zSt B ids) (F : zFx p m c cX19_neighbours 5 s args RX19 D cy B ids A) (hA : ∀ q : Nat, s.heap.size ≤ q → A q) {r : Int32} {z' : St} (E : zEnd p l e rmX19_neighbours s m args below meth c cX19_neighbours D cy B ids A Q none z' .return_ True) {N : Nat} {K96 : Nat → Int32 → Int32 → St → Option (Int32 × St)} {K150 : Nat → Int32 → Int32 → Nat → Int32 → St → Option (Int32 × St)} (hK96 : ∀ (x0 : Nat) (x1 : Int32) (x2 : Int32) (hx0 : (12, x0) ∈ ids) {z : St} {H : Heap} {locs : List Loc} {ls : Array Slot} (hr : zRep D cy B ids A s.heap z H locs) (hl : lv_has ls 5 [(0, .ref (B 12 x0)), (1, .int x1), (2, .int x2)]), K96 x0 x1 x2 z = some (r, z') → W p l e rmX19_neighbours s m args below meth c H locs 0 0 Q (F0 m 96 ls [])) (hK150 : ∀ (x0 : Nat) (x1 : Int32) (x2 : Int32) (x3 : Nat) (x4 : Int32) (hx0 : (12, x0) ∈ ids) (hx3 : (15, x3) ∈ ids) {z : St} {H : Heap} {locs : List Loc} {ls : Array Slot} (hr : zRep D cy B ids A s.heap z H locs) (hl : lv_has ls 5 [(0, .ref (B 12 x0)), (1, .int x1), (2, .int x2), (3, .ref (B 15 x3)), (4, .int x4)]), K150 x0 x1 x2 x3 x4 z = some (r, z') → W p l e rmX19_neighbours s m args below meth c H locs 0 0 Q (F0 m 150 ls [])) (x0 : Nat) (x1 : Int32) (x2 : Int32) (hx0 : (12, x0) ∈ ids) {z : St} {H : Heap} {locs : List Loc} {ls : Array Slot} (hr : zRep D cy B ids A s.heap z H locs) (hl : lv_has ls 5 [(0, .ref (B 12 x0)), (1, .int x1), (2, .int x2)]) (h : fX19_neighbours_202 N K96 K150 x0 x1 x2 z = some (r, z')) : W p l e rmX19_neighbours s m args below meth c H locs 0 0 Q (F0 m 202 ls []) := by
  unfold fX19_neighbours_202 at h
  refine lv_goto (tgt := 96) F.1 F.2.1 dX19_neighbours_202 (by decide) ?_
  exact hK96 x0 x1 x2 hx0 hr (lv_sub hl [0, 1, 2] rfl) h
def fX19_neighbours_96b (N : Nat) (K96 : Nat → Int32 → Int32 → St → Option (Int32 × St)) (K150 : Nat → Int32 → Int32 → Nat → Int32 → St → Option (Int32 × St)) (x0 : Nat) (x1 : Int32) (x2 : Int32) (z : St) : Option (Int32 × St) := if (zgI z 12 13 x0) ≤ x2 then (some (0, z)) else (zk x2 16 <| zl (zgQ z 149 x0 x2.toNatClampNeg) fun y3 => zd y3 fun a4 => zk (zgI z 15 0 a4) 6 <| zl (zgQ z 147 x0 (zgI z 15 0 a4).toNatClampNeg) fun y6 => zd y6 fun a7 => if (zgI z 18 5 a7) = 0 then (fX19_neighbours_137 N K96 K150 x0 x1 x2 a4 z) else (if (x1 - (zgI z 15 2 a4)) < (80) then (zl (x2 + 1) fun v10 => fX19_neighbours_202 N K96 K150 x0 x1 v10 z) else (fX19_neighbours_137 N K96 K150 x0 x1 x2 a4 z)))
def fX19_neighbours_96 (N : Nat) (K150 : Nat → Int32 → Int32 → Nat → Int32 → St → Option (Int32 × St)) : Nat → Nat → Int32 → Int32 → St → Option (Int32 × St)
  | 0 => fun _ _ _ _ => none
  | n + 1 => fX19_neighbours_96b N (fX19_neighbours_96 N K150 n) K150
set_option maxHeartbeats 4000000 in
set_option maxRecDepth 100000 in
theorem bX19_neighbours_96 (hst : zSt B ids) (F : zFx p m c cX19_neighbours 5 s args RX19 D cy B ids A) (hA : ∀ q : Nat, s.heap.size ≤ q → A q) {r : Int32} {z' : St} (E : zEnd p l e rmX19_neighbours s m args below meth c cX19_neighbours D cy B ids A Q none z' .return_ True) {N : Nat} {K96 : Nat → Int32 → Int32 → St → Option (Int32 × St)} {K150 : Nat → Int32 → Int32 → Nat → Int32 → St → Option (Int32 × St)} (hK96 : ∀ (x0 : Nat) (x1 : Int32) (x2 : Int32) (hx0 : (12, x0) ∈ ids) {z : St} {H : Heap} {locs : List Loc} {ls : Array Slot} (hr : zRep D cy B ids A s.heap z H locs) (hl : lv_has ls 5 [(0, .ref (B 12 x0)), (1, .int x1), (2, .int x2)]), K96 x0 x1 x2 z = some (r, z') → W p l e rmX19_neighbours s m args below meth c H locs 0 0 Q (F0 m 96 ls [])) (hK150 : ∀ (x0 : Nat) (x1 : Int32) (x2 : Int32) (x3 : Nat) (x4 : Int32) (hx0 : (12, x0) ∈ ids) (hx3 : (15, x3) ∈ ids) {z : St} {H : Heap} {locs : List Loc} {ls : Array Slot} (hr : zRep D cy B ids A s.heap z H locs) (hl : lv_has ls 5 [(0, .ref (B 12 x0)), (1, .int x1), (2, .int x2), (3, .ref (B 15 x3)), (4, .int x4)]), K150 x0 x1 x2 x3 x4 z = some (r, z') → W p l e rmX19_neighbours s m args below meth c H locs 0 0 Q (F0 m 150 ls [])) (x0 : Nat) (x1 : Int32) (x2 : Int32) (hx0 : (12, x0) ∈ ids) {z : St} {H : Heap} {locs : List Loc} {ls : Array Slot} (hr : zRep D cy B ids A s.heap z H locs) (hl : lv_has ls 5 [(0, .ref (B 12 x0)), (1, .int x1), (2, .int x2)]) (h : fX19_neighbours_96b N K96 K150 x0 x1 x2 z = some (r, z')) : W p l e rmX19_neighbours s m args below meth c H locs 0 0 Q (F0 m 96 ls []) := by
  unfold fX19_neighbours_96b at h
  refine lv_iload_n F.1 F.2.1 dX19_neighbours_96 rfl (lv_at hl 2 rfl) ?_
  refine lv_aload_n F.1 F.2.1 dX19_neighbours_97 rfl (lv_at hl 0 rfl) ?_
  refine gf19_457 F hx0 hr dX19_neighbours_98 ?_
  refine lv_icmp_ge (tgt := 205) F.1 F.2.1 dX19_neighbours_101 (by decide) (fun c1 => ?_) (fun c1 => ?_)
  · replace h := zi_t c1 h
    obtain ⟨rfl, rfl⟩ := zret h
    exact E _ _ _ _ dX19_neighbours_205 trivial hr
  · replace h := zi_f c1 h
    refine lv_aload_n F.1 F.2.1 dX19_neighbours_104 rfl (lv_at hl 0 rfl) ?_
    refine gf19_460 F hx0 hr dX19_neighbours_105 ?_
    refine lv_iload_n F.1 F.2.1 dX19_neighbours_108 rfl (lv_at hl 2 rfl) ?_
    obtain ⟨c2, h⟩ := zk_some h
    refine zr_aaldv (k := 149) (by decide) rfl rfl (zlen_d (by decide)) F (zal_a F hx0 (j := 12) rfl) hr dX19_neighbours_109 c2 (fun y3 ey3 => ?_)
    replace h := zl_sub ey3 h
    have hy3 := zal_q hr (zal_a F hx0 (j := 12) rfl) rfl ey3
    clear ey3
    refine zr_astore_n (lv' := [(3, va_rf (Option.map (B 15) y3)), (0, .ref (B 12 x0)), (1, .int x1), (2, .int x2)]) F.1 F.2.1 dX19_neighbours_110 rfl hl (by decide) rfl (fun ls hl => ?_)
    refine lv_aload_n F.1 F.2.1 dX19_neighbours_111 rfl (lv_at hl 1 rfl) ?_
    refine gf19_276 F hx0 hr dX19_neighbours_112 ?_
    refine zr_aload_n F.1 F.2.1 dX19_neighbours_115 rfl (lv_at hl 0 rfl) ?_
    obtain ⟨a4, rfl, h⟩ := zd_some h
    refine gf19_464 F (hy3 _ rfl) hr dX19_neighbours_116 ?_
    obtain ⟨c5, h⟩ := zk_some h
    refine zr_aaldv (k := 147) (by decide) rfl rfl (zlen_d (by decide)) F (zal_a F hx0 (j := 2) rfl) hr dX19_neighbours_119 c5 (fun y6 ey6 => ?_)
    replace h := zl_sub ey6 h
    have hy6 := zal_q hr (zal_a F hx0 (j := 2) rfl) rfl ey6
    clear ey6
    obtain ⟨a7, rfl, h⟩ := zd_some h
    refine gf19_479 F (hy6 _ rfl) hr dX19_neighbours_120 ?_
    refine lv_if_eq (tgt := 137) F.1 F.2.1 dX19_neighbours_123 (by decide) (fun c8 => ?_) (fun c8 => ?_)
    · replace h := zi_t c8 h
      exact bX19_neighbours_137 hst F hA E hK96 hK150 x0 x1 x2 a4 hx0 (hy3 _ rfl) hr (lv_sub hl [1, 2, 3, 0] rfl) h
    · replace h := zi_f c8 h
      refine lv_iload_n F.1 F.2.1 dX19_neighbours_126 rfl (lv_at hl 2 rfl) ?_
      refine lv_aload_n F.1 F.2.1 dX19_neighbours_127 rfl (lv_at hl 0 rfl) ?_
      refine gf19_483 F (hy3 _ rfl) hr dX19_neighbours_128 ?_
      refine lv_isub F.1 F.2.1 dX19_neighbours_131 ?_
      refine lv_bipush (v := (80)) F.1 F.2.1 dX19_neighbours_132 (by decide) ?_
      refine lv_icmp_lt (tgt := 199) F.1 F.2.1 dX19_neighbours_134 (by decide) (fun c9 => ?_) (fun c9 => ?_)
      · replace h := zi_t c9 h
        obtain ⟨v10, ev10⟩ : ∃ y : Int32, y = (x2 + 1) := ⟨_, rfl⟩
        replace h := zl_sub ev10 h
        refine lv_iinc (v := v10) (lv' := [(2, .int v10), (3, .ref (B 15 a4)), (0, .ref (B 12 x0)), (1, .int x1)]) F.1 F.2.1 dX19_neighbours_199 hl (k := 3) rfl (by rw [ev10]; rfl) (by decide) rfl (fun ls hl => ?_)
        exact bX19_neighbours_202 hst F hA E hK96 hK150 x0 x1 v10 hx0 hr (lv_sub hl [2, 3, 0] rfl) h
      · replace h := zi_f c9 h
        exact bX19_neighbours_137 hst F hA E hK96 hK150 x0 x1 x2 a4 hx0 (hy3 _ rfl) hr (lv_sub hl [1, 2, 3, 0] rfl) h
theorem lX19_neighbours_96 (hst : zSt B ids) (F : zFx p m c cX19_neighbours 5 s args RX19 D cy B ids A) (hA : ∀ q : Nat, s.heap.size ≤ q → A q) {r : Int32} {z' : St} (E : zEnd p l e rmX19_neighbours s m args below meth c cX19_neighbours D cy B ids A Q none z' .return_ True) {N : Nat} {K150 : Nat → Int32 → Int32 → Nat → Int32 → St → Option (Int32 × St)} (hK150 : ∀ (x0 : Nat) (x1 : Int32) (x2 : Int32) (x3 : Nat) (x4 : Int32) (hx0 : (12, x0) ∈ ids) (hx3 : (15, x3) ∈ ids) {z : St} {H : Heap} {locs : List Loc} {ls : Array Slot} (hr : zRep D cy B ids A s.heap z H locs) (hl : lv_has ls 5 [(0, .ref (B 12 x0)), (1, .int x1), (2, .int x2), (3, .ref (B 15 x3)), (4, .int x4)]), K150 x0 x1 x2 x3 x4 z = some (r, z') → W p l e rmX19_neighbours s m args below meth c H locs 0 0 Q (F0 m 150 ls [])) : ∀ (n : Nat) (x0 : Nat) (x1 : Int32) (x2 : Int32) (hx0 : (12, x0) ∈ ids) {z : St} {H : Heap} {locs : List Loc} {ls : Array Slot} (hr : zRep D cy B ids A s.heap z H locs) (hl : lv_has ls 5 [(0, .ref (B 12 x0)), (1, .int x1), (2, .int x2)]), fX19_neighbours_96 N K150 n x0 x1 x2 z = some (r, z') → W p l e rmX19_neighbours s m args below meth c H locs 0 0 Q (F0 m 96 ls []) := by
  intro n
  induction n with
  | zero => intro x0 x1 x2 hx0 z H locs ls hr hl h; cases h
  | succ n ih => intro x0 x1 x2 hx0 z H locs ls hr hl h; exact bX19_neighbours_96 hst F hA E ih hK150 x0 x1 x2 hx0 hr hl h
def fX19_neighbours_2b (N : Nat) (K2 : Nat → Int32 → Int32 → St → Option (Int32 × St)) (K150 : Nat → Int32 → Int32 → Nat → Int32 → St → Option (Int32 × St)) (x0 : Nat) (x1 : Int32) (x2 : Int32) (z : St) : Option (Int32 × St) := if (zgI z 12 3 x0) ≤ x2 then (fX19_neighbours_96 N K150 N x0 x1 (0) z) else (zk x2 6 <| zl (zgQ z 147 x0 x2.toNatClampNeg) fun y3 => if ¬ (zgI z 12 24 x0) = 0 then (fX19_neighbours_39 N K2 K150 x0 x1 x2 y3 x0 z) else (zd y3 fun a5 => zl (zgR z 18 2 a5) fun y6 => zd y6 fun a7 => if (zgI z 18 5 a5) = (zgI z 16 3 a7) then (fX19_neighbours_44 N K2 K150 x0 x1 x2 (some a5) x0 (0) z) else (fX19_neighbours_39 N K2 K150 x0 x1 x2 (some a5) x0 z)))
def fX19_neighbours_2 (N : Nat) (K150 : Nat → Int32 → Int32 → Nat → Int32 → St → Option (Int32 × St)) : Nat → Nat → Int32 → Int32 → St → Option (Int32 × St)
  | 0 => fun _ _ _ _ => none
  | n + 1 => fX19_neighbours_2b N (fX19_neighbours_2 N K150 n) K150
set_option maxHeartbeats 4000000 in
set_option maxRecDepth 100000 in
theorem bX19_neighbours_2 (hst : zSt B ids) (F : zFx p m c cX19_neighbours 5 s args RX19 D cy B ids A) (hA : ∀ q : Nat, s.heap.size ≤ q → A q) {r : Int32} {z' : St} (E : zEnd p l e rmX19_neighbours s m args below meth c cX19_neighbours D cy B ids A Q none z' .return_ True) {N : Nat} {K2 : Nat → Int32 → Int32 → St → Option (Int32 × St)} {K150 : Nat → Int32 → Int32 → Nat → Int32 → St → Option (Int32 × St)} (hK2 : ∀ (x0 : Nat) (x1 : Int32) (x2 : Int32) (hx0 : (12, x0) ∈ ids) {z : St} {H : Heap} {locs : List Loc} {ls : Array Slot} (hr : zRep D cy B ids A s.heap z H locs) (hl : lv_has ls 5 [(0, .ref (B 12 x0)), (1, .int x1), (2, .int x2)]), K2 x0 x1 x2 z = some (r, z') → W p l e rmX19_neighbours s m args below meth c H locs 0 0 Q (F0 m 2 ls [])) (hK150 : ∀ (x0 : Nat) (x1 : Int32) (x2 : Int32) (x3 : Nat) (x4 : Int32) (hx0 : (12, x0) ∈ ids) (hx3 : (15, x3) ∈ ids) {z : St} {H : Heap} {locs : List Loc} {ls : Array Slot} (hr : zRep D cy B ids A s.heap z H locs) (hl : lv_has ls 5 [(0, .ref (B 12 x0)), (1, .int x1), (2, .int x2), (3, .ref (B 15 x3)), (4, .int x4)]), K150 x0 x1 x2 x3 x4 z = some (r, z') → W p l e rmX19_neighbours s m args below meth c H locs 0 0 Q (F0 m 150 ls [])) (x0 : Nat) (x1 : Int32) (x2 : Int32) (hx0 : (12, x0) ∈ ids) {z : St} {H : Heap} {locs : List Loc} {ls : Array Slot} (hr : zRep D cy B ids A s.heap z H locs) (hl : lv_has ls 5 [(0, .ref (B 12 x0)), (1, .int x1), (2, .int x2)]) (h : fX19_neighbours_2b N K2 K150 x0 x1 x2 z = some (r, z')) : W p l e rmX19_neighbours s m args below meth c H locs 0 0 Q (F0 m 2 ls []) := by
  unfold fX19_neighbours_2b at h
  refine lv_iload_n F.1 F.2.1 dX19_neighbours_2 rfl (lv_at hl 2 rfl) ?_
  refine lv_aload_n F.1 F.2.1 dX19_neighbours_3 rfl (lv_at hl 0 rfl) ?_
  refine gf19_273 F hx0 hr dX19_neighbours_4 ?_
  refine lv_icmp_ge (tgt := 94) F.1 F.2.1 dX19_neighbours_7 (by decide) (fun c1 => ?_) (fun c1 => ?_)
  · replace h := zi_t c1 h
    refine lv_iconst (v := (0)) F.1 F.2.1 dX19_neighbours_94 (by decide) ?_
    refine lv_istore_n (lv' := [(2, .int (0)), (0, .ref (B 12 x0)), (1, .int x1)]) F.1 F.2.1 dX19_neighbours_95 rfl hl (by decide) rfl (fun ls hl => ?_)
    exact lX19_neighbours_96 hst F hA E hK150 _ x0 x1 (0) hx0 hr (lv_sub hl [1, 2, 0] rfl) h
  · replace h := zi_f c1 h
    refine lv_aload_n F.1 F.2.1 dX19_neighbours_10 rfl (lv_at hl 0 rfl) ?_
    refine gf19_276 F hx0 hr dX19_neighbours_11 ?_
    refine lv_iload_n F.1 F.2.1 dX19_neighbours_14 rfl (lv_at hl 2 rfl) ?_
    obtain ⟨c2, h⟩ := zk_some h
    refine zr_aaldv (k := 147) (by decide) rfl rfl (zlen_d (by decide)) F (zal_a F hx0 (j := 2) rfl) hr dX19_neighbours_15 c2 (fun y3 ey3 => ?_)
    replace h := zl_sub ey3 h
    have hy3 := zal_q hr (zal_a F hx0 (j := 2) rfl) rfl ey3
    clear ey3
    refine zr_astore_n (lv' := [(3, va_rf (Option.map (B 18) y3)), (0, .ref (B 12 x0)), (1, .int x1), (2, .int x2)]) F.1 F.2.1 dX19_neighbours_16 rfl hl (by decide) rfl (fun ls hl => ?_)
    refine lv_aload_n F.1 F.2.1 dX19_neighbours_17 rfl (lv_at hl 1 rfl) ?_
    refine lv_aload_n F.1 F.2.1 dX19_neighbours_18 rfl (lv_at hl 1 rfl) ?_
    refine gf19_486 F hx0 hr dX19_neighbours_19 ?_
    refine lv_if_ne (tgt := 39) F.1 F.2.1 dX19_neighbours_22 (by decide) (fun c4 => ?_) (fun c4 => ?_)
    · replace h := zi_t c4 h
      exact bX19_neighbours_39 hst F hA E hK2 hK150 x0 x1 x2 y3 x0 hx0 hy3 hx0 hr (lv_sub hl [1, 2, 3, 0] rfl) h
    · replace h := zi_f (fun q => q c4) h
      refine zr_aload_n F.1 F.2.1 dX19_neighbours_25 rfl (lv_at hl 0 rfl) ?_
      obtain ⟨a5, rfl, h⟩ := zd_some h
      refine gf19_479 F (hy3 _ rfl) hr dX19_neighbours_26 ?_
      refine lv_aload_n F.1 F.2.1 dX19_neighbours_29 rfl (lv_at hl 0 rfl) ?_
      refine gf19_149 F (hy3 _ rfl) hr dX19_neighbours_30 (fun y6 ey6 => ?_)
      replace h := zl_sub ey6 h
      have hy6 := zal_g hr (hy3 _ rfl) (j := 2) rfl ey6
      clear ey6
      obtain ⟨a7, rfl, h⟩ := zd_some h
      refine gf19_158 F (hy6 _ rfl) hr dX19_neighbours_33 ?_
      refine lv_icmp_eq (tgt := 43) F.1 F.2.1 dX19_neighbours_36 (by decide) (fun c8 => ?_) (fun c8 => ?_)
      · replace h := zi_t c8 h
        refine lv_iconst (v := (0)) F.1 F.2.1 dX19_neighbours_43 (by decide) ?_
        exact bX19_neighbours_44 hst F hA E hK2 hK150 x0 x1 x2 (some a5) x0 (0) hx0 (zal_s (hy3 _ rfl)) hx0 hr (lv_sub hl [1, 2, 3, 0] rfl) h
      · replace h := zi_f c8 h
        exact bX19_neighbours_39 hst F hA E hK2 hK150 x0 x1 x2 (some a5) x0 hx0 (zal_s (hy3 _ rfl)) hx0 hr (lv_sub hl [1, 2, 3, 0] rfl) h
theorem lX19_neighbours_2 (hst : zSt B ids) (F : zFx p m c cX19_neighbours 5 s args RX19 D cy B ids A) (hA : ∀ q : Nat, s.heap.size ≤ q → A q) {r : Int32} {z' : St} (E : zEnd p l e rmX19_neighbours s m args below meth c cX19_neighbours D cy B ids A Q none z' .return_ True) {N : Nat} {K150 : Nat → Int32 → Int32 → Nat → Int32 → St → Option (Int32 × St)} (hK150 : ∀ (x0 : Nat) (x1 : Int32) (x2 : Int32) (x3 : Nat) (x4 : Int32) (hx0 : (12, x0) ∈ ids) (hx3 : (15, x3) ∈ ids) {z : St} {H : Heap} {locs : List Loc} {ls : Array Slot} (hr : zRep D cy B ids A s.heap z H locs) (hl : lv_has ls 5 [(0, .ref (B 12 x0)), (1, .int x1), (2, .int x2), (3, .ref (B 15 x3)), (4, .int x4)]), K150 x0 x1 x2 x3 x4 z = some (r, z') → W p l e rmX19_neighbours s m args below meth c H locs 0 0 Q (F0 m 150 ls [])) : ∀ (n : Nat) (x0 : Nat) (x1 : Int32) (x2 : Int32) (hx0 : (12, x0) ∈ ids) {z : St} {H : Heap} {locs : List Loc} {ls : Array Slot} (hr : zRep D cy B ids A s.heap z H locs) (hl : lv_has ls 5 [(0, .ref (B 12 x0)), (1, .int x1), (2, .int x2)]), fX19_neighbours_2 N K150 n x0 x1 x2 z = some (r, z') → W p l e rmX19_neighbours s m args below meth c H locs 0 0 Q (F0 m 2 ls []) := by
  intro n
  induction n with
  | zero => intro x0 x1 x2 hx0 z H locs ls hr hl h; cases h
  | succ n ih => intro x0 x1 x2 hx0 z H locs ls hr hl h; exact bX19_neighbours_2 hst F hA E ih hK150 x0 x1 x2 hx0 hr hl h
def fX19_neighbours (N : Nat) (K150 : Nat → Int32 → Int32 → Nat → Int32 → St → Option (Int32 × St)) (x0 : Nat) (x1 : Int32) (z : St) : Option (Int32 × St) := fX19_neighbours_2 N K150 N x0 x1 (0) z
set_option maxHeartbeats 4000000 in
set_option maxRecDepth 100000 in
theorem bX19_neighbours_0 (hst : zSt B ids) (F : zFx p m c cX19_neighbours 5 s args RX19 D cy B ids A) (hA : ∀ q : Nat, s.heap.size ≤ q → A q) {r : Int32} {z' : St} (E : zEnd p l e rmX19_neighbours s m args below meth c cX19_neighbours D cy B ids A Q none z' .return_ True) {N : Nat} {K150 : Nat → Int32 → Int32 → Nat → Int32 → St → Option (Int32 × St)} (hK150 : ∀ (x0 : Nat) (x1 : Int32) (x2 : Int32) (x3 : Nat) (x4 : Int32) (hx0 : (12, x0) ∈ ids) (hx3 : (15, x3) ∈ ids) {z : St} {H : Heap} {locs : List Loc} {ls : Array Slot} (hr : zRep D cy B ids A s.heap z H locs) (hl : lv_has ls 5 [(0, .ref (B 12 x0)), (1, .int x1), (2, .int x2), (3, .ref (B 15 x3)), (4, .int x4)]), K150 x0 x1 x2 x3 x4 z = some (r, z') → W p l e rmX19_neighbours s m args below meth c H locs 0 0 Q (F0 m 150 ls [])) (x0 : Nat) (x1 : Int32) (hx0 : (12, x0) ∈ ids) {z : St} {H : Heap} {locs : List Loc} {ls : Array Slot} (hr : zRep D cy B ids A s.heap z H locs) (hl : lv_has ls 5 [(0, .ref (B 12 x0)), (1, .int x1)]) (h : fX19_neighbours N K150 x0 x1 z = some (r, z')) : W p l e rmX19_neighbours s m args below meth c H locs 0 0 Q (F0 m 0 ls []) := by
  unfold fX19_neighbours at h
  refine lv_iconst (v := (0)) F.1 F.2.1 dX19_neighbours_0 (by decide) ?_
  refine lv_istore_n (lv' := [(2, .int (0)), (0, .ref (B 12 x0)), (1, .int x1)]) F.1 F.2.1 dX19_neighbours_1 rfl hl (by decide) rfl (fun ls hl => ?_)
  exact lX19_neighbours_2 hst F hA E hK150 _ x0 x1 (0) hx0 hr (lv_sub hl [1, 2, 0] rfl) h
end SX19_neighbours
set_option maxRecDepth 100000 in
theorem okX19_neighbours (l : Launch) (D : va_G) (cy : Nat → ClassId) (B : Nat → Nat → Nat) (ids : List (Nat × Nat)) (hst : zSt B ids) (N : Nat) (x0 : Nat) (hx0 : (12, x0) ∈ ids) (x1 : Int32) {z : St} {r : Int32} {z' : St} (hW : zWf ids z) (h : fX19_neighbours N x0 x1 z = some (r, z')) : zM l yX19_neighbours (zws yX19_neighbours cX19_neighbours 5 none) rmX19_neighbours D cy B ids [.ref (B 12 x0), .int x1] none True z z' :=
  zM_of hst hW (by decide +kernel) (Nat.le_of_ble_eq_true rfl) (fun p e s m args below meth c A ls F hA hret hlocks hr hl => bX19_neighbours_0 hst F hA (zEnd_v F hret hlocks) x0 x1 hx0 hr hl h)
abbrev rmX19_base : Room := { frames := 1, cells := 0, slots := 0, locals := 21 }
theorem hdX19_base : yX19_base.cls ≠ "java/lang/invoke/MethodHandle" ∧ yX19_base.cls ≠ "java/lang/invoke/VarHandle" ∧ (parseMethodDescriptor yX19_base.desc).map (fun d => d.parameters.length) = some 1 := by decide +kernel
theorem hroX19_base_X19_dropAdvert : rmX19_dropAdvert.frames + 1 ≤ rmX19_base.frames ∧ 8 + (2 + 11) + rmX19_dropAdvert.locals ≤ rmX19_base.locals := by decide
section SX19_base
variable {p : Program} {l : Launch} {e : Env} {s : State} {m : MethodId} {args : Array Value} {below : List Frame} {meth : Method} {c : Code} {Q : State → Prop} {D : va_G} {cy : Nat → ClassId} {B : Nat → Nat → Nat} {ids : List (Nat × Nat)} {A : Nat → Prop}
def fX19_base_85 (N : Nat) (K2 : Nat → Nat → Int32 → St → Option (Int32 × St)) (K59 : Nat → Nat → Int32 → Int32 → St → Option (Int32 × St)) (x0 : Nat) (x1 : Nat) (x2 : Int32) (z : St) : Option (Int32 × St) := zl (x2 + 1) fun v1 => K2 x0 x1 v1 z
set_option maxHeartbeats 4000000 in
set_option maxRecDepth 100000 in
theorem bX19_base_85 (hst : zSt B ids) (F : zFx p m c cX19_base 4 s args RX19 D cy B ids A) (hA : ∀ q : Nat, s.heap.size ≤ q → A q) {r : Int32} {z' : St} (E : zEnd p l e rmX19_base s m args below meth c cX19_base D cy B ids A Q none z' .return_ True) {N : Nat} {K2 : Nat → Nat → Int32 → St → Option (Int32 × St)} {K59 : Nat → Nat → Int32 → Int32 → St → Option (Int32 × St)} (hK2 : ∀ (x0 : Nat) (x1 : Nat) (x2 : Int32) (hx0 : (19, x0) ∈ ids) (hx1 : (12, x1) ∈ ids) {z : St} {H : Heap} {locs : List Loc} {ls : Array Slot} (hr : zRep D cy B ids A s.heap z H locs) (hl : lv_has ls 4 [(0, .ref (B 19 x0)), (1, .ref (B 12 x1)), (2, .int x2)]), K2 x0 x1 x2 z = some (r, z') → W p l e rmX19_base s m args below meth c H locs 0 0 Q (F0 m 2 ls [])) (hK59 : ∀ (x0 : Nat) (x1 : Nat) (x2 : Int32) (x3 : Int32) (hx0 : (19, x0) ∈ ids) (hx1 : (12, x1) ∈ ids) {z : St} {H : Heap} {locs : List Loc} {ls : Array Slot} (hr : zRep D cy B ids A s.heap z H locs) (hl : lv_has ls 4 [(0, .ref (B 19 x0)), (1, .ref (B 12 x1)), (2, .int x2), (3, .int x3)]), K59 x0 x1 x2 x3 z = some (r, z') → W p l e rmX19_base s m args below meth c H locs 0 0 Q (F0 m 59 ls [])) (x0 : Nat) (x1 : Nat) (x2 : Int32) (hx0 : (19, x0) ∈ ids) (hx1 : (12, x1) ∈ ids) {z : St} {H : Heap} {locs : List Loc} {ls : Array Slot} (hr : zRep D cy B ids A s.heap z H locs) (hl : lv_has ls 4 [(0, .ref (B 19 x0)), (1, .ref (B 12 x1)), (2, .int x2)]) (h : fX19_base_85 N K2 K59 x0 x1 x2 z = some (r, z')) : W p l e rmX19_base s m args below meth c H locs 0 0 Q (F0 m 85 ls []) := by
  unfold fX19_base_85 at h
  obtain ⟨v1, ev1⟩ : ∃ y : Int32, y = (x2 + 1) := ⟨_, rfl⟩
  replace h := zl_sub ev1 h
  refine lv_iinc (v := v1) (lv' := [(2, .int v1), (0, .ref (B 19 x0)), (1, .ref (B 12 x1))]) F.1 F.2.1 dX19_base_85 hl (k := 2) rfl (by rw [ev1]; rfl) (by decide) rfl (fun ls hl => ?_)
  refine lv_goto (tgt := 2) F.1 F.2.1 dX19_base_88 (by decide) ?_
  exact hK2 x0 x1 v1 hx0 hx1 hr (lv_sub hl [1, 2, 0] rfl) h
def fX19_base_2b (N : Nat) (K2 : Nat → Nat → Int32 → St → Option (Int32 × St)) (K59 : Nat → Nat → Int32 → Int32 → St → Option (Int32 × St)) (x0 : Nat) (x1 : Nat) (x2 : Int32) (z : St) : Option (Int32 × St) := if (16) ≤ x2 then (some (0, z)) else (zk x2 16 <| if (zgA z 150 x1 x2.toNatClampNeg) = (-1) then (fX19_base_85 N K2 K59 x0 x1 x2 z) else (zk x2 16 <| if ((zgI z 19 24 x0) - (zgA z 151 x1 x2.toNatClampNeg)) < (5000) then (fX19_base_85 N K2 K59 x0 x1 x2 z) else (zk x2 16 <| zc (fX19_dropAdvert N x0 (zgA z 150 x1 x2.toNatClampNeg) z) fun _ z8 => zk x2 16 <| zl (zsA z8 150 x1 x2.toNatClampNeg (-1)) fun z12 => zl (zsI z12 12 23 x1 (1)) fun z13 => K59 x0 x1 x2 (0) z13)))
def fX19_base_2 (N : Nat) (K59 : Nat → Nat → Int32 → Int32 → St → Option (Int32 × St)) : Nat → Nat → Nat → Int32 → St → Option (Int32 × St)
  | 0 => fun _ _ _ _ => none
  | n + 1 => fX19_base_2b N (fX19_base_2 N K59 n) K59
set_option maxHeartbeats 4000000 in
set_option maxRecDepth 100000 in
theorem bX19_base_2 (hst : zSt B ids) (F : zFx p m c cX19_base 4 s args RX19 D cy B ids A) (hA : ∀ q : Nat, s.heap.size ≤ q → A q) {r : Int32} {z' : St} (E : zEnd p l e rmX19_base s m args below meth c cX19_base D cy B ids A Q none z' .return_ True) {N : Nat} {K2 : Nat → Nat → Int32 → St → Option (Int32 × St)} {K59 : Nat → Nat → Int32 → Int32 → St → Option (Int32 × St)} (hK2 : ∀ (x0 : Nat) (x1 : Nat) (x2 : Int32) (hx0 : (19, x0) ∈ ids) (hx1 : (12, x1) ∈ ids) {z : St} {H : Heap} {locs : List Loc} {ls : Array Slot} (hr : zRep D cy B ids A s.heap z H locs) (hl : lv_has ls 4 [(0, .ref (B 19 x0)), (1, .ref (B 12 x1)), (2, .int x2)]), K2 x0 x1 x2 z = some (r, z') → W p l e rmX19_base s m args below meth c H locs 0 0 Q (F0 m 2 ls [])) (hK59 : ∀ (x0 : Nat) (x1 : Nat) (x2 : Int32) (x3 : Int32) (hx0 : (19, x0) ∈ ids) (hx1 : (12, x1) ∈ ids) {z : St} {H : Heap} {locs : List Loc} {ls : Array Slot} (hr : zRep D cy B ids A s.heap z H locs) (hl : lv_has ls 4 [(0, .ref (B 19 x0)), (1, .ref (B 12 x1)), (2, .int x2), (3, .int x3)]), K59 x0 x1 x2 x3 z = some (r, z') → W p l e rmX19_base s m args below meth c H locs 0 0 Q (F0 m 59 ls [])) (x0 : Nat) (x1 : Nat) (x2 : Int32) (hx0 : (19, x0) ∈ ids) (hx1 : (12, x1) ∈ ids) {z : St} {H : Heap} {locs : List Loc} {ls : Array Slot} (hr : zRep D cy B ids A s.heap z H locs) (hl : lv_has ls 4 [(0, .ref (B 19 x0)), (1, .ref (B 12 x1)), (2, .int x2)]) (h : fX19_base_2b N K2 K59 x0 x1 x2 z = some (r, z')) : W p l e rmX19_base s m args below meth c H locs 0 0 Q (F0 m 2 ls []) := by
  unfold fX19_base_2b at h
  refine lv_iload_n F.1 F.2.1 dX19_base_2 rfl (lv_at hl 2 rfl) ?_
  refine lv_bipush (v := (16)) F.1 F.2.1 dX19_base_3 (by decide) ?_
  refine lv_icmp_ge (tgt := 91) F.1 F.2.1 dX19_base_5 (by decide) (fun c1 => ?_) (fun c1 => ?_)
  · replace h := zi_t c1 h
    obtain ⟨rfl, rfl⟩ := zret h
    exact E _ _ _ _ dX19_base_91 trivial hr
  · replace h := zi_f c1 h
    refine lv_aload_n F.1 F.2.1 dX19_base_8 rfl (lv_at hl 1 rfl) ?_
    refine gf19_448 F hx1 hr dX19_base_9 ?_
    refine lv_iload_n F.1 F.2.1 dX19_base_12 rfl (lv_at hl 2 rfl) ?_
    obtain ⟨c2, h⟩ := zk_some h
    refine zr_iald (k := 150) (by decide) rfl (by decide) F (zal_a F hx1 (j := 14) rfl) hr dX19_base_13 c2 ?_
    refine lv_iconst (v := (-1)) F.1 F.2.1 dX19_base_14 (by decide) ?_
    refine lv_icmp_eq (tgt := 85) F.1 F.2.1 dX19_base_15 (by decide) (fun c3 => ?_) (fun c3 => ?_)
    · replace h := zi_t c3 h
      exact bX19_base_85 hst F hA E hK2 hK59 x0 x1 x2 hx0 hx1 hr (lv_sub hl [0, 1, 2] rfl) h
    · replace h := zi_f c3 h
      refine lv_aload_n F.1 F.2.1 dX19_base_18 rfl (lv_at hl 0 rfl) ?_
      refine gf19_143 F hx0 hr dX19_base_19 ?_
      refine lv_aload_n F.1 F.2.1 dX19_base_22 rfl (lv_at hl 1 rfl) ?_
      refine gf19_515 F hx1 hr dX19_base_23 ?_
      refine lv_iload_n F.1 F.2.1 dX19_base_26 rfl (lv_at hl 2 rfl) ?_
      obtain ⟨c4, h⟩ := zk_some h
      refine zr_iald (k := 151) (by decide) rfl (by decide) F (zal_a F hx1 (j := 15) rfl) hr dX19_base_27 c4 ?_
      refine lv_isub F.1 F.2.1 dX19_base_28 ?_
      refine lv_sipush (v := (5000)) F.1 F.2.1 dX19_base_29 (by decide) ?_
      refine lv_icmp_lt (tgt := 85) F.1 F.2.1 dX19_base_32 (by decide) (fun c5 => ?_) (fun c5 => ?_)
      · replace h := zi_t c5 h
        exact bX19_base_85 hst F hA E hK2 hK59 x0 x1 x2 hx0 hx1 hr (lv_sub hl [0, 1, 2] rfl) h
      · replace h := zi_f c5 h
        refine lv_aload_n F.1 F.2.1 dX19_base_35 rfl (lv_at hl 0 rfl) ?_
        refine lv_aload_n F.1 F.2.1 dX19_base_36 rfl (lv_at hl 1 rfl) ?_
        refine gf19_448 F hx1 hr dX19_base_37 ?_
        refine lv_iload_n F.1 F.2.1 dX19_base_40 rfl (lv_at hl 2 rfl) ?_
        obtain ⟨c6, h⟩ := zk_some h
        refine zr_iald (k := 150) (by decide) rfl (by decide) F (zal_a F hx1 (j := 14) rfl) hr dX19_base_41 c6 ?_
        obtain ⟨r7, z8, hc9, h⟩ := zc_some h
        refine zr_callv (zrun_V (As := [.int (zgA z 150 x1 x2.toNatClampNeg)]) (rest := []) zq_2565 zq_2567 zs_X19_dropAdvert zq_2568 zq_4 hdX19_dropAdvert (by decide) (T := TX19) (N := 32) rfl (okX19_dropAdvert l D cy B ids hst N x0 hx0 (zgA z 150 x1 x2.toNatClampNeg)  hr.2.2 hc9) F hr hx0 hl.1 rfl (by decide) dX19_base_42 rfl rfl hroX19_base_X19_dropAdvert ⟨Nat.zero_le _, Nat.zero_le _⟩) F hA hr (fun H locs hx10 hr => ?_)
        clear hc9
        refine lv_aload_n F.1 F.2.1 dX19_base_45 rfl (lv_at hl 1 rfl) ?_
        refine gf19_448 F hx1 hr dX19_base_46 ?_
        refine lv_iload_n F.1 F.2.1 dX19_base_49 rfl (lv_at hl 2 rfl) ?_
        refine lv_iconst (v := (-1)) F.1 F.2.1 dX19_base_50 (by decide) ?_
        obtain ⟨c11, h⟩ := zk_some h
        refine zr_iast (k := 150) (by decide) rfl (by decide) F (zal_a F hx1 (j := 14) rfl) hr dX19_base_51 c11 (fun H locs z12 ez12 hr => ?_)
        replace h := zl_sub ez12 h
        clear ez12
        refine lv_aload_n F.1 F.2.1 dX19_base_52 rfl (lv_at hl 1 rfl) ?_
        refine lv_iconst (v := (1)) F.1 F.2.1 dX19_base_53 (by decide) ?_
        refine pf19_489 F hx1 hr dX19_base_54 (1) (by decide) (fun H locs z13 ez13 hr => ?_)
        replace h := zl_sub ez13 h
        clear ez13
        refine lv_iconst (v := (0)) F.1 F.2.1 dX19_base_57 (by decide) ?_
        refine lv_istore_n (lv' := [(3, .int (0)), (0, .ref (B 19 x0)), (1, .ref (B 12 x1)), (2, .int x2)]) F.1 F.2.1 dX19_base_58 rfl hl (by decide) rfl (fun ls hl => ?_)
        exact hK59 x0 x1 x2 (0) hx0 hx1 hr (lv_sub hl [1, 2, 3, 0] rfl) h
theorem lX19_base_2 (hst : zSt B ids) (F : zFx p m c cX19_base 4 s args RX19 D cy B ids A) (hA : ∀ q : Nat, s.heap.size ≤ q → A q) {r : Int32} {z' : St} (E : zEnd p l e rmX19_base s m args below meth c cX19_base D cy B ids A Q none z' .return_ True) {N : Nat} {K59 : Nat → Nat → Int32 → Int32 → St → Option (Int32 × St)} (hK59 : ∀ (x0 : Nat) (x1 : Nat) (x2 : Int32) (x3 : Int32) (hx0 : (19, x0) ∈ ids) (hx1 : (12, x1) ∈ ids) {z : St} {H : Heap} {locs : List Loc} {ls : Array Slot} (hr : zRep D cy B ids A s.heap z H locs) (hl : lv_has ls 4 [(0, .ref (B 19 x0)), (1, .ref (B 12 x1)), (2, .int x2), (3, .int x3)]), K59 x0 x1 x2 x3 z = some (r, z') → W p l e rmX19_base s m args below meth c H locs 0 0 Q (F0 m 59 ls [])) : ∀ (n : Nat) (x0 : Nat) (x1 : Nat) (x2 : Int32) (hx0 : (19, x0) ∈ ids) (hx1 : (12, x1) ∈ ids) {z : St} {H : Heap} {locs : List Loc} {ls : Array Slot} (hr : zRep D cy B ids A s.heap z H locs) (hl : lv_has ls 4 [(0, .ref (B 19 x0)), (1, .ref (B 12 x1)), (2, .int x2)]), fX19_base_2 N K59 n x0 x1 x2 z = some (r, z') → W p l e rmX19_base s m args below meth c H locs 0 0 Q (F0 m 2 ls []) := by
  intro n
  induction n with
  | zero => intro x0 x1 x2 hx0 hx1 z H locs ls hr hl h; cases h
  | succ n ih => intro x0 x1 x2 hx0 hx1 z H locs ls hr hl h; exact bX19_base_2 hst F hA E ih hK59 x0 x1 x2 hx0 hx1 hr hl h
def fX19_base (N : Nat) (K59 : Nat → Nat → Int32 → Int32 → St → Option (Int32 × St)) (x0 : Nat) (x1 : Nat) (z : St) : Option (Int32 × St) := fX19_base_2 N K59 N x0 x1 (0) z
set_option maxHeartbeats 4000000 in
set_option maxRecDepth 100000 in
theorem bX19_base_0 (hst : zSt B ids) (F : zFx p m c cX19_base 4 s args RX19 D cy B ids A) (hA : ∀ q : Nat, s.heap.size ≤ q → A q) {r : Int32} {z' : St} (E : zEnd p l e rmX19_base s m args below meth c cX19_base D cy B ids A Q none z' .return_ True) {N : Nat} {K59 : Nat → Nat → Int32 → Int32 → St → Option (Int32 × St)} (hK59 : ∀ (x0 : Nat) (x1 : Nat) (x2 : Int32) (x3 : Int32) (hx0 : (19, x0) ∈ ids) (hx1 : (12, x1) ∈ ids) {z : St} {H : Heap} {locs : List Loc} {ls : Array Slot} (hr : zRep D cy B ids A s.heap z H locs) (hl : lv_has ls 4 [(0, .ref (B 19 x0)), (1, .ref (B 12 x1)), (2, .int x2), (3, .int x3)]), K59 x0 x1 x2 x3 z = some (r, z') → W p l e rmX19_base s m args below meth c H locs 0 0 Q (F0 m 59 ls [])) (x0 : Nat) (x1 : Nat) (hx0 : (19, x0) ∈ ids) (hx1 : (12, x1) ∈ ids) {z : St} {H : Heap} {locs : List Loc} {ls : Array Slot} (hr : zRep D cy B ids A s.heap z H locs) (hl : lv_has ls 4 [(0, .ref (B 19 x0)), (1, .ref (B 12 x1))]) (h : fX19_base N K59 x0 x1 z = some (r, z')) : W p l e rmX19_base s m args below meth c H locs 0 0 Q (F0 m 0 ls []) := by
  unfold fX19_base at h
  refine lv_iconst (v := (0)) F.1 F.2.1 dX19_base_0 (by decide) ?_
  refine lv_istore_n (lv' := [(2, .int (0)), (0, .ref (B 19 x0)), (1, .ref (B 12 x1))]) F.1 F.2.1 dX19_base_1 rfl hl (by decide) rfl (fun ls hl => ?_)
  exact lX19_base_2 hst F hA E hK59 _ x0 x1 (0) hx0 hx1 hr (lv_sub hl [1, 2, 0] rfl) h
end SX19_base
set_option maxRecDepth 100000 in
theorem okX19_base (l : Launch) (D : va_G) (cy : Nat → ClassId) (B : Nat → Nat → Nat) (ids : List (Nat × Nat)) (hst : zSt B ids) (N : Nat) (x0 : Nat) (hx0 : (19, x0) ∈ ids) (x1 : Nat) (hx1 : (12, x1) ∈ ids) {z : St} {r : Int32} {z' : St} (hW : zWf ids z) (h : fX19_base N x0 x1 z = some (r, z')) : zM l yX19_base (zws yX19_base cX19_base 4 none) rmX19_base D cy B ids [.ref (B 19 x0), .ref (B 12 x1)] none True z z' :=
  zM_of hst hW (by decide +kernel) (Nat.le_of_ble_eq_true rfl) (fun p e s m args below meth c A ls F hA hret hlocks hr hl => bX19_base_0 hst F hA (zEnd_v F hret hlocks) x0 x1 hx0 hx1 hr hl h)
abbrev rmX19_insert : Room := { frames := 0, cells := 0, slots := 0, locals := 0 }
theorem hdX19_insert : yX19_insert.cls ≠ "java/lang/invoke/MethodHandle" ∧ yX19_insert.cls ≠ "java/lang/invoke/VarHandle" ∧ (parseMethodDescriptor yX19_insert.desc).map (fun d => d.parameters.length) = some 6 := by decide +kernel
section SX19_insert
variable {p : Program} {l : Launch} {e : Env} {s : State} {m : MethodId} {args : Array Value} {below : List Frame} {meth : Method} {c : Code} {Q : State → Prop} {D : va_G} {cy : Nat → ClassId} {B : Nat → Nat → Nat} {ids : List (Nat × Nat)} {A : Nat → Prop}
def fX19_insert_75 (N : Nat) (K26 : Nat → Int32 → Int32 → Int32 → Int32 → Int32 → St → Option (Int32 × St)) (x0 : Nat) (x4 : Int32) (x5 : Int32) (x6 : Int32) (x7 : Int32) (x8 : Int32) (z : St) : Option (Int32 × St) := zk (x7 - (3)) 182400 <| zk x7 182400 <| zl (zsA z 178 x0 x7.toNatClampNeg (zgA z 178 x0 (x7 - (3)).toNatClampNeg)) fun z3 => zk (x7 - (2)) 182400 <| zk (x7 + (1)) 182400 <| zl (zsA z3 178 x0 (x7 + (1)).toNatClampNeg (zgA z3 178 x0 (x7 - (2)).toNatClampNeg)) fun z6 => zk (x7 - (1)) 182400 <| zk (x7 + (2)) 182400 <| zl (zsA z6 178 x0 (x7 + (2)).toNatClampNeg (zgA z6 178 x0 (x7 - (1)).toNatClampNeg)) fun z9 => zl (x7 + (-3)) fun v10 => K26 x0 x4 x5 x6 v10 x8 z9
set_option maxHeartbeats 4000000 in
set_option maxRecDepth 100000 in
theorem bX19_insert_75 (hst : zSt B ids) (F : zFx p m c cX19_insert 9 s args RX19 D cy B ids A) (hA : ∀ q : Nat, s.heap.size ≤ q → A q) {r : Int32} {z' : St} (E : zEnd p l e rmX19_insert s m args below meth c cX19_insert D cy B ids A Q none z' .return_ True) {N : Nat} {K26 : Nat → Int32 → Int32 → Int32 → Int32 → Int32 → St → Option (Int32 × St)} (hK26 : ∀ (x0 : Nat) (x4 : Int32) (x5 : Int32) (x6 : Int32) (x7 : Int32) (x8 : Int32) (hx0 : (19, x0) ∈ ids) {z : St} {H : Heap} {locs : List Loc} {ls : Array Slot} (hr : zRep D cy B ids A s.heap z H locs) (hl : lv_has ls 9 [(0, .ref (B 19 x0)), (4, .int x4), (5, .int x5), (6, .int x6), (7, .int x7), (8, .int x8)]), K26 x0 x4 x5 x6 x7 x8 z = some (r, z') → W p l e rmX19_insert s m args below meth c H locs 0 0 Q (F0 m 26 ls [])) (x0 : Nat) (x4 : Int32) (x5 : Int32) (x6 : Int32) (x7 : Int32) (x8 : Int32) (hx0 : (19, x0) ∈ ids) {z : St} {H : Heap} {locs : List Loc} {ls : Array Slot} (hr : zRep D cy B ids A s.heap z H locs) (hl : lv_has ls 9 [(0, .ref (B 19 x0)), (4, .int x4), (5, .int x5), (6, .int x6), (7, .int x7), (8, .int x8)]) (h : fX19_insert_75 N K26 x0 x4 x5 x6 x7 x8 z = some (r, z')) : W p l e rmX19_insert s m args below meth c H locs 0 0 Q (F0 m 75 ls []) := by
  unfold fX19_insert_75 at h
  refine lv_aload_n F.1 F.2.1 dX19_insert_75 rfl (lv_at hl 0 rfl) ?_
  refine gf19_65 F hx0 hr dX19_insert_76 ?_
  refine lv_iload F.1 F.2.1 dX19_insert_79 (lv_at hl 4 rfl) ?_
  refine lv_aload_n F.1 F.2.1 dX19_insert_81 rfl (lv_at hl 0 rfl) ?_
  refine gf19_65 F hx0 hr dX19_insert_82 ?_
  refine lv_iload F.1 F.2.1 dX19_insert_85 (lv_at hl 4 rfl) ?_
  refine lv_iconst (v := (3)) F.1 F.2.1 dX19_insert_87 (by decide) ?_
  refine lv_isub F.1 F.2.1 dX19_insert_88 ?_
  obtain ⟨c1, h⟩ := zk_some h
  refine zr_iald (k := 178) (by decide) rfl (by decide) F (zal_a F hx0 (j := 8) rfl) hr dX19_insert_89 c1 ?_
  obtain ⟨c2, h⟩ := zk_some h
  refine zr_iast (k := 178) (by decide) rfl (by decide) F (zal_a F hx0 (j := 8) rfl) hr dX19_insert_90 c2 (fun H locs z3 ez3 hr => ?_)
  replace h := zl_sub ez3 h
  clear ez3
  refine lv_aload_n F.1 F.2.1 dX19_insert_91 rfl (lv_at hl 0 rfl) ?_
  refine gf19_65 F hx0 hr dX19_insert_92 ?_
  refine lv_iload F.1 F.2.1 dX19_insert_95 (lv_at hl 4 rfl) ?_
  refine lv_iconst (v := (1)) F.1 F.2.1 dX19_insert_97 (by decide) ?_
  refine lv_iadd F.1 F.2.1 dX19_insert_98 ?_
  refine lv_aload_n F.1 F.2.1 dX19_insert_99 rfl (lv_at hl 0 rfl) ?_
  refine gf19_65 F hx0 hr dX19_insert_100 ?_
  refine lv_iload F.1 F.2.1 dX19_insert_103 (lv_at hl 4 rfl) ?_
  refine lv_iconst (v := (2)) F.1 F.2.1 dX19_insert_105 (by decide) ?_
  refine lv_isub F.1 F.2.1 dX19_insert_106 ?_
  obtain ⟨c4, h⟩ := zk_some h
  refine zr_iald (k := 178) (by decide) rfl (by decide) F (zal_a F hx0 (j := 8) rfl) hr dX19_insert_107 c4 ?_
  obtain ⟨c5, h⟩ := zk_some h
  refine zr_iast (k := 178) (by decide) rfl (by decide) F (zal_a F hx0 (j := 8) rfl) hr dX19_insert_108 c5 (fun H locs z6 ez6 hr => ?_)
  replace h := zl_sub ez6 h
  clear ez6
  refine lv_aload_n F.1 F.2.1 dX19_insert_109 rfl (lv_at hl 0 rfl) ?_
  refine gf19_65 F hx0 hr dX19_insert_110 ?_
  refine lv_iload F.1 F.2.1 dX19_insert_113 (lv_at hl 4 rfl) ?_
  refine lv_iconst (v := (2)) F.1 F.2.1 dX19_insert_115 (by decide) ?_
  refine lv_iadd F.1 F.2.1 dX19_insert_116 ?_
  refine lv_aload_n F.1 F.2.1 dX19_insert_117 rfl (lv_at hl 0 rfl) ?_
  refine gf19_65 F hx0 hr dX19_insert_118 ?_
  refine lv_iload F.1 F.2.1 dX19_insert_121 (lv_at hl 4 rfl) ?_
  refine lv_iconst (v := (1)) F.1 F.2.1 dX19_insert_123 (by decide) ?_
  refine lv_isub F.1 F.2.1 dX19_insert_124 ?_
  obtain ⟨c7, h⟩ := zk_some h
  refine zr_iald (k := 178) (by decide) rfl (by decide) F (zal_a F hx0 (j := 8) rfl) hr dX19_insert_125 c7 ?_
  obtain ⟨c8, h⟩ := zk_some h
  refine zr_iast (k := 178) (by decide) rfl (by decide) F (zal_a F hx0 (j := 8) rfl) hr dX19_insert_126 c8 (fun H locs z9 ez9 hr => ?_)
  replace h := zl_sub ez9 h
  clear ez9
  obtain ⟨v10, ev10⟩ : ∃ y : Int32, y = (x7 + (-3)) := ⟨_, rfl⟩
  replace h := zl_sub ev10 h
  refine lv_iinc (v := v10) (lv' := [(7, .int v10), (0, .ref (B 19 x0)), (4, .int x4), (5, .int x5), (6, .int x6), (8, .int x8)]) F.1 F.2.1 dX19_insert_127 hl (k := 4) rfl (by rw [ev10]; rfl) (by decide) rfl (fun ls hl => ?_)
  refine lv_goto (tgt := 26) F.1 F.2.1 dX19_insert_130 (by decide) ?_
  exact hK26 x0 x4 x5 x6 v10 x8 hx0 hr (lv_sub hl [1, 2, 3, 4, 0, 5] rfl) h
def fX19_insert_133 (N : Nat)  (x0 : Nat) (x4 : Int32) (x5 : Int32) (x6 : Int32) (x7 : Int32) (z : St) : Option (Int32 × St) := zk x7 182400 <| zl (zsA z 178 x0 x7.toNatClampNeg x4) fun z2 => zk (x7 + (1)) 182400 <| zl (zsA z2 178 x0 (x7 + (1)).toNatClampNeg x5) fun z4 => zk (x7 + (2)) 182400 <| zl (zsA z4 178 x0 (x7 + (2)).toNatClampNeg x6) fun z6 => some (0, z6)
set_option maxHeartbeats 4000000 in
set_option maxRecDepth 100000 in
theorem bX19_insert_133 (hst : zSt B ids) (F : zFx p m c cX19_insert 9 s args RX19 D cy B ids A) (hA : ∀ q : Nat, s.heap.size ≤ q → A q) {r : Int32} {z' : St} (E : zEnd p l e rmX19_insert s m args below meth c cX19_insert D cy B ids A Q none z' .return_ True) {N : Nat}  (x0 : Nat) (x4 : Int32) (x5 : Int32) (x6 : Int32) (x7 : Int32) (hx0 : (19, x0) ∈ ids) {z : St} {H : Heap} {locs : List Loc} {ls : Array Slot} (hr : zRep D cy B ids A s.heap z H locs) (hl : lv_has ls 9 [(0, .ref (B 19 x0)), (4, .int x4), (5, .int x5), (6, .int x6), (7, .int x7)]) (h : fX19_insert_133 N x0 x4 x5 x6 x7 z = some (r, z')) : W p l e rmX19_insert s m args below meth c H locs 0 0 Q (F0 m 133 ls []) := by
  unfold fX19_insert_133 at h
  refine lv_aload_n F.1 F.2.1 dX19_insert_133 rfl (lv_at hl 0 rfl) ?_
  refine gf19_65 F hx0 hr dX19_insert_134 ?_
  refine lv_iload F.1 F.2.1 dX19_insert_137 (lv_at hl 4 rfl) ?_
  refine lv_iload F.1 F.2.1 dX19_insert_139 (lv_at hl 1 rfl) ?_
  obtain ⟨c1, h⟩ := zk_some h
  refine zr_iast (k := 178) (by decide) rfl (by decide) F (zal_a F hx0 (j := 8) rfl) hr dX19_insert_141 c1 (fun H locs z2 ez2 hr => ?_)
  replace h := zl_sub ez2 h
  clear ez2
  refine lv_aload_n F.1 F.2.1 dX19_insert_142 rfl (lv_at hl 0 rfl) ?_
  refine gf19_65 F hx0 hr dX19_insert_143 ?_
  refine lv_iload F.1 F.2.1 dX19_insert_146 (lv_at hl 4 rfl) ?_
  refine lv_iconst (v := (1)) F.1 F.2.1 dX19_insert_148 (by decide) ?_
  refine lv_iadd F.1 F.2.1 dX19_insert_149 ?_
  refine lv_iload F.1 F.2.1 dX19_insert_150 (lv_at hl 2 rfl) ?_
  obtain ⟨c3, h⟩ := zk_some h
  refine zr_iast (k := 178) (by decide) rfl (by decide) F (zal_a F hx0 (j := 8) rfl) hr dX19_insert_152 c3 (fun H locs z4 ez4 hr => ?_)
  replace h := zl_sub ez4 h
  clear ez4
  refine lv_aload_n F.1 F.2.1 dX19_insert_153 rfl (lv_at hl 0 rfl) ?_
  refine gf19_65 F hx0 hr dX19_insert_154 ?_
  refine lv_iload F.1 F.2.1 dX19_insert_157 (lv_at hl 4 rfl) ?_
  refine lv_iconst (v := (2)) F.1 F.2.1 dX19_insert_159 (by decide) ?_
  refine lv_iadd F.1 F.2.1 dX19_insert_160 ?_
  refine lv_iload F.1 F.2.1 dX19_insert_161 (lv_at hl 3 rfl) ?_
  obtain ⟨c5, h⟩ := zk_some h
  refine zr_iast (k := 178) (by decide) rfl (by decide) F (zal_a F hx0 (j := 8) rfl) hr dX19_insert_163 c5 (fun H locs z6 ez6 hr => ?_)
  replace h := zl_sub ez6 h
  clear ez6
  obtain ⟨rfl, rfl⟩ := zret h
  exact E _ _ _ _ dX19_insert_164 trivial hr
def fX19_insert_26b (N : Nat) (K26 : Nat → Int32 → Int32 → Int32 → Int32 → Int32 → St → Option (Int32 × St)) (x0 : Nat) (x4 : Int32) (x5 : Int32) (x6 : Int32) (x7 : Int32) (x8 : Int32) (z : St) : Option (Int32 × St) := if x7 ≤ x8 then (fX19_insert_133 N x0 x4 x5 x6 x7 z) else (zk (x7 - (2)) 182400 <| if x5 < (zgA z 178 x0 (x7 - (2)).toNatClampNeg) then (fX19_insert_75 N K26 x0 x4 x5 x6 x7 x8 z) else (zk (x7 - (2)) 182400 <| if ¬ (zgA z 178 x0 (x7 - (2)).toNatClampNeg) = x5 then (fX19_insert_133 N x0 x4 x5 x6 x7 z) else (zk (x7 - (3)) 182400 <| if (zgA z 178 x0 (x7 - (3)).toNatClampNeg) ≤ x4 then (fX19_insert_133 N x0 x4 x5 x6 x7 z) else (fX19_insert_75 N K26 x0 x4 x5 x6 x7 x8 z))))
def fX19_insert_26 (N : Nat)  : Nat → Nat → Int32 → Int32 → Int32 → Int32 → Int32 → St → Option (Int32 × St)
  | 0 => fun _ _ _ _ _ _ _ => none
  | n + 1 => fX19_insert_26b N (fX19_insert_26 N  n)
set_option maxHeartbeats 4000000 in
set_option maxRecDepth 100000 in
theorem bX19_insert_26 (hst : zSt B ids) (F : zFx p m c cX19_insert 9 s args RX19 D cy B ids A) (hA : ∀ q : Nat, s.heap.size ≤ q → A q) {r : Int32} {z' : St} (E : zEnd p l e rmX19_insert s m args below meth c cX19_insert D cy B ids A Q none z' .return_ True) {N : Nat} {K26 : Nat → Int32 → Int32 → Int32 → Int32 → Int32 → St → Option (Int32 × St)} (hK26 : ∀ (x0 : Nat) (x4 : Int32) (x5 : Int32) (x6 : Int32) (x7 : Int32) (x8 : Int32) (hx0 : (19, x0) ∈ ids) {z : St} {H : Heap} {locs : List Loc} {ls : Array Slot} (hr : zRep D cy B ids A s.heap z H locs) (hl : lv_has ls 9 [(0, .ref (B 19 x0)), (4, .int x4), (5, .int x5), (6, .int x6), (7, .int x7), (8, .int x8)]), K26 x0 x4 x5 x6 x7 x8 z = some (r, z') → W p l e rmX19_insert s m args below meth c H locs 0 0 Q (F0 m 26 ls [])) (x0 : Nat) (x4 : Int32) (x5 : Int32) (x6 : Int32) (x7 : Int32) (x8 : Int32) (hx0 : (19, x0) ∈ ids) {z : St} {H : Heap} {locs : List Loc} {ls : Array Slot} (hr : zRep D cy B ids A s.heap z H locs) (hl : lv_has ls 9 [(0, .ref (B 19 x0)), (4, .int x4), (5, .int x5), (6, .int x6), (7, .int x7), (8, .int x8)]) (h : fX19_insert_26b N K26 x0 x4 x5 x6 x7 x8 z = some (r, z')) : W p l e rmX19_insert s m args below meth c H locs 0 0 Q (F0 m 26 ls []) := by
  unfold fX19_insert_26b at h
  refine lv_iload F.1 F.2.1 dX19_insert_26 (lv_at hl 4 rfl) ?_
  refine lv_iload F.1 F.2.1 dX19_insert_28 (lv_at hl 5 rfl) ?_
  refine lv_icmp_le (tgt := 133) F.1 F.2.1 dX19_insert_30 (by decide) (fun c1 => ?_) (fun c1 => ?_)
  · replace h := zi_t c1 h
    exact bX19_insert_133 hst F hA E  x0 x4 x5 x6 x7 hx0 hr (lv_sub hl [0, 1, 2, 3, 4] rfl) h
  · replace h := zi_f c1 h
    refine lv_aload_n F.1 F.2.1 dX19_insert_33 rfl (lv_at hl 0 rfl) ?_
    refine gf19_65 F hx0 hr dX19_insert_34 ?_
    refine lv_iload F.1 F.2.1 dX19_insert_37 (lv_at hl 4 rfl) ?_
    refine lv_iconst (v := (2)) F.1 F.2.1 dX19_insert_39 (by decide) ?_
    refine lv_isub F.1 F.2.1 dX19_insert_40 ?_
    obtain ⟨c2, h⟩ := zk_some h
    refine zr_iald (k := 178) (by decide) rfl (by decide) F (zal_a F hx0 (j := 8) rfl) hr dX19_insert_41 c2 ?_
    refine lv_iload F.1 F.2.1 dX19_insert_42 (lv_at hl 2 rfl) ?_
    refine lv_icmp_gt (tgt := 75) F.1 F.2.1 dX19_insert_44 (by decide) (fun c3 => ?_) (fun c3 => ?_)
    · replace h := zi_t c3 h
      exact bX19_insert_75 hst F hA E hK26 x0 x4 x5 x6 x7 x8 hx0 hr (lv_sub hl [0, 1, 2, 3, 4, 5] rfl) h
    · replace h := zi_f c3 h
      refine lv_aload_n F.1 F.2.1 dX19_insert_47 rfl (lv_at hl 0 rfl) ?_
      refine gf19_65 F hx0 hr dX19_insert_48 ?_
      refine lv_iload F.1 F.2.1 dX19_insert_51 (lv_at hl 4 rfl) ?_
      refine lv_iconst (v := (2)) F.1 F.2.1 dX19_insert_53 (by decide) ?_
      refine lv_isub F.1 F.2.1 dX19_insert_54 ?_
      obtain ⟨c4, h⟩ := zk_some h
      refine zr_iald (k := 178) (by decide) rfl (by decide) F (zal_a F hx0 (j := 8) rfl) hr dX19_insert_55 c4 ?_
      refine lv_iload F.1 F.2.1 dX19_insert_56 (lv_at hl 2 rfl) ?_
      refine lv_icmp_ne (tgt := 133) F.1 F.2.1 dX19_insert_58 (by decide) (fun c5 => ?_) (fun c5 => ?_)
      · replace h := zi_t c5 h
        exact bX19_insert_133 hst F hA E  x0 x4 x5 x6 x7 hx0 hr (lv_sub hl [0, 1, 2, 3, 4] rfl) h
      · replace h := zi_f (fun q => q c5) h
        refine lv_aload_n F.1 F.2.1 dX19_insert_61 rfl (lv_at hl 0 rfl) ?_
        refine gf19_65 F hx0 hr dX19_insert_62 ?_
        refine lv_iload F.1 F.2.1 dX19_insert_65 (lv_at hl 4 rfl) ?_
        refine lv_iconst (v := (3)) F.1 F.2.1 dX19_insert_67 (by decide) ?_
        refine lv_isub F.1 F.2.1 dX19_insert_68 ?_
        obtain ⟨c6, h⟩ := zk_some h
        refine zr_iald (k := 178) (by decide) rfl (by decide) F (zal_a F hx0 (j := 8) rfl) hr dX19_insert_69 c6 ?_
        refine lv_iload F.1 F.2.1 dX19_insert_70 (lv_at hl 1 rfl) ?_
        refine lv_icmp_le (tgt := 133) F.1 F.2.1 dX19_insert_72 (by decide) (fun c7 => ?_) (fun c7 => ?_)
        · replace h := zi_t c7 h
          exact bX19_insert_133 hst F hA E  x0 x4 x5 x6 x7 hx0 hr (lv_sub hl [0, 1, 2, 3, 4] rfl) h
        · replace h := zi_f c7 h
          exact bX19_insert_75 hst F hA E hK26 x0 x4 x5 x6 x7 x8 hx0 hr (lv_sub hl [0, 1, 2, 3, 4, 5] rfl) h
theorem lX19_insert_26 (hst : zSt B ids) (F : zFx p m c cX19_insert 9 s args RX19 D cy B ids A) (hA : ∀ q : Nat, s.heap.size ≤ q → A q) {r : Int32} {z' : St} (E : zEnd p l e rmX19_insert s m args below meth c cX19_insert D cy B ids A Q none z' .return_ True) {N : Nat}  : ∀ (n : Nat) (x0 : Nat) (x4 : Int32) (x5 : Int32) (x6 : Int32) (x7 : Int32) (x8 : Int32) (hx0 : (19, x0) ∈ ids) {z : St} {H : Heap} {locs : List Loc} {ls : Array Slot} (hr : zRep D cy B ids A s.heap z H locs) (hl : lv_has ls 9 [(0, .ref (B 19 x0)), (4, .int x4), (5, .int x5), (6, .int x6), (7, .int x7), (8, .int x8)]), fX19_insert_26 N  n x0 x4 x5 x6 x7 x8 z = some (r, z') → W p l e rmX19_insert s m args below meth c H locs 0 0 Q (F0 m 26 ls []) := by
  intro n
  induction n with
  | zero => intro x0 x4 x5 x6 x7 x8 hx0 z H locs ls hr hl h; cases h
  | succ n ih => intro x0 x4 x5 x6 x7 x8 hx0 z H locs ls hr hl h; exact bX19_insert_26 hst F hA E ih x0 x4 x5 x6 x7 x8 hx0 hr hl h
def fX19_insert (N : Nat)  (x0 : Nat) (x1 : Int32) (x2 : Int32) (x3 : Int32) (x4 : Int32) (x5 : Int32) (x6 : Int32) (z : St) : Option (Int32 × St) := zl ((((76) * x1) + (4)) + ((3) * (x2 + x3))) fun v1 => zl ((((76) * x1) + (4)) + ((3) * x2)) fun v2 => fX19_insert_26 N N x0 x4 x5 x6 v1 v2 z
set_option maxHeartbeats 4000000 in
set_option maxRecDepth 100000 in
theorem bX19_insert_0 (hst : zSt B ids) (F : zFx p m c cX19_insert 9 s args RX19 D cy B ids A) (hA : ∀ q : Nat, s.heap.size ≤ q → A q) {r : Int32} {z' : St} (E : zEnd p l e rmX19_insert s m args below meth c cX19_insert D cy B ids A Q none z' .return_ True) {N : Nat}  (x0 : Nat) (x1 : Int32) (x2 : Int32) (x3 : Int32) (x4 : Int32) (x5 : Int32) (x6 : Int32) (hx0 : (19, x0) ∈ ids) {z : St} {H : Heap} {locs : List Loc} {ls : Array Slot} (hr : zRep D cy B ids A s.heap z H locs) (hl : lv_has ls 9 [(0, .ref (B 19 x0)), (1, .int x1), (2, .int x2), (3, .int x3), (4, .int x4), (5, .int x5), (6, .int x6)]) (h : fX19_insert N x0 x1 x2 x3 x4 x5 x6 z = some (r, z')) : W p l e rmX19_insert s m args below meth c H locs 0 0 Q (F0 m 0 ls []) := by
  unfold fX19_insert at h
  refine lv_bipush (v := (76)) F.1 F.2.1 dX19_insert_0 (by decide) ?_
  refine lv_iload_n F.1 F.2.1 dX19_insert_2 rfl (lv_at hl 1 rfl) ?_
  refine lv_imul F.1 F.2.1 dX19_insert_3 ?_
  refine lv_iconst (v := (4)) F.1 F.2.1 dX19_insert_4 (by decide) ?_
  refine lv_iadd F.1 F.2.1 dX19_insert_5 ?_
  refine lv_iconst (v := (3)) F.1 F.2.1 dX19_insert_6 (by decide) ?_
  refine lv_iload_n F.1 F.2.1 dX19_insert_7 rfl (lv_at hl 2 rfl) ?_
  refine lv_iload_n F.1 F.2.1 dX19_insert_8 rfl (lv_at hl 3 rfl) ?_
  refine lv_iadd F.1 F.2.1 dX19_insert_9 ?_
  refine lv_imul F.1 F.2.1 dX19_insert_10 ?_
  refine lv_iadd F.1 F.2.1 dX19_insert_11 ?_
  refine lv_topi (fun v1 ev1 => ?_)
  replace h := zl_sub ev1 h
  refine lv_istore (lv' := [(7, .int v1), (0, .ref (B 19 x0)), (1, .int x1), (2, .int x2), (3, .int x3), (4, .int x4), (5, .int x5), (6, .int x6)]) F.1 F.2.1 dX19_insert_12 hl (by decide) rfl (fun ls hl => ?_)
  refine lv_bipush (v := (76)) F.1 F.2.1 dX19_insert_14 (by decide) ?_
  refine lv_iload_n F.1 F.2.1 dX19_insert_16 rfl (lv_at hl 2 rfl) ?_
  refine lv_imul F.1 F.2.1 dX19_insert_17 ?_
  refine lv_iconst (v := (4)) F.1 F.2.1 dX19_insert_18 (by decide) ?_
  refine lv_iadd F.1 F.2.1 dX19_insert_19 ?_
  refine lv_iconst (v := (3)) F.1 F.2.1 dX19_insert_20 (by decide) ?_
  refine lv_iload_n F.1 F.2.1 dX19_insert_21 rfl (lv_at hl 3 rfl) ?_
  refine lv_imul F.1 F.2.1 dX19_insert_22 ?_
  refine lv_iadd F.1 F.2.1 dX19_insert_23 ?_
  refine lv_topi (fun v2 ev2 => ?_)
  replace h := zl_sub ev2 h
  refine lv_istore (lv' := [(8, .int v2), (7, .int v1), (0, .ref (B 19 x0)), (1, .int x1), (2, .int x2), (3, .int x3), (4, .int x4), (5, .int x5), (6, .int x6)]) F.1 F.2.1 dX19_insert_24 hl (by decide) rfl (fun ls hl => ?_)
  exact lX19_insert_26 hst F hA E  _ x0 x4 x5 x6 v1 v2 hx0 hr (lv_sub hl [2, 6, 7, 8, 1, 0] rfl) h
end SX19_insert
set_option maxRecDepth 100000 in
theorem okX19_insert (l : Launch) (D : va_G) (cy : Nat → ClassId) (B : Nat → Nat → Nat) (ids : List (Nat × Nat)) (hst : zSt B ids) (N : Nat) (x0 : Nat) (hx0 : (19, x0) ∈ ids) (x1 : Int32) (x2 : Int32) (x3 : Int32) (x4 : Int32) (x5 : Int32) (x6 : Int32) {z : St} {r : Int32} {z' : St} (hW : zWf ids z) (h : fX19_insert N x0 x1 x2 x3 x4 x5 x6 z = some (r, z')) : zM l yX19_insert (zws yX19_insert cX19_insert 9 none) rmX19_insert D cy B ids [.ref (B 19 x0), .int x1, .int x2, .int x3, .int x4, .int x5, .int x6] none True z z' :=
  zM_of hst hW (by decide +kernel) (Nat.le_of_ble_eq_true rfl) (fun p e s m args below meth c A ls F hA hret hlocks hr hl => bX19_insert_0 hst F hA (zEnd_v F hret hlocks) x0 x1 x2 x3 x4 x5 x6 hx0 hr hl h)
abbrev rmX19_wouldTell : Room := { frames := 1, cells := 0, slots := 0, locals := 28 }
theorem hdX19_wouldTell : yX19_wouldTell.cls ≠ "java/lang/invoke/MethodHandle" ∧ yX19_wouldTell.cls ≠ "java/lang/invoke/VarHandle" ∧ (parseMethodDescriptor yX19_wouldTell.desc).map (fun d => d.parameters.length) = some 1 := by decide +kernel
theorem hroX19_wouldTell_X19_insert : rmX19_insert.frames + 1 ≤ rmX19_wouldTell.frames ∧ 8 + (9 + 11) + rmX19_insert.locals ≤ rmX19_wouldTell.locals := by decide
theorem hroX19_wouldTell_X19_newAdvert : rmX19_newAdvert.frames + 1 ≤ rmX19_wouldTell.frames ∧ 8 + (4 + 11) + rmX19_newAdvert.locals ≤ rmX19_wouldTell.locals := by decide
section SX19_wouldTell
variable {p : Program} {l : Launch} {e : Env} {s : State} {m : MethodId} {args : Array Value} {below : List Frame} {meth : Method} {c : Code} {Q : State → Prop} {D : va_G} {cy : Nat → ClassId} {B : Nat → Nat → Nat} {ids : List (Nat × Nat)} {A : Nat → Prop}
def fX19_wouldTell_64 (N : Nat) (K14 : Nat → Nat → Int32 → Int32 → Int32 → St → Option (Int32 × St)) (x0 : Nat) (x1 : Nat) (x2 : Int32) (x3 : Int32) (x4 : Int32) (z : St) : Option (Int32 × St) := zl (x4 + 1) fun v1 => K14 x0 x1 x2 x3 v1 z
set_option maxHeartbeats 4000000 in
set_option maxRecDepth 100000 in
theorem bX19_wouldTell_64 (hst : zSt B ids) (F : zFx p m c cX19_wouldTell 8 s args RX19 D cy B ids A) (hA : ∀ q : Nat, s.heap.size ≤ q → A q) {r : Int32} {z' : St} (E : zEnd p l e rmX19_wouldTell s m args below meth c cX19_wouldTell D cy B ids A Q (some (.int r)) z' .ireturn True) {N : Nat} {K14 : Nat → Nat → Int32 → Int32 → Int32 → St → Option (Int32 × St)} (hK14 : ∀ (x0 : Nat) (x1 : Nat) (x2 : Int32) (x3 : Int32) (x4 : Int32) (hx0 : (19, x0) ∈ ids) (hx1 : (12, x1) ∈ ids) {z : St} {H : Heap} {locs : List Loc} {ls : Array Slot} (hr : zRep D cy B ids A s.heap z H locs) (hl : lv_has ls 8 [(0, .ref (B 19 x0)), (1, .ref (B 12 x1)), (2, .int x2), (3, .int x3), (4, .int x4)]), K14 x0 x1 x2 x3 x4 z = some (r, z') → W p l e rmX19_wouldTell s m args below meth c H locs 0 0 Q (F0 m 14 ls [])) (x0 : Nat) (x1 : Nat) (x2 : Int32) (x3 : Int32) (x4 : Int32) (hx0 : (19, x0) ∈ ids) (hx1 : (12, x1) ∈ ids) {z : St} {H : Heap} {locs : List Loc} {ls : Array Slot} (hr : zRep D cy B ids A s.heap z H locs) (hl : lv_has ls 8 [(0, .ref (B 19 x0)), (1, .ref (B 12 x1)), (2, .int x2), (3, .int x3), (4, .int x4)]) (h : fX19_wouldTell_64 N K14 x0 x1 x2 x3 x4 z = some (r, z')) : W p l e rmX19_wouldTell s m args below meth c H locs 0 0 Q (F0 m 64 ls []) := by
  unfold fX19_wouldTell_64 at h
  obtain ⟨v1, ev1⟩ : ∃ y : Int32, y = (x4 + 1) := ⟨_, rfl⟩
  replace h := zl_sub ev1 h
  refine lv_iinc (v := v1) (lv' := [(4, .int v1), (0, .ref (B 19 x0)), (1, .ref (B 12 x1)), (2, .int x2), (3, .int x3)]) F.1 F.2.1 dX19_wouldTell_64 hl (k := 4) rfl (by rw [ev1]; rfl) (by decide) rfl (fun ls hl => ?_)
  refine lv_goto (tgt := 14) F.1 F.2.1 dX19_wouldTell_67 (by decide) ?_
  exact hK14 x0 x1 x2 x3 v1 hx0 hx1 hr (lv_sub hl [1, 2, 3, 4, 0] rfl) h
def fX19_wouldTell_151 (N : Nat) (K76 : Nat → Nat → Int32 → Int32 → Int32 → Int32 → St → Option (Int32 × St)) (x0 : Nat) (x1 : Nat) (x2 : Int32) (x3 : Int32) (x4 : Int32) (x5 : Int32) (z : St) : Option (Int32 × St) := zl (x5 + 1) fun v1 => K76 x0 x1 x2 x3 x4 v1 z
set_option maxHeartbeats 4000000 in
set_option maxRecDepth 100000 in
theorem bX19_wouldTell_151 (hst : zSt B ids) (F : zFx p m c cX19_wouldTell 8 s args RX19 D cy B ids A) (hA : ∀ q : Nat, s.heap.size ≤ q → A q) {r : Int32} {z' : St} (E : zEnd p l e rmX19_wouldTell s m args below meth c cX19_wouldTell D cy B ids A Q (some (.int r)) z' .ireturn True) {N : Nat} {K76 : Nat → Nat → Int32 → Int32 → Int32 → Int32 → St → Option (Int32 × St)} (hK76 : ∀ (x0 : Nat) (x1 : Nat) (x2 : Int32) (x3 : Int32) (x4 : Int32) (x5 : Int32) (hx0 : (19, x0) ∈ ids) (hx1 : (12, x1) ∈ ids) {z : St} {H : Heap} {locs : List Loc} {ls : Array Slot} (hr : zRep D cy B ids A s.heap z H locs) (hl : lv_has ls 8 [(0, .ref (B 19 x0)), (1, .ref (B 12 x1)), (2, .int x2), (3, .int x3), (4, .int x4), (5, .int x5)]), K76 x0 x1 x2 x3 x4 x5 z = some (r, z') → W p l e rmX19_wouldTell s m args below meth c H locs 0 0 Q (F0 m 76 ls [])) (x0 : Nat) (x1 : Nat) (x2 : Int32) (x3 : Int32) (x4 : Int32) (x5 : Int32) (hx0 : (19, x0) ∈ ids) (hx1 : (12, x1) ∈ ids) {z : St} {H : Heap} {locs : List Loc} {ls : Array Slot} (hr : zRep D cy B ids A s.heap z H locs) (hl : lv_has ls 8 [(0, .ref (B 19 x0)), (1, .ref (B 12 x1)), (2, .int x2), (3, .int x3), (4, .int x4), (5, .int x5)]) (h : fX19_wouldTell_151 N K76 x0 x1 x2 x3 x4 x5 z = some (r, z')) : W p l e rmX19_wouldTell s m args below meth c H locs 0 0 Q (F0 m 151 ls []) := by
  unfold fX19_wouldTell_151 at h
  obtain ⟨v1, ev1⟩ : ∃ y : Int32, y = (x5 + 1) := ⟨_, rfl⟩
  replace h := zl_sub ev1 h
  refine lv_iinc (v := v1) (lv' := [(5, .int v1), (0, .ref (B 19 x0)), (1, .ref (B 12 x1)), (2, .int x2), (3, .int x3), (4, .int x4)]) F.1 F.2.1 dX19_wouldTell_151 hl (k := 5) rfl (by rw [ev1]; rfl) (by decide) rfl (fun ls hl => ?_)
  refine lv_goto (tgt := 76) F.1 F.2.1 dX19_wouldTell_154 (by decide) ?_
  exact hK76 x0 x1 x2 x3 x4 v1 hx0 hx1 hr (lv_sub hl [1, 2, 3, 4, 5, 0] rfl) h
def fX19_wouldTell_76b (N : Nat) (K76 : Nat → Nat → Int32 → Int32 → Int32 → Int32 → St → Option (Int32 × St)) (x0 : Nat) (x1 : Nat) (x2 : Int32) (x3 : Int32) (x4 : Int32) (x5 : Int32) (z : St) : Option (Int32 × St) := if (zgI z 12 13 x1) ≤ x5 then (zk (((76) * x2) + (2)) 182400 <| zl (zsA z 178 x0 (((76) * x2) + (2)).toNatClampNeg x3) fun z3 => zk (((76) * x2) + (3)) 182400 <| zl (zsA z3 178 x0 (((76) * x2) + (3)).toNatClampNeg x4) fun z5 => some (x2, z5)) else (zk x5 16 <| zl (zgQ z 149 x1 x5.toNatClampNeg) fun y7 => zd y7 fun a8 => zk (zgI z 15 0 a8) 6 <| zl (zgQ z 147 x1 (zgI z 15 0 a8).toNatClampNeg) fun y10 => if (zgI z 15 3 a8) = 0 then (fX19_wouldTell_151 N K76 x0 x1 x2 x3 x4 x5 z) else (zd y10 fun a12 => if (zgI z 18 5 a12) = 0 then (fX19_wouldTell_151 N K76 x0 x1 x2 x3 x4 x5 z) else (zl (zgR z 18 2 a12) fun y14 => zd y14 fun a15 => zc (fX19_insert N x0 x2 x3 x4 (zgI z 15 1 a8) (zgI z 16 0 a15) (zgI z 18 4 a12) z) fun _ z17 => zl (x4 + 1) fun v20 => fX19_wouldTell_151 N K76 x0 x1 x2 x3 v20 x5 z17)))
def fX19_wouldTell_76 (N : Nat)  : Nat → Nat → Nat → Int32 → Int32 → Int32 → Int32 → St → Option (Int32 × St)
  | 0 => fun _ _ _ _ _ _ _ => none
  | n + 1 => fX19_wouldTell_76b N (fX19_wouldTell_76 N  n)
set_option maxHeartbeats 4000000 in
set_option maxRecDepth 100000 in
theorem bX19_wouldTell_76 (hst : zSt B ids) (F : zFx p m c cX19_wouldTell 8 s args RX19 D cy B ids A) (hA : ∀ q : Nat, s.heap.size ≤ q → A q) {r : Int32} {z' : St} (E : zEnd p l e rmX19_wouldTell s m args below meth c cX19_wouldTell D cy B ids A Q (some (.int r)) z' .ireturn True) {N : Nat} {K76 : Nat → Nat → Int32 → Int32 → Int32 → Int32 → St → Option (Int32 × St)} (hK76 : ∀ (x0 : Nat) (x1 : Nat) (x2 : Int32) (x3 : Int32) (x4 : Int32) (x5 : Int32) (hx0 : (19, x0) ∈ ids) (hx1 : (12, x1) ∈ ids) {z : St} {H : Heap} {locs : List Loc} {ls : Array Slot} (hr : zRep D cy B ids A s.heap z H locs) (hl : lv_has ls 8 [(0, .ref (B 19 x0)), (1, .ref (B 12 x1)), (2, .int x2), (3, .int x3), (4, .int x4), (5, .int x5)]), K76 x0 x1 x2 x3 x4 x5 z = some (r, z') → W p l e rmX19_wouldTell s m args below meth c H locs 0 0 Q (F0 m 76 ls [])) (x0 : Nat) (x1 : Nat) (x2 : Int32) (x3 : Int32) (x4 : Int32) (x5 : Int32) (hx0 : (19, x0) ∈ ids) (hx1 : (12, x1) ∈ ids) {z : St} {H : Heap} {locs : List Loc} {ls : Array Slot} (hr : zRep D cy B ids A s.heap z H locs) (hl : lv_has ls 8 [(0, .ref (B 19 x0)), (1, .ref (B 12 x1)), (2, .int x2), (3, .int x3), (4, .int x4), (5, .int x5)]) (h : fX19_wouldTell_76b N K76 x0 x1 x2 x3 x4 x5 z = some (r, z')) : W p l e rmX19_wouldTell s m args below meth c H locs 0 0 Q (F0 m 76 ls []) := by
  unfold fX19_wouldTell_76b at h
  refine lv_iload F.1 F.2.1 dX19_wouldTell_76 (lv_at hl 5 rfl) ?_
  refine lv_aload_n F.1 F.2.1 dX19_wouldTell_78 rfl (lv_at hl 1 rfl) ?_
  refine gf19_457 F hx1 hr dX19_wouldTell_79 ?_
  refine lv_icmp_ge (tgt := 157) F.1 F.2.1 dX19_wouldTell_82 (by decide) (fun c1 => ?_) (fun c1 => ?_)
  · replace h := zi_t c1 h
    refine lv_aload_n F.1 F.2.1 dX19_wouldTell_157 rfl (lv_at hl 0 rfl) ?_
    refine gf19_65 F hx0 hr dX19_wouldTell_158 ?_
    refine lv_bipush (v := (76)) F.1 F.2.1 dX19_wouldTell_161 (by decide) ?_
    refine lv_iload_n F.1 F.2.1 dX19_wouldTell_163 rfl (lv_at hl 2 rfl) ?_
    refine lv_imul F.1 F.2.1 dX19_wouldTell_164 ?_
    refine lv_iconst (v := (2)) F.1 F.2.1 dX19_wouldTell_165 (by decide) ?_
    refine lv_iadd F.1 F.2.1 dX19_wouldTell_166 ?_
    refine lv_iload_n F.1 F.2.1 dX19_wouldTell_167 rfl (lv_at hl 3 rfl) ?_
    obtain ⟨c2, h⟩ := zk_some h
    refine zr_iast (k := 178) (by decide) rfl (by decide) F (zal_a F hx0 (j := 8) rfl) hr dX19_wouldTell_168 c2 (fun H locs z3 ez3 hr => ?_)
    replace h := zl_sub ez3 h
    clear ez3
    refine lv_aload_n F.1 F.2.1 dX19_wouldTell_169 rfl (lv_at hl 0 rfl) ?_
    refine gf19_65 F hx0 hr dX19_wouldTell_170 ?_
    refine lv_bipush (v := (76)) F.1 F.2.1 dX19_wouldTell_173 (by decide) ?_
    refine lv_iload_n F.1 F.2.1 dX19_wouldTell_175 rfl (lv_at hl 2 rfl) ?_
    refine lv_imul F.1 F.2.1 dX19_wouldTell_176 ?_
    refine lv_iconst (v := (3)) F.1 F.2.1 dX19_wouldTell_177 (by decide) ?_
    refine lv_iadd F.1 F.2.1 dX19_wouldTell_178 ?_
    refine lv_iload F.1 F.2.1 dX19_wouldTell_179 (lv_at hl 4 rfl) ?_
    obtain ⟨c4, h⟩ := zk_some h
    refine zr_iast (k := 178) (by decide) rfl (by decide) F (zal_a F hx0 (j := 8) rfl) hr dX19_wouldTell_181 c4 (fun H locs z5 ez5 hr => ?_)
    replace h := zl_sub ez5 h
    clear ez5
    refine lv_iload_n F.1 F.2.1 dX19_wouldTell_182 rfl (lv_at hl 2 rfl) ?_
    obtain ⟨rfl, rfl⟩ := zret h
    exact E _ _ _ _ dX19_wouldTell_183 trivial hr
  · replace h := zi_f c1 h
    refine lv_aload_n F.1 F.2.1 dX19_wouldTell_85 rfl (lv_at hl 1 rfl) ?_
    refine gf19_460 F hx1 hr dX19_wouldTell_86 ?_
    refine lv_iload F.1 F.2.1 dX19_wouldTell_89 (lv_at hl 5 rfl) ?_
    obtain ⟨c6, h⟩ := zk_some h
    refine zr_aaldv (k := 149) (by decide) rfl rfl (zlen_d (by decide)) F (zal_a F hx1 (j := 12) rfl) hr dX19_wouldTell_91 c6 (fun y7 ey7 => ?_)
    replace h := zl_sub ey7 h
    have hy7 := zal_q hr (zal_a F hx1 (j := 12) rfl) rfl ey7
    clear ey7
    refine zr_astore (lv' := [(6, va_rf (Option.map (B 15) y7)), (0, .ref (B 19 x0)), (1, .ref (B 12 x1)), (2, .int x2), (3, .int x3), (4, .int x4), (5, .int x5)]) F.1 F.2.1 dX19_wouldTell_92 hl (by decide) rfl (fun ls hl => ?_)
    refine lv_aload_n F.1 F.2.1 dX19_wouldTell_94 rfl (lv_at hl 2 rfl) ?_
    refine gf19_276 F hx1 hr dX19_wouldTell_95 ?_
    refine zr_aload F.1 F.2.1 dX19_wouldTell_98 (lv_at hl 0 rfl) ?_
    obtain ⟨a8, rfl, h⟩ := zd_some h
    refine gf19_464 F (hy7 _ rfl) hr dX19_wouldTell_100 ?_
    obtain ⟨c9, h⟩ := zk_some h
    refine zr_aaldv (k := 147) (by decide) rfl rfl (zlen_d (by decide)) F (zal_a F hx1 (j := 2) rfl) hr dX19_wouldTell_103 c9 (fun y10 ey10 => ?_)
    replace h := zl_sub ey10 h
    have hy10 := zal_q hr (zal_a F hx1 (j := 2) rfl) rfl ey10
    clear ey10
    refine zr_astore (lv' := [(7, va_rf (Option.map (B 18) y10)), (6, .ref (B 15 a8)), (0, .ref (B 19 x0)), (1, .ref (B 12 x1)), (2, .int x2), (3, .int x3), (4, .int x4), (5, .int x5)]) F.1 F.2.1 dX19_wouldTell_104 hl (by decide) rfl (fun ls hl => ?_)
    refine lv_aload F.1 F.2.1 dX19_wouldTell_106 (lv_at hl 1 rfl) ?_
    refine gf19_473 F (hy7 _ rfl) hr dX19_wouldTell_108 ?_
    refine lv_if_eq (tgt := 151) F.1 F.2.1 dX19_wouldTell_111 (by decide) (fun c11 => ?_) (fun c11 => ?_)
    · replace h := zi_t c11 h
      exact bX19_wouldTell_151 hst F hA E hK76 x0 x1 x2 x3 x4 x5 hx0 hx1 hr (lv_sub hl [2, 3, 4, 5, 6, 7] rfl) h
    · replace h := zi_f c11 h
      refine zr_aload F.1 F.2.1 dX19_wouldTell_114 (lv_at hl 0 rfl) ?_
      obtain ⟨a12, rfl, h⟩ := zd_some h
      refine gf19_479 F (hy10 _ rfl) hr dX19_wouldTell_116 ?_
      refine lv_if_eq (tgt := 151) F.1 F.2.1 dX19_wouldTell_119 (by decide) (fun c13 => ?_) (fun c13 => ?_)
      · replace h := zi_t c13 h
        exact bX19_wouldTell_151 hst F hA E hK76 x0 x1 x2 x3 x4 x5 hx0 hx1 hr (lv_sub hl [2, 3, 4, 5, 6, 7] rfl) h
      · replace h := zi_f c13 h
        refine lv_aload_n F.1 F.2.1 dX19_wouldTell_122 rfl (lv_at hl 2 rfl) ?_
        refine lv_iload_n F.1 F.2.1 dX19_wouldTell_123 rfl (lv_at hl 4 rfl) ?_
        refine lv_iload_n F.1 F.2.1 dX19_wouldTell_124 rfl (lv_at hl 5 rfl) ?_
        refine lv_iload F.1 F.2.1 dX19_wouldTell_125 (lv_at hl 6 rfl) ?_
        refine lv_aload F.1 F.2.1 dX19_wouldTell_127 (lv_at hl 1 rfl) ?_
        refine gf19_467 F (hy7 _ rfl) hr dX19_wouldTell_129 ?_
        refine lv_aload F.1 F.2.1 dX19_wouldTell_132 (lv_at hl 0 rfl) ?_
        refine gf19_149 F (hy10 _ rfl) hr dX19_wouldTell_134 (fun y14 ey14 => ?_)
        replace h := zl_sub ey14 h
        have hy14 := zal_g hr (hy10 _ rfl) (j := 2) rfl ey14
        clear ey14
        obtain ⟨a15, rfl, h⟩ := zd_some h
        refine gf19_181 F (hy14 _ rfl) hr dX19_wouldTell_137 ?_
        refine lv_aload F.1 F.2.1 dX19_wouldTell_140 (lv_at hl 0 rfl) ?_
        refine gf19_520 F (hy10 _ rfl) hr dX19_wouldTell_142 ?_
        obtain ⟨r16, z17, hc18, h⟩ := zc_some h
        refine zr_callv (zrun_V (As := [.int x2, .int x3, .int x4, .int (zgI z 15 1 a8), .int (zgI z 16 0 a15), .int (zgI z 18 4 a12)]) (rest := []) zq_2875 zq_2877 zs_X19_insert zq_2878 zq_4 hdX19_insert (by decide) (T := TX19) (N := 32) rfl (okX19_insert l D cy B ids hst N x0 hx0 x2  x3  x4  (zgI z 15 1 a8)  (zgI z 16 0 a15)  (zgI z 18 4 a12)  hr.2.2 hc18) F hr hx0 hl.1 rfl (by decide) dX19_wouldTell_145 rfl rfl hroX19_wouldTell_X19_insert ⟨Nat.zero_le _, Nat.zero_le _⟩) F hA hr (fun H locs hx19 hr => ?_)
        clear hc18
        obtain ⟨v20, ev20⟩ : ∃ y : Int32, y = (x4 + 1) := ⟨_, rfl⟩
        replace h := zl_sub ev20 h
        refine lv_iinc (v := v20) (lv' := [(4, .int v20), (7, .ref (B 18 a12)), (6, .ref (B 15 a8)), (0, .ref (B 19 x0)), (1, .ref (B 12 x1)), (2, .int x2), (3, .int x3), (5, .int x5)]) F.1 F.2.1 dX19_wouldTell_148 hl (k := 6) rfl (by rw [ev20]; rfl) (by decide) rfl (fun ls hl => ?_)
        exact bX19_wouldTell_151 hst F hA E hK76 x0 x1 x2 x3 v20 x5 hx0 hx1 hr (lv_sub hl [3, 4, 5, 6, 0, 7] rfl) h
theorem lX19_wouldTell_76 (hst : zSt B ids) (F : zFx p m c cX19_wouldTell 8 s args RX19 D cy B ids A) (hA : ∀ q : Nat, s.heap.size ≤ q → A q) {r : Int32} {z' : St} (E : zEnd p l e rmX19_wouldTell s m args below meth c cX19_wouldTell D cy B ids A Q (some (.int r)) z' .ireturn True) {N : Nat}  : ∀ (n : Nat) (x0 : Nat) (x1 : Nat) (x2 : Int32) (x3 : Int32) (x4 : Int32) (x5 : Int32) (hx0 : (19, x0) ∈ ids) (hx1 : (12, x1) ∈ ids) {z : St} {H : Heap} {locs : List Loc} {ls : Array Slot} (hr : zRep D cy B ids A s.heap z H locs) (hl : lv_has ls 8 [(0, .ref (B 19 x0)), (1, .ref (B 12 x1)), (2, .int x2), (3, .int x3), (4, .int x4), (5, .int x5)]), fX19_wouldTell_76 N  n x0 x1 x2 x3 x4 x5 z = some (r, z') → W p l e rmX19_wouldTell s m args below meth c H locs 0 0 Q (F0 m 76 ls []) := by
  intro n
  induction n with
  | zero => intro x0 x1 x2 x3 x4 x5 hx0 hx1 z H locs ls hr hl h; cases h
  | succ n ih => intro x0 x1 x2 x3 x4 x5 hx0 hx1 z H locs ls hr hl h; exact bX19_wouldTell_76 hst F hA E ih x0 x1 x2 x3 x4 x5 hx0 hx1 hr hl h
def fX19_wouldTell_14b (N : Nat) (K14 : Nat → Nat → Int32 → Int32 → Int32 → St → Option (Int32 × St)) (x0 : Nat) (x1 : Nat) (x2 : Int32) (x3 : Int32) (x4 : Int32) (z : St) : Option (Int32 × St) := if (zgI z 12 3 x1) ≤ x4 then (fX19_wouldTell_76 N N x0 x1 x2 x3 (0) (0) z) else (zk x4 6 <| zl (zgQ z 147 x1 x4.toNatClampNeg) fun y3 => zd y3 fun a4 => if (zgI z 18 5 a4) = 0 then (fX19_wouldTell_64 N K14 x0 x1 x2 x3 x4 z) else (zl (zgR z 18 2 a4) fun y6 => zd y6 fun a7 => zc (fX19_insert N x0 x2 (0) x3 (-1) (zgI z 16 0 a7) (zgI z 18 4 a4) z) fun _ z9 => zl (x3 + 1) fun v12 => fX19_wouldTell_64 N K14 x0 x1 x2 v12 x4 z9))
def fX19_wouldTell_14 (N : Nat)  : Nat → Nat → Nat → Int32 → Int32 → Int32 → St → Option (Int32 × St)
  | 0 => fun _ _ _ _ _ _ => none
  | n + 1 => fX19_wouldTell_14b N (fX19_wouldTell_14 N  n)
set_option maxHeartbeats 4000000 in
set_option maxRecDepth 100000 in
theorem bX19_wouldTell_14 (hst : zSt B ids) (F : zFx p m c cX19_wouldTell 8 s args RX19 D cy B ids A) (hA : ∀ q : Nat, s.heap.size ≤ q → A q) {r : Int32} {z' : St} (E : zEnd p l e rmX19_wouldTell s m args below meth c cX19_wouldTell D cy B ids A Q (some (.int r)) z' .ireturn True) {N : Nat} {K14 : Nat → Nat → Int32 → Int32 → Int32 → St → Option (Int32 × St)} (hK14 : ∀ (x0 : Nat) (x1 : Nat) (x2 : Int32) (x3 : Int32) (x4 : Int32) (hx0 : (19, x0) ∈ ids) (hx1 : (12, x1) ∈ ids) {z : St} {H : Heap} {locs : List Loc} {ls : Array Slot} (hr : zRep D cy B ids A s.heap z H locs) (hl : lv_has ls 8 [(0, .ref (B 19 x0)), (1, .ref (B 12 x1)), (2, .int x2), (3, .int x3), (4, .int x4)]), K14 x0 x1 x2 x3 x4 z = some (r, z') → W p l e rmX19_wouldTell s m args below meth c H locs 0 0 Q (F0 m 14 ls [])) (x0 : Nat) (x1 : Nat) (x2 : Int32) (x3 : Int32) (x4 : Int32) (hx0 : (19, x0) ∈ ids) (hx1 : (12, x1) ∈ ids) {z : St} {H : Heap} {locs : List Loc} {ls : Array Slot} (hr : zRep D cy B ids A s.heap z H locs) (hl : lv_has ls 8 [(0, .ref (B 19 x0)), (1, .ref (B 12 x1)), (2, .int x2), (3, .int x3), (4, .int x4)]) (h : fX19_wouldTell_14b N K14 x0 x1 x2 x3 x4 z = some (r, z')) : W p l e rmX19_wouldTell s m args below meth c H locs 0 0 Q (F0 m 14 ls []) := by
  unfold fX19_wouldTell_14b at h
  refine lv_iload F.1 F.2.1 dX19_wouldTell_14 (lv_at hl 4 rfl) ?_
  refine lv_aload_n F.1 F.2.1 dX19_wouldTell_16 rfl (lv_at hl 1 rfl) ?_
  refine gf19_273 F hx1 hr dX19_wouldTell_17 ?_
  refine lv_icmp_ge (tgt := 70) F.1 F.2.1 dX19_wouldTell_20 (by decide) (fun c1 => ?_) (fun c1 => ?_)
  · replace h := zi_t c1 h
    refine lv_iconst (v := (0)) F.1 F.2.1 dX19_wouldTell_70 (by decide) ?_
    refine lv_istore (lv' := [(4, .int (0)), (0, .ref (B 19 x0)), (1, .ref (B 12 x1)), (2, .int x2), (3, .int x3)]) F.1 F.2.1 dX19_wouldTell_71 hl (by decide) rfl (fun ls hl => ?_)
    refine lv_iconst (v := (0)) F.1 F.2.1 dX19_wouldTell_73 (by decide) ?_
    refine lv_istore (lv' := [(5, .int (0)), (4, .int (0)), (0, .ref (B 19 x0)), (1, .ref (B 12 x1)), (2, .int x2), (3, .int x3)]) F.1 F.2.1 dX19_wouldTell_74 hl (by decide) rfl (fun ls hl => ?_)
    exact lX19_wouldTell_76 hst F hA E  _ x0 x1 x2 x3 (0) (0) hx0 hx1 hr (lv_sub hl [2, 3, 4, 5, 1, 0] rfl) h
  · replace h := zi_f c1 h
    refine lv_aload_n F.1 F.2.1 dX19_wouldTell_23 rfl (lv_at hl 1 rfl) ?_
    refine gf19_276 F hx1 hr dX19_wouldTell_24 ?_
    refine lv_iload F.1 F.2.1 dX19_wouldTell_27 (lv_at hl 4 rfl) ?_
    obtain ⟨c2, h⟩ := zk_some h
    refine zr_aaldv (k := 147) (by decide) rfl rfl (zlen_d (by decide)) F (zal_a F hx1 (j := 2) rfl) hr dX19_wouldTell_29 c2 (fun y3 ey3 => ?_)
    replace h := zl_sub ey3 h
    have hy3 := zal_q hr (zal_a F hx1 (j := 2) rfl) rfl ey3
    clear ey3
    refine zr_astore (lv' := [(5, va_rf (Option.map (B 18) y3)), (0, .ref (B 19 x0)), (1, .ref (B 12 x1)), (2, .int x2), (3, .int x3), (4, .int x4)]) F.1 F.2.1 dX19_wouldTell_30 hl (by decide) rfl (fun ls hl => ?_)
    refine zr_aload F.1 F.2.1 dX19_wouldTell_32 (lv_at hl 0 rfl) ?_
    obtain ⟨a4, rfl, h⟩ := zd_some h
    refine gf19_479 F (hy3 _ rfl) hr dX19_wouldTell_34 ?_
    refine lv_if_eq (tgt := 64) F.1 F.2.1 dX19_wouldTell_37 (by decide) (fun c5 => ?_) (fun c5 => ?_)
    · replace h := zi_t c5 h
      exact bX19_wouldTell_64 hst F hA E hK14 x0 x1 x2 x3 x4 hx0 hx1 hr (lv_sub hl [1, 2, 3, 4, 5] rfl) h
    · replace h := zi_f c5 h
      refine lv_aload_n F.1 F.2.1 dX19_wouldTell_40 rfl (lv_at hl 1 rfl) ?_
      refine lv_iload_n F.1 F.2.1 dX19_wouldTell_41 rfl (lv_at hl 3 rfl) ?_
      refine lv_iconst (v := (0)) F.1 F.2.1 dX19_wouldTell_42 (by decide) ?_
      refine lv_iload_n F.1 F.2.1 dX19_wouldTell_43 rfl (lv_at hl 4 rfl) ?_
      refine lv_iconst (v := (-1)) F.1 F.2.1 dX19_wouldTell_44 (by decide) ?_
      refine lv_aload F.1 F.2.1 dX19_wouldTell_45 (lv_at hl 0 rfl) ?_
      refine gf19_149 F (hy3 _ rfl) hr dX19_wouldTell_47 (fun y6 ey6 => ?_)
      replace h := zl_sub ey6 h
      have hy6 := zal_g hr (hy3 _ rfl) (j := 2) rfl ey6
      clear ey6
      obtain ⟨a7, rfl, h⟩ := zd_some h
      refine gf19_181 F (hy6 _ rfl) hr dX19_wouldTell_50 ?_
      refine lv_aload F.1 F.2.1 dX19_wouldTell_53 (lv_at hl 0 rfl) ?_
      refine gf19_520 F (hy3 _ rfl) hr dX19_wouldTell_55 ?_
      obtain ⟨r8, z9, hc10, h⟩ := zc_some h
      refine zr_callv (zrun_V (As := [.int x2, .int (0), .int x3, .int (-1), .int (zgI z 16 0 a7), .int (zgI z 18 4 a4)]) (rest := []) zq_2875 zq_2877 zs_X19_insert zq_2878 zq_4 hdX19_insert (by decide) (T := TX19) (N := 32) rfl (okX19_insert l D cy B ids hst N x0 hx0 x2  (0)  x3  (-1)  (zgI z 16 0 a7)  (zgI z 18 4 a4)  hr.2.2 hc10) F hr hx0 hl.1 rfl (by decide) dX19_wouldTell_58 rfl rfl hroX19_wouldTell_X19_insert ⟨Nat.zero_le _, Nat.zero_le _⟩) F hA hr (fun H locs hx11 hr => ?_)
      clear hc10
      obtain ⟨v12, ev12⟩ : ∃ y : Int32, y = (x3 + 1) := ⟨_, rfl⟩
      replace h := zl_sub ev12 h
      refine lv_iinc (v := v12) (lv' := [(3, .int v12), (5, .ref (B 18 a4)), (0, .ref (B 19 x0)), (1, .ref (B 12 x1)), (2, .int x2), (4, .int x4)]) F.1 F.2.1 dX19_wouldTell_61 hl (k := 4) rfl (by rw [ev12]; rfl) (by decide) rfl (fun ls hl => ?_)
      exact bX19_wouldTell_64 hst F hA E hK14 x0 x1 x2 v12 x4 hx0 hx1 hr (lv_sub hl [2, 3, 4, 0, 5] rfl) h
theorem lX19_wouldTell_14 (hst : zSt B ids) (F : zFx p m c cX19_wouldTell 8 s args RX19 D cy B ids A) (hA : ∀ q : Nat, s.heap.size ≤ q → A q) {r : Int32} {z' : St} (E : zEnd p l e rmX19_wouldTell s m args below meth c cX19_wouldTell D cy B ids A Q (some (.int r)) z' .ireturn True) {N : Nat}  : ∀ (n : Nat) (x0 : Nat) (x1 : Nat) (x2 : Int32) (x3 : Int32) (x4 : Int32) (hx0 : (19, x0) ∈ ids) (hx1 : (12, x1) ∈ ids) {z : St} {H : Heap} {locs : List Loc} {ls : Array Slot} (hr : zRep D cy B ids A s.heap z H locs) (hl : lv_has ls 8 [(0, .ref (B 19 x0)), (1, .ref (B 12 x1)), (2, .int x2), (3, .int x3), (4, .int x4)]), fX19_wouldTell_14 N  n x0 x1 x2 x3 x4 z = some (r, z') → W p l e rmX19_wouldTell s m args below meth c H locs 0 0 Q (F0 m 14 ls []) := by
  intro n
  induction n with
  | zero => intro x0 x1 x2 x3 x4 hx0 hx1 z H locs ls hr hl h; cases h
  | succ n ih => intro x0 x1 x2 x3 x4 hx0 hx1 z H locs ls hr hl h; exact bX19_wouldTell_14 hst F hA E ih x0 x1 x2 x3 x4 hx0 hx1 hr hl h
def fX19_wouldTell (N : Nat)  (x0 : Nat) (x1 : Nat) (z : St) : Option (Int32 × St) := zc (fX19_newAdvert N x0 (zgI z 12 0 x1) z) fun r1 z2 => fX19_wouldTell_14 N N x0 x1 r1 (0) (0) z2
set_option maxHeartbeats 4000000 in
set_option maxRecDepth 100000 in
theorem bX19_wouldTell_0 (hst : zSt B ids) (F : zFx p m c cX19_wouldTell 8 s args RX19 D cy B ids A) (hA : ∀ q : Nat, s.heap.size ≤ q → A q) {r : Int32} {z' : St} (E : zEnd p l e rmX19_wouldTell s m args below meth c cX19_wouldTell D cy B ids A Q (some (.int r)) z' .ireturn True) {N : Nat}  (x0 : Nat) (x1 : Nat) (hx0 : (19, x0) ∈ ids) (hx1 : (12, x1) ∈ ids) {z : St} {H : Heap} {locs : List Loc} {ls : Array Slot} (hr : zRep D cy B ids A s.heap z H locs) (hl : lv_has ls 8 [(0, .ref (B 19 x0)), (1, .ref (B 12 x1))]) (h : fX19_wouldTell N x0 x1 z = some (r, z')) : W p l e rmX19_wouldTell s m args below meth c H locs 0 0 Q (F0 m 0 ls []) := by
  unfold fX19_wouldTell at h
  refine lv_aload_n F.1 F.2.1 dX19_wouldTell_0 rfl (lv_at hl 0 rfl) ?_
  refine lv_aload_n F.1 F.2.1 dX19_wouldTell_1 rfl (lv_at hl 1 rfl) ?_
  refine gf19_310 F hx1 hr dX19_wouldTell_2 ?_
  obtain ⟨r1, z2, hc3, h⟩ := zc_some h
  refine zr_calli (zrun_V (As := [.int (zgI z 12 0 x1)]) (rest := []) zq_2871 zq_2873 zs_X19_newAdvert zq_2874 zq_4 hdX19_newAdvert (by decide) (T := TX19) (N := 32) rfl (okX19_newAdvert l D cy B ids hst N x0 hx0 (zgI z 12 0 x1)  hr.2.2 hc3) F hr hx0 hl.1 rfl (by decide) dX19_wouldTell_5 rfl rfl hroX19_wouldTell_X19_newAdvert ⟨Nat.zero_le _, Nat.zero_le _⟩) F hA hr (fun H locs hx4 hr => ?_)
  clear hc3
  refine lv_istore_n (lv' := [(2, .int r1), (0, .ref (B 19 x0)), (1, .ref (B 12 x1))]) F.1 F.2.1 dX19_wouldTell_8 rfl hl (by decide) rfl (fun ls hl => ?_)
  refine lv_iconst (v := (0)) F.1 F.2.1 dX19_wouldTell_9 (by decide) ?_
  refine lv_istore_n (lv' := [(3, .int (0)), (2, .int r1), (0, .ref (B 19 x0)), (1, .ref (B 12 x1))]) F.1 F.2.1 dX19_wouldTell_10 rfl hl (by decide) rfl (fun ls hl => ?_)
  refine lv_iconst (v := (0)) F.1 F.2.1 dX19_wouldTell_11 (by decide) ?_
  refine lv_istore (lv' := [(4, .int (0)), (3, .int (0)), (2, .int r1), (0, .ref (B 19 x0)), (1, .ref (B 12 x1))]) F.1 F.2.1 dX19_wouldTell_12 hl (by decide) rfl (fun ls hl => ?_)
  exact lX19_wouldTell_14 hst F hA E  _ x0 x1 r1 (0) (0) hx0 hx1 hr (lv_sub hl [3, 4, 2, 1, 0] rfl) h
end SX19_wouldTell
set_option maxRecDepth 100000 in
theorem okX19_wouldTell (l : Launch) (D : va_G) (cy : Nat → ClassId) (B : Nat → Nat → Nat) (ids : List (Nat × Nat)) (hst : zSt B ids) (N : Nat) (x0 : Nat) (hx0 : (19, x0) ∈ ids) (x1 : Nat) (hx1 : (12, x1) ∈ ids) {z : St} {r : Int32} {z' : St} (hW : zWf ids z) (h : fX19_wouldTell N x0 x1 z = some (r, z')) : zM l yX19_wouldTell (zws yX19_wouldTell cX19_wouldTell 8 (some .int)) rmX19_wouldTell D cy B ids [.ref (B 19 x0), .ref (B 12 x1)] (some (.int r)) True z z' :=
  zM_of hst hW (by decide +kernel) (Nat.le_of_ble_eq_true rfl) (fun p e s m args below meth c A ls F hA hret hlocks hr hl => bX19_wouldTell_0 hst F hA (zEnd_i F hret hlocks) x0 x1 hx0 hx1 hr hl h)
