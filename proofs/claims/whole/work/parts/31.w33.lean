abbrev rmX19_leastSums : Room := { frames := 3, cells := 0, slots := 0, locals := 70 }
theorem hdX19_leastSums : yX19_leastSums.cls ≠ "java/lang/invoke/MethodHandle" ∧ yX19_leastSums.cls ≠ "java/lang/invoke/VarHandle" ∧ (parseMethodDescriptor yX19_leastSums.desc).map (fun d => d.parameters.length) = some 1 := by decide +kernel
theorem hroX19_leastSums_X19_ad : rmX19_ad.frames + 1 ≤ rmX19_leastSums.frames ∧ 8 + (3 + 11) + rmX19_ad.locals ≤ rmX19_leastSums.locals := by decide
theorem hroX19_leastSums_X19_costTo : rmX19_costTo.frames + 1 ≤ rmX19_leastSums.frames ∧ 8 + (5 + 11) + rmX19_costTo.locals ≤ rmX19_leastSums.locals := by decide
theorem hroX19_leastSums_X19_friendRow : rmX19_friendRow.frames + 1 ≤ rmX19_leastSums.frames ∧ 8 + (4 + 11) + rmX19_friendRow.locals ≤ rmX19_leastSums.locals := by decide
section SX19_leastSums
variable {p : Program} {l : Launch} {e : Env} {s : State} {m : MethodId} {args : Array Value} {below : List Frame} {meth : Method} {c : Code} {Q : State → Prop} {D : va_G} {cy : Nat → ClassId} {B : Nat → Nat → Nat} {ids : List (Nat × Nat)} {A : Nat → Prop}
def fX19_leastSums_32 (N : Nat) (K2 : Nat → Nat → Int32 → St → Option (Int32 × St)) (x0 : Nat) (x1 : Nat) (x2 : Int32) (s0 : Nat) (s1 : Int32) (s2 : Int32) (z : St) : Option (Int32 × St) := zk s1 256 <| zl (zsA z 190 s0 (Int32.toNatClampNeg s1) s2) fun z2 => zl (x2 + 1) fun v3 => K2 x0 x1 v3 z2
set_option maxHeartbeats 4000000 in
set_option maxRecDepth 100000 in
theorem bX19_leastSums_32 (hst : zSt B ids) (F : zFx p m c cX19_leastSums 7 s args RX19 D cy B ids A) (hA : ∀ q : Nat, s.heap.size ≤ q → A q) {r : Int32} {z' : St} (E : zEnd p l e rmX19_leastSums s m args below meth c cX19_leastSums D cy B ids A Q none z' .return_ True) {N : Nat} {K2 : Nat → Nat → Int32 → St → Option (Int32 × St)} (hK2 : ∀ (x0 : Nat) (x1 : Nat) (x2 : Int32) (hx0 : (19, x0) ∈ ids) (hx1 : (12, x1) ∈ ids) {z : St} {H : Heap} {locs : List Loc} {ls : Array Slot} (hr : zRep D cy B ids A s.heap z H locs) (hl : lv_has ls 7 [(0, .ref (B 19 x0)), (1, .ref (B 12 x1)), (2, .int x2)]), K2 x0 x1 x2 z = some (r, z') → W p l e rmX19_leastSums s m args below meth c H locs 0 0 Q (F0 m 2 ls [])) (x0 : Nat) (x1 : Nat) (x2 : Int32) (s0 : Nat) (s1 : Int32) (s2 : Int32) (hx0 : (19, x0) ∈ ids) (hx1 : (12, x1) ∈ ids) (hs0 : (190, s0) ∈ ids) {z : St} {H : Heap} {locs : List Loc} {ls : Array Slot} (hr : zRep D cy B ids A s.heap z H locs) (hl : lv_has ls 7 [(0, .ref (B 19 x0)), (1, .ref (B 12 x1)), (2, .int x2)]) (h : fX19_leastSums_32 N K2 x0 x1 x2 s0 s1 s2 z = some (r, z')) : W p l e rmX19_leastSums s m args below meth c H locs 0 0 Q (F0 m 32 ls [.int s2, .int s1, .ref (B 190 s0)]) := by
  unfold fX19_leastSums_32 at h
  replace h := zk_some h
  obtain ⟨c1, h⟩ := h
  refine zr_iast (k := 190) (by decide) rfl (by decide) F hs0 hr dX19_leastSums_32 c1 (fun H locs z2 ez2 hr => ?_)
  replace h := zl_sub ez2 h
  clear ez2
  obtain ⟨v3, ev3⟩ : ∃ y : Int32, y = (x2 + 1) := ⟨_, rfl⟩
  replace h := zl_sub ev3 h
  refine lv_iinc (v := v3) (lv' := [(2, .int v3), (0, .ref (B 19 x0)), (1, .ref (B 12 x1))]) F.1 F.2.1 dX19_leastSums_33 hl (k := 2) rfl (by rw [ev3]; rfl) (by decide) rfl (fun ls hl => ?_)
  refine lv_goto (tgt := 2) F.1 F.2.1 dX19_leastSums_36 (by decide) ?_
  exact hK2 x0 x1 v3 hx0 hx1 hr (lv_sub hl [1, 2, 0] rfl) h
def fX19_leastSums_159 (N : Nat) (K41 : Nat → Nat → Int32 → St → Option (Int32 × St)) (K57 : Nat → Nat → Int32 → Int32 → Int32 → St → Option (Int32 × St)) (x0 : Nat) (x1 : Nat) (x2 : Int32) (x3 : Int32) (x4 : Int32) (z : St) : Option (Int32 × St) := zl (x4 + 1) fun v1 => K57 x0 x1 x2 x3 v1 z
set_option maxHeartbeats 4000000 in
set_option maxRecDepth 100000 in
theorem bX19_leastSums_159 (hst : zSt B ids) (F : zFx p m c cX19_leastSums 7 s args RX19 D cy B ids A) (hA : ∀ q : Nat, s.heap.size ≤ q → A q) {r : Int32} {z' : St} (E : zEnd p l e rmX19_leastSums s m args below meth c cX19_leastSums D cy B ids A Q none z' .return_ True) {N : Nat} {K41 : Nat → Nat → Int32 → St → Option (Int32 × St)} {K57 : Nat → Nat → Int32 → Int32 → Int32 → St → Option (Int32 × St)} (hK41 : ∀ (x0 : Nat) (x1 : Nat) (x2 : Int32) (hx0 : (19, x0) ∈ ids) (hx1 : (12, x1) ∈ ids) {z : St} {H : Heap} {locs : List Loc} {ls : Array Slot} (hr : zRep D cy B ids A s.heap z H locs) (hl : lv_has ls 7 [(0, .ref (B 19 x0)), (1, .ref (B 12 x1)), (2, .int x2)]), K41 x0 x1 x2 z = some (r, z') → W p l e rmX19_leastSums s m args below meth c H locs 0 0 Q (F0 m 41 ls [])) (hK57 : ∀ (x0 : Nat) (x1 : Nat) (x2 : Int32) (x3 : Int32) (x4 : Int32) (hx0 : (19, x0) ∈ ids) (hx1 : (12, x1) ∈ ids) {z : St} {H : Heap} {locs : List Loc} {ls : Array Slot} (hr : zRep D cy B ids A s.heap z H locs) (hl : lv_has ls 7 [(0, .ref (B 19 x0)), (1, .ref (B 12 x1)), (2, .int x2), (3, .int x3), (4, .int x4)]), K57 x0 x1 x2 x3 x4 z = some (r, z') → W p l e rmX19_leastSums s m args below meth c H locs 0 0 Q (F0 m 57 ls [])) (x0 : Nat) (x1 : Nat) (x2 : Int32) (x3 : Int32) (x4 : Int32) (hx0 : (19, x0) ∈ ids) (hx1 : (12, x1) ∈ ids) {z : St} {H : Heap} {locs : List Loc} {ls : Array Slot} (hr : zRep D cy B ids A s.heap z H locs) (hl : lv_has ls 7 [(0, .ref (B 19 x0)), (1, .ref (B 12 x1)), (2, .int x2), (3, .int x3), (4, .int x4)]) (h : fX19_leastSums_159 N K41 K57 x0 x1 x2 x3 x4 z = some (r, z')) : W p l e rmX19_leastSums s m args below meth c H locs 0 0 Q (F0 m 159 ls []) := by
  unfold fX19_leastSums_159 at h
  obtain ⟨v1, ev1⟩ : ∃ y : Int32, y = (x4 + 1) := ⟨_, rfl⟩
  replace h := zl_sub ev1 h
  refine lv_iinc (v := v1) (lv' := [(4, .int v1), (0, .ref (B 19 x0)), (1, .ref (B 12 x1)), (2, .int x2), (3, .int x3)]) F.1 F.2.1 dX19_leastSums_159 hl (k := 4) rfl (by rw [ev1]; rfl) (by decide) rfl (fun ls hl => ?_)
  refine lv_goto (tgt := 57) F.1 F.2.1 dX19_leastSums_162 (by decide) ?_
  exact hK57 x0 x1 x2 x3 v1 hx0 hx1 hr (lv_sub hl [1, 2, 3, 4, 0] rfl) h
def fX19_leastSums_165 (N : Nat) (K41 : Nat → Nat → Int32 → St → Option (Int32 × St)) (x0 : Nat) (x1 : Nat) (x2 : Int32) (z : St) : Option (Int32 × St) := zl (x2 + 1) fun v1 => K41 x0 x1 v1 z
set_option maxHeartbeats 4000000 in
set_option maxRecDepth 100000 in
theorem bX19_leastSums_165 (hst : zSt B ids) (F : zFx p m c cX19_leastSums 7 s args RX19 D cy B ids A) (hA : ∀ q : Nat, s.heap.size ≤ q → A q) {r : Int32} {z' : St} (E : zEnd p l e rmX19_leastSums s m args below meth c cX19_leastSums D cy B ids A Q none z' .return_ True) {N : Nat} {K41 : Nat → Nat → Int32 → St → Option (Int32 × St)} (hK41 : ∀ (x0 : Nat) (x1 : Nat) (x2 : Int32) (hx0 : (19, x0) ∈ ids) (hx1 : (12, x1) ∈ ids) {z : St} {H : Heap} {locs : List Loc} {ls : Array Slot} (hr : zRep D cy B ids A s.heap z H locs) (hl : lv_has ls 7 [(0, .ref (B 19 x0)), (1, .ref (B 12 x1)), (2, .int x2)]), K41 x0 x1 x2 z = some (r, z') → W p l e rmX19_leastSums s m args below meth c H locs 0 0 Q (F0 m 41 ls [])) (x0 : Nat) (x1 : Nat) (x2 : Int32) (hx0 : (19, x0) ∈ ids) (hx1 : (12, x1) ∈ ids) {z : St} {H : Heap} {locs : List Loc} {ls : Array Slot} (hr : zRep D cy B ids A s.heap z H locs) (hl : lv_has ls 7 [(0, .ref (B 19 x0)), (1, .ref (B 12 x1)), (2, .int x2)]) (h : fX19_leastSums_165 N K41 x0 x1 x2 z = some (r, z')) : W p l e rmX19_leastSums s m args below meth c H locs 0 0 Q (F0 m 165 ls []) := by
  unfold fX19_leastSums_165 at h
  obtain ⟨v1, ev1⟩ : ∃ y : Int32, y = (x2 + 1) := ⟨_, rfl⟩
  replace h := zl_sub ev1 h
  refine lv_iinc (v := v1) (lv' := [(2, .int v1), (0, .ref (B 19 x0)), (1, .ref (B 12 x1))]) F.1 F.2.1 dX19_leastSums_165 hl (k := 2) rfl (by rw [ev1]; rfl) (by decide) rfl (fun ls hl => ?_)
  refine lv_goto (tgt := 41) F.1 F.2.1 dX19_leastSums_168 (by decide) ?_
  exact hK41 x0 x1 v1 hx0 hx1 hr (lv_sub hl [1, 2, 0] rfl) h
def fX19_leastSums_57b (N : Nat) (K41 : Nat → Nat → Int32 → St → Option (Int32 × St)) (K57 : Nat → Nat → Int32 → Int32 → Int32 → St → Option (Int32 × St)) (x0 : Nat) (x1 : Nat) (x2 : Int32) (x3 : Int32) (x4 : Int32) (z : St) : Option (Int32 × St) := if x3 = (-1 : Int32) then (fX19_leastSums_165 N K41 x0 x1 x2 z) else (zc (fX19_ad N x0 x3 (3 : Int32) z) fun r2 z3 => if r2 ≤ x4 then (fX19_leastSums_165 N K41 x0 x1 x2 z3) else (zc (fX19_friendRow N x0 x3 x4 (0 : Int32) z3) fun r7 z8 => zc (fX19_friendRow N x0 x3 x4 (2 : Int32) z8) fun r11 z12 => zk r7 16 <| if (zgA z12 150 x1 (Int32.toNatClampNeg r7)) = (-1 : Int32) then (fX19_leastSums_159 N K41 K57 x0 x1 x2 x3 x4 z12) else (zk r7 16 <| zc (fX19_friendRow N x0 x3 x4 (1 : Int32) z12) fun r18 z19 => zc (fX19_costTo N x0 (zgA z12 150 x1 (Int32.toNatClampNeg r7)) x2 r18 z19) fun r22 z23 => if r22 = (-1 : Int32) then (fX19_leastSums_159 N K41 K57 x0 x1 x2 x3 x4 z23) else (zk (((16 : Int32) * x2) + r7) 256 <| if (zgA z23 190 x0 (Int32.toNatClampNeg (((16 : Int32) * x2) + r7))) ≤ r11 then (fX19_leastSums_159 N K41 K57 x0 x1 x2 x3 x4 z23) else (zk (((16 : Int32) * x2) + r7) 256 <| zl (zsA z23 190 x0 (Int32.toNatClampNeg (((16 : Int32) * x2) + r7)) r11) fun z30 => fX19_leastSums_159 N K41 K57 x0 x1 x2 x3 x4 z30)))))
def fX19_leastSums_57 (N : Nat) (K41 : Nat → Nat → Int32 → St → Option (Int32 × St)) : Nat → Nat → Nat → Int32 → Int32 → Int32 → St → Option (Int32 × St)
  | 0 => fun _ _ _ _ _ _ => none
  | n + 1 => fX19_leastSums_57b N K41 (fX19_leastSums_57 N K41 n)
set_option maxHeartbeats 4000000 in
set_option maxRecDepth 100000 in
theorem bX19_leastSums_57 (hst : zSt B ids) (F : zFx p m c cX19_leastSums 7 s args RX19 D cy B ids A) (hA : ∀ q : Nat, s.heap.size ≤ q → A q) {r : Int32} {z' : St} (E : zEnd p l e rmX19_leastSums s m args below meth c cX19_leastSums D cy B ids A Q none z' .return_ True) {N : Nat} {K41 : Nat → Nat → Int32 → St → Option (Int32 × St)} {K57 : Nat → Nat → Int32 → Int32 → Int32 → St → Option (Int32 × St)} (hK41 : ∀ (x0 : Nat) (x1 : Nat) (x2 : Int32) (hx0 : (19, x0) ∈ ids) (hx1 : (12, x1) ∈ ids) {z : St} {H : Heap} {locs : List Loc} {ls : Array Slot} (hr : zRep D cy B ids A s.heap z H locs) (hl : lv_has ls 7 [(0, .ref (B 19 x0)), (1, .ref (B 12 x1)), (2, .int x2)]), K41 x0 x1 x2 z = some (r, z') → W p l e rmX19_leastSums s m args below meth c H locs 0 0 Q (F0 m 41 ls [])) (hK57 : ∀ (x0 : Nat) (x1 : Nat) (x2 : Int32) (x3 : Int32) (x4 : Int32) (hx0 : (19, x0) ∈ ids) (hx1 : (12, x1) ∈ ids) {z : St} {H : Heap} {locs : List Loc} {ls : Array Slot} (hr : zRep D cy B ids A s.heap z H locs) (hl : lv_has ls 7 [(0, .ref (B 19 x0)), (1, .ref (B 12 x1)), (2, .int x2), (3, .int x3), (4, .int x4)]), K57 x0 x1 x2 x3 x4 z = some (r, z') → W p l e rmX19_leastSums s m args below meth c H locs 0 0 Q (F0 m 57 ls [])) (x0 : Nat) (x1 : Nat) (x2 : Int32) (x3 : Int32) (x4 : Int32) (hx0 : (19, x0) ∈ ids) (hx1 : (12, x1) ∈ ids) {z : St} {H : Heap} {locs : List Loc} {ls : Array Slot} (hr : zRep D cy B ids A s.heap z H locs) (hl : lv_has ls 7 [(0, .ref (B 19 x0)), (1, .ref (B 12 x1)), (2, .int x2), (3, .int x3), (4, .int x4)]) (h : fX19_leastSums_57b N K41 K57 x0 x1 x2 x3 x4 z = some (r, z')) : W p l e rmX19_leastSums s m args below meth c H locs 0 0 Q (F0 m 57 ls []) := by
  unfold fX19_leastSums_57b at h
  refine lv_iload_n F.1 F.2.1 dX19_leastSums_57 rfl (lv_at hl 3 rfl) ?_
  refine lv_iconst (v := (-1 : Int32)) F.1 F.2.1 dX19_leastSums_58 (by decide) ?_
  refine lv_icmp_eq (tgt := 165) F.1 F.2.1 dX19_leastSums_59 (by decide) (fun c1 => ?_) (fun c1 => ?_)
  · replace h := zi_t c1 h
    exact bX19_leastSums_165 hst F hA E hK41 x0 x1 x2 hx0 hx1 hr (lv_sub hl [0, 1, 2] rfl) h
  · replace h := zi_f c1 h
    refine lv_iload F.1 F.2.1 dX19_leastSums_62 (lv_at hl 4 rfl) ?_
    refine lv_aload_n F.1 F.2.1 dX19_leastSums_64 rfl (lv_at hl 0 rfl) ?_
    refine lv_iload_n F.1 F.2.1 dX19_leastSums_65 rfl (lv_at hl 3 rfl) ?_
    refine lv_iconst (v := (3 : Int32)) F.1 F.2.1 dX19_leastSums_66 (by decide) ?_
    replace h := zc_some h
    obtain ⟨r2, z3, hc4, h⟩ := h
    refine zr_calli (zrun_V (As := [.int x3, .int (3 : Int32)]) (rest := [.int x4]) zq_2828 zq_2830 zs_X19_ad zq_2831 zq_4 hdX19_ad (by decide) (T := TX19) (N := 32) rfl (okX19_ad l D cy B ids hst N x0 hx0 x3  (3 : Int32)  hr.2.2 hc4) F hr hx0 hl.1 rfl (Nat.le_of_ble_eq_true rfl) dX19_leastSums_67 rfl rfl hroX19_leastSums_X19_ad ⟨Nat.zero_le _, Nat.zero_le _⟩) F hA hr (fun H locs hw5 hr => ?_)
    clear hc4
    refine lv_icmp_ge (tgt := 165) F.1 F.2.1 dX19_leastSums_70 (by decide) (fun c6 => ?_) (fun c6 => ?_)
    · replace h := zi_t c6 h
      exact bX19_leastSums_165 hst F hA E hK41 x0 x1 x2 hx0 hx1 hr (lv_sub hl [0, 1, 2] rfl) h
    · replace h := zi_f c6 h
      refine lv_aload_n F.1 F.2.1 dX19_leastSums_73 rfl (lv_at hl 0 rfl) ?_
      refine lv_iload_n F.1 F.2.1 dX19_leastSums_74 rfl (lv_at hl 3 rfl) ?_
      refine lv_iload F.1 F.2.1 dX19_leastSums_75 (lv_at hl 4 rfl) ?_
      refine lv_iconst (v := (0 : Int32)) F.1 F.2.1 dX19_leastSums_77 (by decide) ?_
      replace h := zc_some h
      obtain ⟨r7, z8, hc9, h⟩ := h
      refine zr_calli (zrun_V (As := [.int x3, .int x4, .int (0 : Int32)]) (rest := []) zq_2904 zq_2906 zs_X19_friendRow zq_2907 zq_4 hdX19_friendRow (by decide) (T := TX19) (N := 32) rfl (okX19_friendRow l D cy B ids hst N x0 hx0 x3  x4  (0 : Int32)  hr.2.2 hc9) F hr hx0 hl.1 rfl (by decide) dX19_leastSums_78 rfl rfl hroX19_leastSums_X19_friendRow ⟨Nat.zero_le _, Nat.zero_le _⟩) F hA hr (fun H locs hw10 hr => ?_)
      clear hc9
      refine lv_istore (lv' := [(5, .int r7), (0, .ref (B 19 x0)), (1, .ref (B 12 x1)), (2, .int x2), (3, .int x3), (4, .int x4)]) F.1 F.2.1 dX19_leastSums_81 hl (by decide) rfl (fun ls hl => ?_)
      refine lv_aload_n F.1 F.2.1 dX19_leastSums_83 rfl (lv_at hl 1 rfl) ?_
      refine lv_iload_n F.1 F.2.1 dX19_leastSums_84 rfl (lv_at hl 4 rfl) ?_
      refine lv_iload F.1 F.2.1 dX19_leastSums_85 (lv_at hl 5 rfl) ?_
      refine lv_iconst (v := (2 : Int32)) F.1 F.2.1 dX19_leastSums_87 (by decide) ?_
      replace h := zc_some h
      obtain ⟨r11, z12, hc13, h⟩ := h
      refine zr_calli (zrun_V (As := [.int x3, .int x4, .int (2 : Int32)]) (rest := []) zq_2904 zq_2906 zs_X19_friendRow zq_2907 zq_4 hdX19_friendRow (by decide) (T := TX19) (N := 32) rfl (okX19_friendRow l D cy B ids hst N x0 hx0 x3  x4  (2 : Int32)  hr.2.2 hc13) F hr hx0 hl.1 rfl (by decide) dX19_leastSums_88 rfl rfl hroX19_leastSums_X19_friendRow ⟨Nat.zero_le _, Nat.zero_le _⟩) F hA hr (fun H locs hw14 hr => ?_)
      clear hc13
      refine lv_istore (lv' := [(6, .int r11), (5, .int r7), (0, .ref (B 19 x0)), (1, .ref (B 12 x1)), (2, .int x2), (3, .int x3), (4, .int x4)]) F.1 F.2.1 dX19_leastSums_91 hl (by decide) rfl (fun ls hl => ?_)
      refine lv_aload_n F.1 F.2.1 dX19_leastSums_93 rfl (lv_at hl 3 rfl) ?_
      refine gf19_448 F hx1 hr dX19_leastSums_94 ?_
      refine lv_iload F.1 F.2.1 dX19_leastSums_97 (lv_at hl 1 rfl) ?_
      replace h := zk_some h
      obtain ⟨c15, h⟩ := h
      refine zr_iald (k := 150) (by decide) rfl (by decide) F (zal_a F hx1 (j := 14) rfl) hr dX19_leastSums_99 c15 ?_
      refine lv_iconst (v := (-1 : Int32)) F.1 F.2.1 dX19_leastSums_100 (by decide) ?_
      refine lv_icmp_eq (tgt := 159) F.1 F.2.1 dX19_leastSums_101 (by decide) (fun c16 => ?_) (fun c16 => ?_)
      · replace h := zi_t c16 h
        exact bX19_leastSums_159 hst F hA E hK41 hK57 x0 x1 x2 x3 x4 hx0 hx1 hr (lv_sub hl [2, 3, 4, 5, 6] rfl) h
      · replace h := zi_f c16 h
        refine lv_aload_n F.1 F.2.1 dX19_leastSums_104 rfl (lv_at hl 2 rfl) ?_
        refine lv_aload_n F.1 F.2.1 dX19_leastSums_105 rfl (lv_at hl 3 rfl) ?_
        refine gf19_448 F hx1 hr dX19_leastSums_106 ?_
        refine lv_iload F.1 F.2.1 dX19_leastSums_109 (lv_at hl 1 rfl) ?_
        replace h := zk_some h
        obtain ⟨c17, h⟩ := h
        refine zr_iald (k := 150) (by decide) rfl (by decide) F (zal_a F hx1 (j := 14) rfl) hr dX19_leastSums_111 c17 ?_
        refine lv_iload_n F.1 F.2.1 dX19_leastSums_112 rfl (lv_at hl 4 rfl) ?_
        refine lv_aload_n F.1 F.2.1 dX19_leastSums_113 rfl (lv_at hl 2 rfl) ?_
        refine lv_iload_n F.1 F.2.1 dX19_leastSums_114 rfl (lv_at hl 5 rfl) ?_
        refine lv_iload F.1 F.2.1 dX19_leastSums_115 (lv_at hl 6 rfl) ?_
        refine lv_iconst (v := (1 : Int32)) F.1 F.2.1 dX19_leastSums_117 (by decide) ?_
        replace h := zc_some h
        obtain ⟨r18, z19, hc20, h⟩ := h
        refine zr_calli (zrun_V (As := [.int x3, .int x4, .int (1 : Int32)]) (rest := [.int x2, .int (zgA z12 150 x1 (Int32.toNatClampNeg r7)), .ref (B 19 x0)]) zq_2904 zq_2906 zs_X19_friendRow zq_2907 zq_4 hdX19_friendRow (by decide) (T := TX19) (N := 32) rfl (okX19_friendRow l D cy B ids hst N x0 hx0 x3  x4  (1 : Int32)  hr.2.2 hc20) F hr hx0 hl.1 rfl (Nat.le_of_ble_eq_true rfl) dX19_leastSums_118 rfl rfl hroX19_leastSums_X19_friendRow ⟨Nat.zero_le _, Nat.zero_le _⟩) F hA hr (fun H locs hw21 hr => ?_)
        clear hc20
        replace h := zc_some h
        obtain ⟨r22, z23, hc24, h⟩ := h
        refine zr_calli (zrun_V (As := [.int (zgA z12 150 x1 (Int32.toNatClampNeg r7)), .int x2, .int r18]) (rest := []) zq_2912 zq_2914 zs_X19_costTo zq_2915 zq_4 hdX19_costTo (by decide) (T := TX19) (N := 32) rfl (okX19_costTo l D cy B ids hst N x0 hx0 (zgA z12 150 x1 (Int32.toNatClampNeg r7))  x2  r18  hr.2.2 hc24) F hr hx0 hl.1 rfl (by decide) dX19_leastSums_121 rfl rfl hroX19_leastSums_X19_costTo ⟨Nat.zero_le _, Nat.zero_le _⟩) F hA hr (fun H locs hw25 hr => ?_)
        clear hc24
        refine lv_iconst (v := (-1 : Int32)) F.1 F.2.1 dX19_leastSums_124 (by decide) ?_
        refine lv_icmp_eq (tgt := 159) F.1 F.2.1 dX19_leastSums_125 (by decide) (fun c26 => ?_) (fun c26 => ?_)
        · replace h := zi_t c26 h
          exact bX19_leastSums_159 hst F hA E hK41 hK57 x0 x1 x2 x3 x4 hx0 hx1 hr (lv_sub hl [2, 3, 4, 5, 6] rfl) h
        · replace h := zi_f c26 h
          refine lv_iload F.1 F.2.1 dX19_leastSums_128 (lv_at hl 0 rfl) ?_
          refine lv_aload_n F.1 F.2.1 dX19_leastSums_130 rfl (lv_at hl 2 rfl) ?_
          refine gf19_130 F hx0 hr dX19_leastSums_131 ?_
          refine lv_bipush (v := (16 : Int32)) F.1 F.2.1 dX19_leastSums_134 (by decide) ?_
          refine lv_iload_n F.1 F.2.1 dX19_leastSums_136 rfl (lv_at hl 4 rfl) ?_
          refine lv_imul F.1 F.2.1 dX19_leastSums_137 ?_
          refine lv_iload F.1 F.2.1 dX19_leastSums_138 (lv_at hl 1 rfl) ?_
          refine lv_iadd F.1 F.2.1 dX19_leastSums_140 ?_
          replace h := zk_some h
          obtain ⟨c27, h⟩ := h
          refine zr_iald (k := 190) (by decide) rfl (by decide) F (zal_a F hx0 (j := 29) rfl) hr dX19_leastSums_141 c27 ?_
          refine lv_icmp_ge (tgt := 159) F.1 F.2.1 dX19_leastSums_142 (by decide) (fun c28 => ?_) (fun c28 => ?_)
          · replace h := zi_t c28 h
            exact bX19_leastSums_159 hst F hA E hK41 hK57 x0 x1 x2 x3 x4 hx0 hx1 hr (lv_sub hl [2, 3, 4, 5, 6] rfl) h
          · replace h := zi_f c28 h
            refine lv_aload_n F.1 F.2.1 dX19_leastSums_145 rfl (lv_at hl 2 rfl) ?_
            refine gf19_130 F hx0 hr dX19_leastSums_146 ?_
            refine lv_bipush (v := (16 : Int32)) F.1 F.2.1 dX19_leastSums_149 (by decide) ?_
            refine lv_iload_n F.1 F.2.1 dX19_leastSums_151 rfl (lv_at hl 4 rfl) ?_
            refine lv_imul F.1 F.2.1 dX19_leastSums_152 ?_
            refine lv_iload F.1 F.2.1 dX19_leastSums_153 (lv_at hl 1 rfl) ?_
            refine lv_iadd F.1 F.2.1 dX19_leastSums_155 ?_
            refine lv_iload F.1 F.2.1 dX19_leastSums_156 (lv_at hl 0 rfl) ?_
            replace h := zk_some h
            obtain ⟨c29, h⟩ := h
            refine zr_iast (k := 190) (by decide) rfl (by decide) F (zal_a F hx0 (j := 29) rfl) hr dX19_leastSums_158 c29 (fun H locs z30 ez30 hr => ?_)
            replace h := zl_sub ez30 h
            clear ez30
            exact bX19_leastSums_159 hst F hA E hK41 hK57 x0 x1 x2 x3 x4 hx0 hx1 hr (lv_sub hl [2, 3, 4, 5, 6] rfl) h
theorem lX19_leastSums_57 (hst : zSt B ids) (F : zFx p m c cX19_leastSums 7 s args RX19 D cy B ids A) (hA : ∀ q : Nat, s.heap.size ≤ q → A q) {r : Int32} {z' : St} (E : zEnd p l e rmX19_leastSums s m args below meth c cX19_leastSums D cy B ids A Q none z' .return_ True) {N : Nat} {K41 : Nat → Nat → Int32 → St → Option (Int32 × St)} (hK41 : ∀ (x0 : Nat) (x1 : Nat) (x2 : Int32) (hx0 : (19, x0) ∈ ids) (hx1 : (12, x1) ∈ ids) {z : St} {H : Heap} {locs : List Loc} {ls : Array Slot} (hr : zRep D cy B ids A s.heap z H locs) (hl : lv_has ls 7 [(0, .ref (B 19 x0)), (1, .ref (B 12 x1)), (2, .int x2)]), K41 x0 x1 x2 z = some (r, z') → W p l e rmX19_leastSums s m args below meth c H locs 0 0 Q (F0 m 41 ls [])) : ∀ (n : Nat) (x0 : Nat) (x1 : Nat) (x2 : Int32) (x3 : Int32) (x4 : Int32) (hx0 : (19, x0) ∈ ids) (hx1 : (12, x1) ∈ ids) {z : St} {H : Heap} {locs : List Loc} {ls : Array Slot} (hr : zRep D cy B ids A s.heap z H locs) (hl : lv_has ls 7 [(0, .ref (B 19 x0)), (1, .ref (B 12 x1)), (2, .int x2), (3, .int x3), (4, .int x4)]), fX19_leastSums_57 N K41 n x0 x1 x2 x3 x4 z = some (r, z') → W p l e rmX19_leastSums s m args below meth c H locs 0 0 Q (F0 m 57 ls []) := by
  intro n
  induction n with
  | zero => intro x0 x1 x2 x3 x4 hx0 hx1 z H locs ls hr hl h; cases h
  | succ n ih => intro x0 x1 x2 x3 x4 hx0 hx1 z H locs ls hr hl h; exact bX19_leastSums_57 hst F hA E hK41 ih x0 x1 x2 x3 x4 hx0 hx1 hr hl h
def fX19_leastSums_268 (N : Nat) (K173 : Nat → Int32 → St → Option (Int32 × St)) (K181 : Nat → Int32 → Int32 → St → Option (Int32 × St)) (K190 : Nat → Int32 → Int32 → Int32 → St → Option (Int32 × St)) (x0 : Nat) (x2 : Int32) (x3 : Int32) (x4 : Int32) (s0 : Nat) (s1 : Int32) (s2 : Int32) (z : St) : Option (Int32 × St) := zk s1 256 <| zl (zsA z 190 s0 (Int32.toNatClampNeg s1) s2) fun z2 => zl (x4 + 1) fun v3 => K190 x0 x2 x3 v3 z2
set_option maxHeartbeats 4000000 in
set_option maxRecDepth 100000 in
theorem bX19_leastSums_268 (hst : zSt B ids) (F : zFx p m c cX19_leastSums 7 s args RX19 D cy B ids A) (hA : ∀ q : Nat, s.heap.size ≤ q → A q) {r : Int32} {z' : St} (E : zEnd p l e rmX19_leastSums s m args below meth c cX19_leastSums D cy B ids A Q none z' .return_ True) {N : Nat} {K173 : Nat → Int32 → St → Option (Int32 × St)} {K181 : Nat → Int32 → Int32 → St → Option (Int32 × St)} {K190 : Nat → Int32 → Int32 → Int32 → St → Option (Int32 × St)} (hK173 : ∀ (x0 : Nat) (x2 : Int32) (hx0 : (19, x0) ∈ ids) {z : St} {H : Heap} {locs : List Loc} {ls : Array Slot} (hr : zRep D cy B ids A s.heap z H locs) (hl : lv_has ls 7 [(0, .ref (B 19 x0)), (2, .int x2)]), K173 x0 x2 z = some (r, z') → W p l e rmX19_leastSums s m args below meth c H locs 0 0 Q (F0 m 173 ls [])) (hK181 : ∀ (x0 : Nat) (x2 : Int32) (x3 : Int32) (hx0 : (19, x0) ∈ ids) {z : St} {H : Heap} {locs : List Loc} {ls : Array Slot} (hr : zRep D cy B ids A s.heap z H locs) (hl : lv_has ls 7 [(0, .ref (B 19 x0)), (2, .int x2), (3, .int x3)]), K181 x0 x2 x3 z = some (r, z') → W p l e rmX19_leastSums s m args below meth c H locs 0 0 Q (F0 m 181 ls [])) (hK190 : ∀ (x0 : Nat) (x2 : Int32) (x3 : Int32) (x4 : Int32) (hx0 : (19, x0) ∈ ids) {z : St} {H : Heap} {locs : List Loc} {ls : Array Slot} (hr : zRep D cy B ids A s.heap z H locs) (hl : lv_has ls 7 [(0, .ref (B 19 x0)), (2, .int x2), (3, .int x3), (4, .int x4)]), K190 x0 x2 x3 x4 z = some (r, z') → W p l e rmX19_leastSums s m args below meth c H locs 0 0 Q (F0 m 190 ls [])) (x0 : Nat) (x2 : Int32) (x3 : Int32) (x4 : Int32) (s0 : Nat) (s1 : Int32) (s2 : Int32) (hx0 : (19, x0) ∈ ids) (hs0 : (190, s0) ∈ ids) {z : St} {H : Heap} {locs : List Loc} {ls : Array Slot} (hr : zRep D cy B ids A s.heap z H locs) (hl : lv_has ls 7 [(0, .ref (B 19 x0)), (2, .int x2), (3, .int x3), (4, .int x4)]) (h : fX19_leastSums_268 N K173 K181 K190 x0 x2 x3 x4 s0 s1 s2 z = some (r, z')) : W p l e rmX19_leastSums s m args below meth c H locs 0 0 Q (F0 m 268 ls [.int s2, .int s1, .ref (B 190 s0)]) := by
  unfold fX19_leastSums_268 at h
  replace h := zk_some h
  obtain ⟨c1, h⟩ := h
  refine zr_iast (k := 190) (by decide) rfl (by decide) F hs0 hr dX19_leastSums_268 c1 (fun H locs z2 ez2 hr => ?_)
  replace h := zl_sub ez2 h
  clear ez2
  obtain ⟨v3, ev3⟩ : ∃ y : Int32, y = (x4 + 1) := ⟨_, rfl⟩
  replace h := zl_sub ev3 h
  refine lv_iinc (v := v3) (lv' := [(4, .int v3), (0, .ref (B 19 x0)), (2, .int x2), (3, .int x3)]) F.1 F.2.1 dX19_leastSums_269 hl (k := 3) rfl (by rw [ev3]; rfl) (by decide) rfl (fun ls hl => ?_)
  refine lv_goto (tgt := 190) F.1 F.2.1 dX19_leastSums_272 (by decide) ?_
  exact hK190 x0 x2 x3 v3 hx0 hr (lv_sub hl [1, 2, 3, 0] rfl) h
def fX19_leastSums_190b (N : Nat) (K173 : Nat → Int32 → St → Option (Int32 × St)) (K181 : Nat → Int32 → Int32 → St → Option (Int32 × St)) (K190 : Nat → Int32 → Int32 → Int32 → St → Option (Int32 × St)) (x0 : Nat) (x2 : Int32) (x3 : Int32) (x4 : Int32) (z : St) : Option (Int32 × St) := if (16 : Int32) ≤ x4 then (zl (x3 + 1) fun v2 => K181 x0 x2 v2 z) else (zk (((16 : Int32) * x3) + x2) 256 <| zk (((16 : Int32) * x2) + x4) 256 <| zl ((zgA z 190 x0 (Int32.toNatClampNeg (((16 : Int32) * x3) + x2))) + (zgA z 190 x0 (Int32.toNatClampNeg (((16 : Int32) * x2) + x4)))) fun v5 => zk (((16 : Int32) * x3) + x4) 256 <| if (zgA z 190 x0 (Int32.toNatClampNeg (((16 : Int32) * x3) + x4))) ≤ v5 then (zk (((16 : Int32) * x3) + x4) 256 <| fX19_leastSums_268 N K173 K181 K190 x0 x2 x3 x4 x0 (((16 : Int32) * x3) + x4) (zgA z 190 x0 (Int32.toNatClampNeg (((16 : Int32) * x3) + x4))) z) else (fX19_leastSums_268 N K173 K181 K190 x0 x2 x3 x4 x0 (((16 : Int32) * x3) + x4) v5 z))
def fX19_leastSums_190 (N : Nat) (K173 : Nat → Int32 → St → Option (Int32 × St)) (K181 : Nat → Int32 → Int32 → St → Option (Int32 × St)) : Nat → Nat → Int32 → Int32 → Int32 → St → Option (Int32 × St)
  | 0 => fun _ _ _ _ _ => none
  | n + 1 => fX19_leastSums_190b N K173 K181 (fX19_leastSums_190 N K173 K181 n)
set_option maxHeartbeats 4000000 in
set_option maxRecDepth 100000 in
theorem bX19_leastSums_190 (hst : zSt B ids) (F : zFx p m c cX19_leastSums 7 s args RX19 D cy B ids A) (hA : ∀ q : Nat, s.heap.size ≤ q → A q) {r : Int32} {z' : St} (E : zEnd p l e rmX19_leastSums s m args below meth c cX19_leastSums D cy B ids A Q none z' .return_ True) {N : Nat} {K173 : Nat → Int32 → St → Option (Int32 × St)} {K181 : Nat → Int32 → Int32 → St → Option (Int32 × St)} {K190 : Nat → Int32 → Int32 → Int32 → St → Option (Int32 × St)} (hK173 : ∀ (x0 : Nat) (x2 : Int32) (hx0 : (19, x0) ∈ ids) {z : St} {H : Heap} {locs : List Loc} {ls : Array Slot} (hr : zRep D cy B ids A s.heap z H locs) (hl : lv_has ls 7 [(0, .ref (B 19 x0)), (2, .int x2)]), K173 x0 x2 z = some (r, z') → W p l e rmX19_leastSums s m args below meth c H locs 0 0 Q (F0 m 173 ls [])) (hK181 : ∀ (x0 : Nat) (x2 : Int32) (x3 : Int32) (hx0 : (19, x0) ∈ ids) {z : St} {H : Heap} {locs : List Loc} {ls : Array Slot} (hr : zRep D cy B ids A s.heap z H locs) (hl : lv_has ls 7 [(0, .ref (B 19 x0)), (2, .int x2), (3, .int x3)]), K181 x0 x2 x3 z = some (r, z') → W p l e rmX19_leastSums s m args below meth c H locs 0 0 Q (F0 m 181 ls [])) (hK190 : ∀ (x0 : Nat) (x2 : Int32) (x3 : Int32) (x4 : Int32) (hx0 : (19, x0) ∈ ids) {z : St} {H : Heap} {locs : List Loc} {ls : Array Slot} (hr : zRep D cy B ids A s.heap z H locs) (hl : lv_has ls 7 [(0, .ref (B 19 x0)), (2, .int x2), (3, .int x3), (4, .int x4)]), K190 x0 x2 x3 x4 z = some (r, z') → W p l e rmX19_leastSums s m args below meth c H locs 0 0 Q (F0 m 190 ls [])) (x0 : Nat) (x2 : Int32) (x3 : Int32) (x4 : Int32) (hx0 : (19, x0) ∈ ids) {z : St} {H : Heap} {locs : List Loc} {ls : Array Slot} (hr : zRep D cy B ids A s.heap z H locs) (hl : lv_has ls 7 [(0, .ref (B 19 x0)), (2, .int x2), (3, .int x3), (4, .int x4)]) (h : fX19_leastSums_190b N K173 K181 K190 x0 x2 x3 x4 z = some (r, z')) : W p l e rmX19_leastSums s m args below meth c H locs 0 0 Q (F0 m 190 ls []) := by
  unfold fX19_leastSums_190b at h
  refine lv_iload F.1 F.2.1 dX19_leastSums_190 (lv_at hl 3 rfl) ?_
  refine lv_bipush (v := (16 : Int32)) F.1 F.2.1 dX19_leastSums_192 (by decide) ?_
  refine lv_icmp_ge (tgt := 275) F.1 F.2.1 dX19_leastSums_194 (by decide) (fun c1 => ?_) (fun c1 => ?_)
  · replace h := zi_t c1 h
    obtain ⟨v2, ev2⟩ : ∃ y : Int32, y = (x3 + 1) := ⟨_, rfl⟩
    replace h := zl_sub ev2 h
    refine lv_iinc (v := v2) (lv' := [(3, .int v2), (0, .ref (B 19 x0)), (2, .int x2), (4, .int x4)]) F.1 F.2.1 dX19_leastSums_275 hl (k := 2) rfl (by rw [ev2]; rfl) (by decide) rfl (fun ls hl => ?_)
    refine lv_goto (tgt := 181) F.1 F.2.1 dX19_leastSums_278 (by decide) ?_
    exact hK181 x0 x2 v2 hx0 hr (lv_sub hl [1, 2, 0] rfl) h
  · replace h := zi_f c1 h
    refine lv_aload_n F.1 F.2.1 dX19_leastSums_197 rfl (lv_at hl 0 rfl) ?_
    refine gf19_130 F hx0 hr dX19_leastSums_198 ?_
    refine lv_bipush (v := (16 : Int32)) F.1 F.2.1 dX19_leastSums_201 (by decide) ?_
    refine lv_iload_n F.1 F.2.1 dX19_leastSums_203 rfl (lv_at hl 2 rfl) ?_
    refine lv_imul F.1 F.2.1 dX19_leastSums_204 ?_
    refine lv_iload_n F.1 F.2.1 dX19_leastSums_205 rfl (lv_at hl 1 rfl) ?_
    refine lv_iadd F.1 F.2.1 dX19_leastSums_206 ?_
    replace h := zk_some h
    obtain ⟨c3, h⟩ := h
    refine zr_iald (k := 190) (by decide) rfl (by decide) F (zal_a F hx0 (j := 29) rfl) hr dX19_leastSums_207 c3 ?_
    refine lv_aload_n F.1 F.2.1 dX19_leastSums_208 rfl (lv_at hl 0 rfl) ?_
    refine gf19_130 F hx0 hr dX19_leastSums_209 ?_
    refine lv_bipush (v := (16 : Int32)) F.1 F.2.1 dX19_leastSums_212 (by decide) ?_
    refine lv_iload_n F.1 F.2.1 dX19_leastSums_214 rfl (lv_at hl 1 rfl) ?_
    refine lv_imul F.1 F.2.1 dX19_leastSums_215 ?_
    refine lv_iload F.1 F.2.1 dX19_leastSums_216 (lv_at hl 3 rfl) ?_
    refine lv_iadd F.1 F.2.1 dX19_leastSums_218 ?_
    replace h := zk_some h
    obtain ⟨c4, h⟩ := h
    refine zr_iald (k := 190) (by decide) rfl (by decide) F (zal_a F hx0 (j := 29) rfl) hr dX19_leastSums_219 c4 ?_
    refine lv_iadd F.1 F.2.1 dX19_leastSums_220 ?_
    refine lv_topi (fun v5 ev5 => ?_)
    replace h := zl_sub ev5 h
    refine lv_istore (lv' := [(5, .int v5), (0, .ref (B 19 x0)), (2, .int x2), (3, .int x3), (4, .int x4)]) F.1 F.2.1 dX19_leastSums_221 hl (by decide) rfl (fun ls hl => ?_)
    refine lv_aload_n F.1 F.2.1 dX19_leastSums_223 rfl (lv_at hl 1 rfl) ?_
    refine gf19_130 F hx0 hr dX19_leastSums_224 ?_
    refine lv_bipush (v := (16 : Int32)) F.1 F.2.1 dX19_leastSums_227 (by decide) ?_
    refine lv_iload_n F.1 F.2.1 dX19_leastSums_229 rfl (lv_at hl 3 rfl) ?_
    refine lv_imul F.1 F.2.1 dX19_leastSums_230 ?_
    refine lv_iload F.1 F.2.1 dX19_leastSums_231 (lv_at hl 4 rfl) ?_
    refine lv_iadd F.1 F.2.1 dX19_leastSums_233 ?_
    refine lv_iload F.1 F.2.1 dX19_leastSums_234 (lv_at hl 0 rfl) ?_
    refine lv_aload_n F.1 F.2.1 dX19_leastSums_236 rfl (lv_at hl 1 rfl) ?_
    refine gf19_130 F hx0 hr dX19_leastSums_237 ?_
    refine lv_bipush (v := (16 : Int32)) F.1 F.2.1 dX19_leastSums_240 (by decide) ?_
    refine lv_iload_n F.1 F.2.1 dX19_leastSums_242 rfl (lv_at hl 3 rfl) ?_
    refine lv_imul F.1 F.2.1 dX19_leastSums_243 ?_
    refine lv_iload F.1 F.2.1 dX19_leastSums_244 (lv_at hl 4 rfl) ?_
    refine lv_iadd F.1 F.2.1 dX19_leastSums_246 ?_
    replace h := zk_some h
    obtain ⟨c6, h⟩ := h
    refine zr_iald (k := 190) (by decide) rfl (by decide) F (zal_a F hx0 (j := 29) rfl) hr dX19_leastSums_247 c6 ?_
    refine lv_icmp_ge (tgt := 256) F.1 F.2.1 dX19_leastSums_248 (by decide) (fun c7 => ?_) (fun c7 => ?_)
    · replace h := zi_t c7 h
      refine lv_aload_n F.1 F.2.1 dX19_leastSums_256 rfl (lv_at hl 1 rfl) ?_
      refine gf19_130 F hx0 hr dX19_leastSums_257 ?_
      refine lv_bipush (v := (16 : Int32)) F.1 F.2.1 dX19_leastSums_260 (by decide) ?_
      refine lv_iload_n F.1 F.2.1 dX19_leastSums_262 rfl (lv_at hl 3 rfl) ?_
      refine lv_imul F.1 F.2.1 dX19_leastSums_263 ?_
      refine lv_iload F.1 F.2.1 dX19_leastSums_264 (lv_at hl 4 rfl) ?_
      refine lv_iadd F.1 F.2.1 dX19_leastSums_266 ?_
      replace h := zk_some h
      obtain ⟨c8, h⟩ := h
      refine zr_iald (k := 190) (by decide) rfl (by decide) F (zal_a F hx0 (j := 29) rfl) hr dX19_leastSums_267 c8 ?_
      exact bX19_leastSums_268 hst F hA E hK173 hK181 hK190 x0 x2 x3 x4 x0 (((16 : Int32) * x3) + x4) (zgA z 190 x0 (Int32.toNatClampNeg (((16 : Int32) * x3) + x4))) hx0 (zal_a F hx0 (j := 29) rfl) hr (lv_sub hl [1, 2, 3, 4] rfl) h
    · replace h := zi_f c7 h
      refine lv_iload F.1 F.2.1 dX19_leastSums_251 (lv_at hl 0 rfl) ?_
      refine lv_goto (tgt := 268) F.1 F.2.1 dX19_leastSums_253 (by decide) ?_
      exact bX19_leastSums_268 hst F hA E hK173 hK181 hK190 x0 x2 x3 x4 x0 (((16 : Int32) * x3) + x4) v5 hx0 (zal_a F hx0 (j := 29) rfl) hr (lv_sub hl [1, 2, 3, 4] rfl) h
theorem lX19_leastSums_190 (hst : zSt B ids) (F : zFx p m c cX19_leastSums 7 s args RX19 D cy B ids A) (hA : ∀ q : Nat, s.heap.size ≤ q → A q) {r : Int32} {z' : St} (E : zEnd p l e rmX19_leastSums s m args below meth c cX19_leastSums D cy B ids A Q none z' .return_ True) {N : Nat} {K173 : Nat → Int32 → St → Option (Int32 × St)} {K181 : Nat → Int32 → Int32 → St → Option (Int32 × St)} (hK173 : ∀ (x0 : Nat) (x2 : Int32) (hx0 : (19, x0) ∈ ids) {z : St} {H : Heap} {locs : List Loc} {ls : Array Slot} (hr : zRep D cy B ids A s.heap z H locs) (hl : lv_has ls 7 [(0, .ref (B 19 x0)), (2, .int x2)]), K173 x0 x2 z = some (r, z') → W p l e rmX19_leastSums s m args below meth c H locs 0 0 Q (F0 m 173 ls [])) (hK181 : ∀ (x0 : Nat) (x2 : Int32) (x3 : Int32) (hx0 : (19, x0) ∈ ids) {z : St} {H : Heap} {locs : List Loc} {ls : Array Slot} (hr : zRep D cy B ids A s.heap z H locs) (hl : lv_has ls 7 [(0, .ref (B 19 x0)), (2, .int x2), (3, .int x3)]), K181 x0 x2 x3 z = some (r, z') → W p l e rmX19_leastSums s m args below meth c H locs 0 0 Q (F0 m 181 ls [])) : ∀ (n : Nat) (x0 : Nat) (x2 : Int32) (x3 : Int32) (x4 : Int32) (hx0 : (19, x0) ∈ ids) {z : St} {H : Heap} {locs : List Loc} {ls : Array Slot} (hr : zRep D cy B ids A s.heap z H locs) (hl : lv_has ls 7 [(0, .ref (B 19 x0)), (2, .int x2), (3, .int x3), (4, .int x4)]), fX19_leastSums_190 N K173 K181 n x0 x2 x3 x4 z = some (r, z') → W p l e rmX19_leastSums s m args below meth c H locs 0 0 Q (F0 m 190 ls []) := by
  intro n
  induction n with
  | zero => intro x0 x2 x3 x4 hx0 z H locs ls hr hl h; cases h
  | succ n ih => intro x0 x2 x3 x4 hx0 z H locs ls hr hl h; exact bX19_leastSums_190 hst F hA E hK173 hK181 ih x0 x2 x3 x4 hx0 hr hl h
def fX19_leastSums_181b (N : Nat) (K173 : Nat → Int32 → St → Option (Int32 × St)) (K181 : Nat → Int32 → Int32 → St → Option (Int32 × St)) (x0 : Nat) (x2 : Int32) (x3 : Int32) (z : St) : Option (Int32 × St) := if (16 : Int32) ≤ x3 then (zl (x2 + 1) fun v2 => K173 x0 v2 z) else (fX19_leastSums_190 N K173 K181 N x0 x2 x3 (0 : Int32) z)
def fX19_leastSums_181 (N : Nat) (K173 : Nat → Int32 → St → Option (Int32 × St)) : Nat → Nat → Int32 → Int32 → St → Option (Int32 × St)
  | 0 => fun _ _ _ _ => none
  | n + 1 => fX19_leastSums_181b N K173 (fX19_leastSums_181 N K173 n)
set_option maxHeartbeats 4000000 in
set_option maxRecDepth 100000 in
theorem bX19_leastSums_181 (hst : zSt B ids) (F : zFx p m c cX19_leastSums 7 s args RX19 D cy B ids A) (hA : ∀ q : Nat, s.heap.size ≤ q → A q) {r : Int32} {z' : St} (E : zEnd p l e rmX19_leastSums s m args below meth c cX19_leastSums D cy B ids A Q none z' .return_ True) {N : Nat} {K173 : Nat → Int32 → St → Option (Int32 × St)} {K181 : Nat → Int32 → Int32 → St → Option (Int32 × St)} (hK173 : ∀ (x0 : Nat) (x2 : Int32) (hx0 : (19, x0) ∈ ids) {z : St} {H : Heap} {locs : List Loc} {ls : Array Slot} (hr : zRep D cy B ids A s.heap z H locs) (hl : lv_has ls 7 [(0, .ref (B 19 x0)), (2, .int x2)]), K173 x0 x2 z = some (r, z') → W p l e rmX19_leastSums s m args below meth c H locs 0 0 Q (F0 m 173 ls [])) (hK181 : ∀ (x0 : Nat) (x2 : Int32) (x3 : Int32) (hx0 : (19, x0) ∈ ids) {z : St} {H : Heap} {locs : List Loc} {ls : Array Slot} (hr : zRep D cy B ids A s.heap z H locs) (hl : lv_has ls 7 [(0, .ref (B 19 x0)), (2, .int x2), (3, .int x3)]), K181 x0 x2 x3 z = some (r, z') → W p l e rmX19_leastSums s m args below meth c H locs 0 0 Q (F0 m 181 ls [])) (x0 : Nat) (x2 : Int32) (x3 : Int32) (hx0 : (19, x0) ∈ ids) {z : St} {H : Heap} {locs : List Loc} {ls : Array Slot} (hr : zRep D cy B ids A s.heap z H locs) (hl : lv_has ls 7 [(0, .ref (B 19 x0)), (2, .int x2), (3, .int x3)]) (h : fX19_leastSums_181b N K173 K181 x0 x2 x3 z = some (r, z')) : W p l e rmX19_leastSums s m args below meth c H locs 0 0 Q (F0 m 181 ls []) := by
  unfold fX19_leastSums_181b at h
  refine lv_iload_n F.1 F.2.1 dX19_leastSums_181 rfl (lv_at hl 2 rfl) ?_
  refine lv_bipush (v := (16 : Int32)) F.1 F.2.1 dX19_leastSums_182 (by decide) ?_
  refine lv_icmp_ge (tgt := 281) F.1 F.2.1 dX19_leastSums_184 (by decide) (fun c1 => ?_) (fun c1 => ?_)
  · replace h := zi_t c1 h
    obtain ⟨v2, ev2⟩ : ∃ y : Int32, y = (x2 + 1) := ⟨_, rfl⟩
    replace h := zl_sub ev2 h
    refine lv_iinc (v := v2) (lv' := [(2, .int v2), (0, .ref (B 19 x0)), (3, .int x3)]) F.1 F.2.1 dX19_leastSums_281 hl (k := 1) rfl (by rw [ev2]; rfl) (by decide) rfl (fun ls hl => ?_)
    refine lv_goto (tgt := 173) F.1 F.2.1 dX19_leastSums_284 (by decide) ?_
    exact hK173 x0 v2 hx0 hr (lv_sub hl [1, 0] rfl) h
  · replace h := zi_f c1 h
    refine lv_iconst (v := (0 : Int32)) F.1 F.2.1 dX19_leastSums_187 (by decide) ?_
    refine lv_istore (lv' := [(4, .int (0 : Int32)), (0, .ref (B 19 x0)), (2, .int x2), (3, .int x3)]) F.1 F.2.1 dX19_leastSums_188 hl (by decide) rfl (fun ls hl => ?_)
    exact lX19_leastSums_190 hst F hA E hK173 hK181 _ x0 x2 x3 (0 : Int32) hx0 hr (lv_sub hl [1, 2, 3, 0] rfl) h
theorem lX19_leastSums_181 (hst : zSt B ids) (F : zFx p m c cX19_leastSums 7 s args RX19 D cy B ids A) (hA : ∀ q : Nat, s.heap.size ≤ q → A q) {r : Int32} {z' : St} (E : zEnd p l e rmX19_leastSums s m args below meth c cX19_leastSums D cy B ids A Q none z' .return_ True) {N : Nat} {K173 : Nat → Int32 → St → Option (Int32 × St)} (hK173 : ∀ (x0 : Nat) (x2 : Int32) (hx0 : (19, x0) ∈ ids) {z : St} {H : Heap} {locs : List Loc} {ls : Array Slot} (hr : zRep D cy B ids A s.heap z H locs) (hl : lv_has ls 7 [(0, .ref (B 19 x0)), (2, .int x2)]), K173 x0 x2 z = some (r, z') → W p l e rmX19_leastSums s m args below meth c H locs 0 0 Q (F0 m 173 ls [])) : ∀ (n : Nat) (x0 : Nat) (x2 : Int32) (x3 : Int32) (hx0 : (19, x0) ∈ ids) {z : St} {H : Heap} {locs : List Loc} {ls : Array Slot} (hr : zRep D cy B ids A s.heap z H locs) (hl : lv_has ls 7 [(0, .ref (B 19 x0)), (2, .int x2), (3, .int x3)]), fX19_leastSums_181 N K173 n x0 x2 x3 z = some (r, z') → W p l e rmX19_leastSums s m args below meth c H locs 0 0 Q (F0 m 181 ls []) := by
  intro n
  induction n with
  | zero => intro x0 x2 x3 hx0 z H locs ls hr hl h; cases h
  | succ n ih => intro x0 x2 x3 hx0 z H locs ls hr hl h; exact bX19_leastSums_181 hst F hA E hK173 ih x0 x2 x3 hx0 hr hl h
def fX19_leastSums_173b (N : Nat) (K173 : Nat → Int32 → St → Option (Int32 × St)) (x0 : Nat) (x2 : Int32) (z : St) : Option (Int32 × St) := if (16 : Int32) ≤ x2 then (some (0, z)) else (fX19_leastSums_181 N K173 N x0 x2 (0 : Int32) z)
def fX19_leastSums_173 (N : Nat)  : Nat → Nat → Int32 → St → Option (Int32 × St)
  | 0 => fun _ _ _ => none
  | n + 1 => fX19_leastSums_173b N (fX19_leastSums_173 N  n)
set_option maxHeartbeats 4000000 in
set_option maxRecDepth 100000 in
theorem bX19_leastSums_173 (hst : zSt B ids) (F : zFx p m c cX19_leastSums 7 s args RX19 D cy B ids A) (hA : ∀ q : Nat, s.heap.size ≤ q → A q) {r : Int32} {z' : St} (E : zEnd p l e rmX19_leastSums s m args below meth c cX19_leastSums D cy B ids A Q none z' .return_ True) {N : Nat} {K173 : Nat → Int32 → St → Option (Int32 × St)} (hK173 : ∀ (x0 : Nat) (x2 : Int32) (hx0 : (19, x0) ∈ ids) {z : St} {H : Heap} {locs : List Loc} {ls : Array Slot} (hr : zRep D cy B ids A s.heap z H locs) (hl : lv_has ls 7 [(0, .ref (B 19 x0)), (2, .int x2)]), K173 x0 x2 z = some (r, z') → W p l e rmX19_leastSums s m args below meth c H locs 0 0 Q (F0 m 173 ls [])) (x0 : Nat) (x2 : Int32) (hx0 : (19, x0) ∈ ids) {z : St} {H : Heap} {locs : List Loc} {ls : Array Slot} (hr : zRep D cy B ids A s.heap z H locs) (hl : lv_has ls 7 [(0, .ref (B 19 x0)), (2, .int x2)]) (h : fX19_leastSums_173b N K173 x0 x2 z = some (r, z')) : W p l e rmX19_leastSums s m args below meth c H locs 0 0 Q (F0 m 173 ls []) := by
  unfold fX19_leastSums_173b at h
  refine lv_iload_n F.1 F.2.1 dX19_leastSums_173 rfl (lv_at hl 1 rfl) ?_
  refine lv_bipush (v := (16 : Int32)) F.1 F.2.1 dX19_leastSums_174 (by decide) ?_
  refine lv_icmp_ge (tgt := 287) F.1 F.2.1 dX19_leastSums_176 (by decide) (fun c1 => ?_) (fun c1 => ?_)
  · replace h := zi_t c1 h
    obtain ⟨rfl, rfl⟩ := zret h
    exact E _ _ _ _ dX19_leastSums_287 trivial hr
  · replace h := zi_f c1 h
    refine lv_iconst (v := (0 : Int32)) F.1 F.2.1 dX19_leastSums_179 (by decide) ?_
    refine lv_istore_n (lv' := [(3, .int (0 : Int32)), (0, .ref (B 19 x0)), (2, .int x2)]) F.1 F.2.1 dX19_leastSums_180 rfl hl (by decide) rfl (fun ls hl => ?_)
    exact lX19_leastSums_181 hst F hA E hK173 _ x0 x2 (0 : Int32) hx0 hr (lv_sub hl [1, 2, 0] rfl) h
theorem lX19_leastSums_173 (hst : zSt B ids) (F : zFx p m c cX19_leastSums 7 s args RX19 D cy B ids A) (hA : ∀ q : Nat, s.heap.size ≤ q → A q) {r : Int32} {z' : St} (E : zEnd p l e rmX19_leastSums s m args below meth c cX19_leastSums D cy B ids A Q none z' .return_ True) {N : Nat}  : ∀ (n : Nat) (x0 : Nat) (x2 : Int32) (hx0 : (19, x0) ∈ ids) {z : St} {H : Heap} {locs : List Loc} {ls : Array Slot} (hr : zRep D cy B ids A s.heap z H locs) (hl : lv_has ls 7 [(0, .ref (B 19 x0)), (2, .int x2)]), fX19_leastSums_173 N  n x0 x2 z = some (r, z') → W p l e rmX19_leastSums s m args below meth c H locs 0 0 Q (F0 m 173 ls []) := by
  intro n
  induction n with
  | zero => intro x0 x2 hx0 z H locs ls hr hl h; cases h
  | succ n ih => intro x0 x2 hx0 z H locs ls hr hl h; exact bX19_leastSums_173 hst F hA E ih x0 x2 hx0 hr hl h
def fX19_leastSums_41b (N : Nat) (K41 : Nat → Nat → Int32 → St → Option (Int32 × St)) (x0 : Nat) (x1 : Nat) (x2 : Int32) (z : St) : Option (Int32 × St) := if (16 : Int32) ≤ x2 then (fX19_leastSums_173 N N x0 (0 : Int32) z) else (zk x2 16 <| zl (zgA z 150 x1 (Int32.toNatClampNeg x2)) fun v3 => fX19_leastSums_57 N K41 N x0 x1 x2 v3 (0 : Int32) z)
def fX19_leastSums_41 (N : Nat)  : Nat → Nat → Nat → Int32 → St → Option (Int32 × St)
  | 0 => fun _ _ _ _ => none
  | n + 1 => fX19_leastSums_41b N (fX19_leastSums_41 N  n)
set_option maxHeartbeats 4000000 in
set_option maxRecDepth 100000 in
theorem bX19_leastSums_41 (hst : zSt B ids) (F : zFx p m c cX19_leastSums 7 s args RX19 D cy B ids A) (hA : ∀ q : Nat, s.heap.size ≤ q → A q) {r : Int32} {z' : St} (E : zEnd p l e rmX19_leastSums s m args below meth c cX19_leastSums D cy B ids A Q none z' .return_ True) {N : Nat} {K41 : Nat → Nat → Int32 → St → Option (Int32 × St)} (hK41 : ∀ (x0 : Nat) (x1 : Nat) (x2 : Int32) (hx0 : (19, x0) ∈ ids) (hx1 : (12, x1) ∈ ids) {z : St} {H : Heap} {locs : List Loc} {ls : Array Slot} (hr : zRep D cy B ids A s.heap z H locs) (hl : lv_has ls 7 [(0, .ref (B 19 x0)), (1, .ref (B 12 x1)), (2, .int x2)]), K41 x0 x1 x2 z = some (r, z') → W p l e rmX19_leastSums s m args below meth c H locs 0 0 Q (F0 m 41 ls [])) (x0 : Nat) (x1 : Nat) (x2 : Int32) (hx0 : (19, x0) ∈ ids) (hx1 : (12, x1) ∈ ids) {z : St} {H : Heap} {locs : List Loc} {ls : Array Slot} (hr : zRep D cy B ids A s.heap z H locs) (hl : lv_has ls 7 [(0, .ref (B 19 x0)), (1, .ref (B 12 x1)), (2, .int x2)]) (h : fX19_leastSums_41b N K41 x0 x1 x2 z = some (r, z')) : W p l e rmX19_leastSums s m args below meth c H locs 0 0 Q (F0 m 41 ls []) := by
  unfold fX19_leastSums_41b at h
  refine lv_iload_n F.1 F.2.1 dX19_leastSums_41 rfl (lv_at hl 2 rfl) ?_
  refine lv_bipush (v := (16 : Int32)) F.1 F.2.1 dX19_leastSums_42 (by decide) ?_
  refine lv_icmp_ge (tgt := 171) F.1 F.2.1 dX19_leastSums_44 (by decide) (fun c1 => ?_) (fun c1 => ?_)
  · replace h := zi_t c1 h
    refine lv_iconst (v := (0 : Int32)) F.1 F.2.1 dX19_leastSums_171 (by decide) ?_
    refine lv_istore_n (lv' := [(2, .int (0 : Int32)), (0, .ref (B 19 x0)), (1, .ref (B 12 x1))]) F.1 F.2.1 dX19_leastSums_172 rfl hl (by decide) rfl (fun ls hl => ?_)
    exact lX19_leastSums_173 hst F hA E  _ x0 (0 : Int32) hx0 hr (lv_sub hl [1, 0] rfl) h
  · replace h := zi_f c1 h
    refine lv_aload_n F.1 F.2.1 dX19_leastSums_47 rfl (lv_at hl 1 rfl) ?_
    refine gf19_448 F hx1 hr dX19_leastSums_48 ?_
    refine lv_iload_n F.1 F.2.1 dX19_leastSums_51 rfl (lv_at hl 2 rfl) ?_
    replace h := zk_some h
    obtain ⟨c2, h⟩ := h
    refine zr_iald (k := 150) (by decide) rfl (by decide) F (zal_a F hx1 (j := 14) rfl) hr dX19_leastSums_52 c2 ?_
    refine lv_topi (fun v3 ev3 => ?_)
    replace h := zl_sub ev3 h
    refine lv_istore_n (lv' := [(3, .int v3), (0, .ref (B 19 x0)), (1, .ref (B 12 x1)), (2, .int x2)]) F.1 F.2.1 dX19_leastSums_53 rfl hl (by decide) rfl (fun ls hl => ?_)
    refine lv_iconst (v := (0 : Int32)) F.1 F.2.1 dX19_leastSums_54 (by decide) ?_
    refine lv_istore (lv' := [(4, .int (0 : Int32)), (3, .int v3), (0, .ref (B 19 x0)), (1, .ref (B 12 x1)), (2, .int x2)]) F.1 F.2.1 dX19_leastSums_55 hl (by decide) rfl (fun ls hl => ?_)
    exact lX19_leastSums_57 hst F hA E hK41 _ x0 x1 x2 v3 (0 : Int32) hx0 hx1 hr (lv_sub hl [2, 3, 4, 1, 0] rfl) h
theorem lX19_leastSums_41 (hst : zSt B ids) (F : zFx p m c cX19_leastSums 7 s args RX19 D cy B ids A) (hA : ∀ q : Nat, s.heap.size ≤ q → A q) {r : Int32} {z' : St} (E : zEnd p l e rmX19_leastSums s m args below meth c cX19_leastSums D cy B ids A Q none z' .return_ True) {N : Nat}  : ∀ (n : Nat) (x0 : Nat) (x1 : Nat) (x2 : Int32) (hx0 : (19, x0) ∈ ids) (hx1 : (12, x1) ∈ ids) {z : St} {H : Heap} {locs : List Loc} {ls : Array Slot} (hr : zRep D cy B ids A s.heap z H locs) (hl : lv_has ls 7 [(0, .ref (B 19 x0)), (1, .ref (B 12 x1)), (2, .int x2)]), fX19_leastSums_41 N  n x0 x1 x2 z = some (r, z') → W p l e rmX19_leastSums s m args below meth c H locs 0 0 Q (F0 m 41 ls []) := by
  intro n
  induction n with
  | zero => intro x0 x1 x2 hx0 hx1 z H locs ls hr hl h; cases h
  | succ n ih => intro x0 x1 x2 hx0 hx1 z H locs ls hr hl h; exact bX19_leastSums_41 hst F hA E ih x0 x1 x2 hx0 hx1 hr hl h
def fX19_leastSums_2b (N : Nat) (K2 : Nat → Nat → Int32 → St → Option (Int32 × St)) (x0 : Nat) (x1 : Nat) (x2 : Int32) (z : St) : Option (Int32 × St) := if (256 : Int32) ≤ x2 then (fX19_leastSums_41 N N x0 x1 (0 : Int32) z) else (if ¬ (x2 / (16 : Int32)) = (x2 - x2 / (16 : Int32) * (16 : Int32)) then (fX19_leastSums_32 N K2 x0 x1 x2 x0 x2 (1000000000 : Int32) z) else (fX19_leastSums_32 N K2 x0 x1 x2 x0 x2 (0 : Int32) z))
def fX19_leastSums_2 (N : Nat)  : Nat → Nat → Nat → Int32 → St → Option (Int32 × St)
  | 0 => fun _ _ _ _ => none
  | n + 1 => fX19_leastSums_2b N (fX19_leastSums_2 N  n)
set_option maxHeartbeats 4000000 in
set_option maxRecDepth 100000 in
theorem bX19_leastSums_2 (hst : zSt B ids) (F : zFx p m c cX19_leastSums 7 s args RX19 D cy B ids A) (hA : ∀ q : Nat, s.heap.size ≤ q → A q) {r : Int32} {z' : St} (E : zEnd p l e rmX19_leastSums s m args below meth c cX19_leastSums D cy B ids A Q none z' .return_ True) {N : Nat} {K2 : Nat → Nat → Int32 → St → Option (Int32 × St)} (hK2 : ∀ (x0 : Nat) (x1 : Nat) (x2 : Int32) (hx0 : (19, x0) ∈ ids) (hx1 : (12, x1) ∈ ids) {z : St} {H : Heap} {locs : List Loc} {ls : Array Slot} (hr : zRep D cy B ids A s.heap z H locs) (hl : lv_has ls 7 [(0, .ref (B 19 x0)), (1, .ref (B 12 x1)), (2, .int x2)]), K2 x0 x1 x2 z = some (r, z') → W p l e rmX19_leastSums s m args below meth c H locs 0 0 Q (F0 m 2 ls [])) (x0 : Nat) (x1 : Nat) (x2 : Int32) (hx0 : (19, x0) ∈ ids) (hx1 : (12, x1) ∈ ids) {z : St} {H : Heap} {locs : List Loc} {ls : Array Slot} (hr : zRep D cy B ids A s.heap z H locs) (hl : lv_has ls 7 [(0, .ref (B 19 x0)), (1, .ref (B 12 x1)), (2, .int x2)]) (h : fX19_leastSums_2b N K2 x0 x1 x2 z = some (r, z')) : W p l e rmX19_leastSums s m args below meth c H locs 0 0 Q (F0 m 2 ls []) := by
  unfold fX19_leastSums_2b at h
  refine lv_iload_n F.1 F.2.1 dX19_leastSums_2 rfl (lv_at hl 2 rfl) ?_
  refine lv_sipush (v := (256 : Int32)) F.1 F.2.1 dX19_leastSums_3 (by decide) ?_
  refine lv_icmp_ge (tgt := 39) F.1 F.2.1 dX19_leastSums_6 (by decide) (fun c1 => ?_) (fun c1 => ?_)
  · replace h := zi_t c1 h
    refine lv_iconst (v := (0 : Int32)) F.1 F.2.1 dX19_leastSums_39 (by decide) ?_
    refine lv_istore_n (lv' := [(2, .int (0 : Int32)), (0, .ref (B 19 x0)), (1, .ref (B 12 x1))]) F.1 F.2.1 dX19_leastSums_40 rfl hl (by decide) rfl (fun ls hl => ?_)
    exact lX19_leastSums_41 hst F hA E  _ x0 x1 (0 : Int32) hx0 hx1 hr (lv_sub hl [1, 2, 0] rfl) h
  · replace h := zi_f c1 h
    refine lv_aload_n F.1 F.2.1 dX19_leastSums_9 rfl (lv_at hl 0 rfl) ?_
    refine gf19_130 F hx0 hr dX19_leastSums_10 ?_
    refine lv_iload_n F.1 F.2.1 dX19_leastSums_13 rfl (lv_at hl 2 rfl) ?_
    refine lv_iload_n F.1 F.2.1 dX19_leastSums_14 rfl (lv_at hl 2 rfl) ?_
    refine lv_bipush (v := (16 : Int32)) F.1 F.2.1 dX19_leastSums_15 (by decide) ?_
    refine lv_idiv F.1 F.2.1 dX19_leastSums_17 (by decide) ?_
    refine lv_iload_n F.1 F.2.1 dX19_leastSums_18 rfl (lv_at hl 2 rfl) ?_
    refine lv_bipush (v := (16 : Int32)) F.1 F.2.1 dX19_leastSums_19 (by decide) ?_
    refine lv_irem F.1 F.2.1 dX19_leastSums_21 (by decide) ?_
    refine lv_icmp_ne (tgt := 29) F.1 F.2.1 dX19_leastSums_22 (by decide) (fun c2 => ?_) (fun c2 => ?_)
    · replace h := zi_t c2 h
      refine lv_ldcw (v := (1000000000)) F.1 F.2.1 F.2.2.2.1 (F.2.2.2.2.1 _ zq_2903) dX19_leastSums_29 ?_
      exact bX19_leastSums_32 hst F hA E hK2 x0 x1 x2 x0 x2 (1000000000 : Int32) hx0 hx1 (zal_a F hx0 (j := 29) rfl) hr (lv_sub hl [0, 1, 2] rfl) h
    · replace h := zi_f (fun q => q c2) h
      refine lv_iconst (v := (0 : Int32)) F.1 F.2.1 dX19_leastSums_25 (by decide) ?_
      refine lv_goto (tgt := 32) F.1 F.2.1 dX19_leastSums_26 (by decide) ?_
      exact bX19_leastSums_32 hst F hA E hK2 x0 x1 x2 x0 x2 (0 : Int32) hx0 hx1 (zal_a F hx0 (j := 29) rfl) hr (lv_sub hl [0, 1, 2] rfl) h
theorem lX19_leastSums_2 (hst : zSt B ids) (F : zFx p m c cX19_leastSums 7 s args RX19 D cy B ids A) (hA : ∀ q : Nat, s.heap.size ≤ q → A q) {r : Int32} {z' : St} (E : zEnd p l e rmX19_leastSums s m args below meth c cX19_leastSums D cy B ids A Q none z' .return_ True) {N : Nat}  : ∀ (n : Nat) (x0 : Nat) (x1 : Nat) (x2 : Int32) (hx0 : (19, x0) ∈ ids) (hx1 : (12, x1) ∈ ids) {z : St} {H : Heap} {locs : List Loc} {ls : Array Slot} (hr : zRep D cy B ids A s.heap z H locs) (hl : lv_has ls 7 [(0, .ref (B 19 x0)), (1, .ref (B 12 x1)), (2, .int x2)]), fX19_leastSums_2 N  n x0 x1 x2 z = some (r, z') → W p l e rmX19_leastSums s m args below meth c H locs 0 0 Q (F0 m 2 ls []) := by
  intro n
  induction n with
  | zero => intro x0 x1 x2 hx0 hx1 z H locs ls hr hl h; cases h
  | succ n ih => intro x0 x1 x2 hx0 hx1 z H locs ls hr hl h; exact bX19_leastSums_2 hst F hA E ih x0 x1 x2 hx0 hx1 hr hl h
def fX19_leastSums (N : Nat)  (x0 : Nat) (x1 : Nat) (z : St) : Option (Int32 × St) := fX19_leastSums_2 N N x0 x1 (0 : Int32) z
set_option maxHeartbeats 4000000 in
set_option maxRecDepth 100000 in
theorem bX19_leastSums_0 (hst : zSt B ids) (F : zFx p m c cX19_leastSums 7 s args RX19 D cy B ids A) (hA : ∀ q : Nat, s.heap.size ≤ q → A q) {r : Int32} {z' : St} (E : zEnd p l e rmX19_leastSums s m args below meth c cX19_leastSums D cy B ids A Q none z' .return_ True) {N : Nat}  (x0 : Nat) (x1 : Nat) (hx0 : (19, x0) ∈ ids) (hx1 : (12, x1) ∈ ids) {z : St} {H : Heap} {locs : List Loc} {ls : Array Slot} (hr : zRep D cy B ids A s.heap z H locs) (hl : lv_has ls 7 [(0, .ref (B 19 x0)), (1, .ref (B 12 x1))]) (h : fX19_leastSums N x0 x1 z = some (r, z')) : W p l e rmX19_leastSums s m args below meth c H locs 0 0 Q (F0 m 0 ls []) := by
  unfold fX19_leastSums at h
  refine lv_iconst (v := (0 : Int32)) F.1 F.2.1 dX19_leastSums_0 (by decide) ?_
  refine lv_istore_n (lv' := [(2, .int (0 : Int32)), (0, .ref (B 19 x0)), (1, .ref (B 12 x1))]) F.1 F.2.1 dX19_leastSums_1 rfl hl (by decide) rfl (fun ls hl => ?_)
  exact lX19_leastSums_2 hst F hA E  _ x0 x1 (0 : Int32) hx0 hx1 hr (lv_sub hl [1, 2, 0] rfl) h
end SX19_leastSums
set_option maxRecDepth 100000 in
theorem okX19_leastSums (l : Launch) (D : va_G) (cy : Nat → ClassId) (B : Nat → Nat → Nat) (ids : List (Nat × Nat)) (hst : zSt B ids) (N : Nat) (x0 : Nat) (hx0 : (19, x0) ∈ ids) (x1 : Nat) (hx1 : (12, x1) ∈ ids) {z : St} {r : Int32} {z' : St} (hW : zWf ids z) (h : fX19_leastSums N x0 x1 z = some (r, z')) : zM l yX19_leastSums (zws yX19_leastSums cX19_leastSums 7 none) rmX19_leastSums D cy B ids [.ref (B 19 x0), .ref (B 12 x1)] none True z z' :=
  zM_of hst hW (by decide +kernel) (Nat.le_of_ble_eq_true rfl) (fun p e s m args below meth c A ls F hA hret hlocks hr hl => bX19_leastSums_0 hst F hA (zEnd_v F hret hlocks) x0 x1 hx0 hx1 hr hl h)
abbrev rmX19_farWay : Room := { frames := 3, cells := 0, slots := 0, locals := 70 }
theorem hdX19_farWay : yX19_farWay.cls ≠ "java/lang/invoke/MethodHandle" ∧ yX19_farWay.cls ≠ "java/lang/invoke/VarHandle" ∧ (parseMethodDescriptor yX19_farWay.desc).map (fun d => d.parameters.length) = some 2 := by decide +kernel
theorem hroX19_farWay_X19_ad : rmX19_ad.frames + 1 ≤ rmX19_farWay.frames ∧ 8 + (3 + 11) + rmX19_ad.locals ≤ rmX19_farWay.locals := by decide
theorem hroX19_farWay_X19_costOn : rmX19_costOn.frames + 1 ≤ rmX19_farWay.frames ∧ 8 + (4 + 11) + rmX19_costOn.locals ≤ rmX19_farWay.locals := by decide
theorem hroX19_farWay_X19_costTo : rmX19_costTo.frames + 1 ≤ rmX19_farWay.frames ∧ 8 + (5 + 11) + rmX19_costTo.locals ≤ rmX19_farWay.locals := by decide
theorem hroX19_farWay_X19_friendRow : rmX19_friendRow.frames + 1 ≤ rmX19_farWay.frames ∧ 8 + (4 + 11) + rmX19_friendRow.locals ≤ rmX19_farWay.locals := by decide
section SX19_farWay
variable {p : Program} {l : Launch} {e : Env} {s : State} {m : MethodId} {args : Array Value} {below : List Frame} {meth : Method} {c : Code} {Q : State → Prop} {D : va_G} {cy : Nat → ClassId} {B : Nat → Nat → Nat} {ids : List (Nat × Nat)} {A : Nat → Prop}
def fX19_farWay_75 (N : Nat) (K7 : Nat → Nat → Int32 → Int32 → Int32 → St → Option (Int32 × St)) (x0 : Nat) (x1 : Nat) (x2 : Int32) (x3 : Int32) (x4 : Int32) (z : St) : Option (Int32 × St) := zl (x4 + 1) fun v1 => K7 x0 x1 x2 x3 v1 z
set_option maxHeartbeats 4000000 in
set_option maxRecDepth 100000 in
theorem bX19_farWay_75 (hst : zSt B ids) (F : zFx p m c cX19_farWay 11 s args RX19 D cy B ids A) (hA : ∀ q : Nat, s.heap.size ≤ q → A q) {r : Int32} {z' : St} (E : zEnd p l e rmX19_farWay s m args below meth c cX19_farWay D cy B ids A Q none z' .return_ True) {N : Nat} {K7 : Nat → Nat → Int32 → Int32 → Int32 → St → Option (Int32 × St)} (hK7 : ∀ (x0 : Nat) (x1 : Nat) (x2 : Int32) (x3 : Int32) (x4 : Int32) (hx0 : (19, x0) ∈ ids) (hx1 : (12, x1) ∈ ids) {z : St} {H : Heap} {locs : List Loc} {ls : Array Slot} (hr : zRep D cy B ids A s.heap z H locs) (hl : lv_has ls 11 [(0, .ref (B 19 x0)), (1, .ref (B 12 x1)), (2, .int x2), (3, .int x3), (4, .int x4)]), K7 x0 x1 x2 x3 x4 z = some (r, z') → W p l e rmX19_farWay s m args below meth c H locs 0 0 Q (F0 m 7 ls [])) (x0 : Nat) (x1 : Nat) (x2 : Int32) (x3 : Int32) (x4 : Int32) (hx0 : (19, x0) ∈ ids) (hx1 : (12, x1) ∈ ids) {z : St} {H : Heap} {locs : List Loc} {ls : Array Slot} (hr : zRep D cy B ids A s.heap z H locs) (hl : lv_has ls 11 [(0, .ref (B 19 x0)), (1, .ref (B 12 x1)), (2, .int x2), (3, .int x3), (4, .int x4)]) (h : fX19_farWay_75 N K7 x0 x1 x2 x3 x4 z = some (r, z')) : W p l e rmX19_farWay s m args below meth c H locs 0 0 Q (F0 m 75 ls []) := by
  unfold fX19_farWay_75 at h
  obtain ⟨v1, ev1⟩ : ∃ y : Int32, y = (x4 + 1) := ⟨_, rfl⟩
  replace h := zl_sub ev1 h
  refine lv_iinc (v := v1) (lv' := [(4, .int v1), (0, .ref (B 19 x0)), (1, .ref (B 12 x1)), (2, .int x2), (3, .int x3)]) F.1 F.2.1 dX19_farWay_75 hl (k := 4) rfl (by rw [ev1]; rfl) (by decide) rfl (fun ls hl => ?_)
  refine lv_goto (tgt := 7) F.1 F.2.1 dX19_farWay_78 (by decide) ?_
  exact hK7 x0 x1 x2 x3 v1 hx0 hx1 hr (lv_sub hl [1, 2, 3, 4, 0] rfl) h
def fX19_farWay_311 (N : Nat) (K121 : Nat → Nat → Int32 → Int32 → Int32 → Int32 → St → Option (Int32 × St)) (K207 : Nat → Nat → Int32 → Int32 → Int32 → Int32 → Int32 → Int32 → Int32 → Int32 → St → Option (Int32 × St)) (x0 : Nat) (x1 : Nat) (x2 : Int32) (x3 : Int32) (x4 : Int32) (x5 : Int32) (x6 : Int32) (x7 : Int32) (x8 : Int32) (x9 : Int32) (z : St) : Option (Int32 × St) := zl (x9 + 1) fun v1 => K207 x0 x1 x2 x3 x4 x5 x6 x7 x8 v1 z
set_option maxHeartbeats 4000000 in
set_option maxRecDepth 100000 in
theorem bX19_farWay_311 (hst : zSt B ids) (F : zFx p m c cX19_farWay 11 s args RX19 D cy B ids A) (hA : ∀ q : Nat, s.heap.size ≤ q → A q) {r : Int32} {z' : St} (E : zEnd p l e rmX19_farWay s m args below meth c cX19_farWay D cy B ids A Q none z' .return_ True) {N : Nat} {K121 : Nat → Nat → Int32 → Int32 → Int32 → Int32 → St → Option (Int32 × St)} {K207 : Nat → Nat → Int32 → Int32 → Int32 → Int32 → Int32 → Int32 → Int32 → Int32 → St → Option (Int32 × St)} (hK121 : ∀ (x0 : Nat) (x1 : Nat) (x2 : Int32) (x3 : Int32) (x4 : Int32) (x5 : Int32) (hx0 : (19, x0) ∈ ids) (hx1 : (12, x1) ∈ ids) {z : St} {H : Heap} {locs : List Loc} {ls : Array Slot} (hr : zRep D cy B ids A s.heap z H locs) (hl : lv_has ls 11 [(0, .ref (B 19 x0)), (1, .ref (B 12 x1)), (2, .int x2), (3, .int x3), (4, .int x4), (5, .int x5)]), K121 x0 x1 x2 x3 x4 x5 z = some (r, z') → W p l e rmX19_farWay s m args below meth c H locs 0 0 Q (F0 m 121 ls [])) (hK207 : ∀ (x0 : Nat) (x1 : Nat) (x2 : Int32) (x3 : Int32) (x4 : Int32) (x5 : Int32) (x6 : Int32) (x7 : Int32) (x8 : Int32) (x9 : Int32) (hx0 : (19, x0) ∈ ids) (hx1 : (12, x1) ∈ ids) {z : St} {H : Heap} {locs : List Loc} {ls : Array Slot} (hr : zRep D cy B ids A s.heap z H locs) (hl : lv_has ls 11 [(0, .ref (B 19 x0)), (1, .ref (B 12 x1)), (2, .int x2), (3, .int x3), (4, .int x4), (5, .int x5), (6, .int x6), (7, .int x7), (8, .int x8), (9, .int x9)]), K207 x0 x1 x2 x3 x4 x5 x6 x7 x8 x9 z = some (r, z') → W p l e rmX19_farWay s m args below meth c H locs 0 0 Q (F0 m 207 ls [])) (x0 : Nat) (x1 : Nat) (x2 : Int32) (x3 : Int32) (x4 : Int32) (x5 : Int32) (x6 : Int32) (x7 : Int32) (x8 : Int32) (x9 : Int32) (hx0 : (19, x0) ∈ ids) (hx1 : (12, x1) ∈ ids) {z : St} {H : Heap} {locs : List Loc} {ls : Array Slot} (hr : zRep D cy B ids A s.heap z H locs) (hl : lv_has ls 11 [(0, .ref (B 19 x0)), (1, .ref (B 12 x1)), (2, .int x2), (3, .int x3), (4, .int x4), (5, .int x5), (6, .int x6), (7, .int x7), (8, .int x8), (9, .int x9)]) (h : fX19_farWay_311 N K121 K207 x0 x1 x2 x3 x4 x5 x6 x7 x8 x9 z = some (r, z')) : W p l e rmX19_farWay s m args below meth c H locs 0 0 Q (F0 m 311 ls []) := by
  unfold fX19_farWay_311 at h
  obtain ⟨v1, ev1⟩ : ∃ y : Int32, y = (x9 + 1) := ⟨_, rfl⟩
  replace h := zl_sub ev1 h
  refine lv_iinc (v := v1) (lv' := [(9, .int v1), (0, .ref (B 19 x0)), (1, .ref (B 12 x1)), (2, .int x2), (3, .int x3), (4, .int x4), (5, .int x5), (6, .int x6), (7, .int x7), (8, .int x8)]) F.1 F.2.1 dX19_farWay_311 hl (k := 9) rfl (by rw [ev1]; rfl) (by decide) rfl (fun ls hl => ?_)
  refine lv_goto (tgt := 207) F.1 F.2.1 dX19_farWay_314 (by decide) ?_
  exact hK207 x0 x1 x2 x3 x4 x5 x6 x7 x8 v1 hx0 hx1 hr (lv_sub hl [1, 2, 3, 4, 5, 6, 7, 8, 9, 0] rfl) h
def fX19_farWay_317 (N : Nat) (K121 : Nat → Nat → Int32 → Int32 → Int32 → Int32 → St → Option (Int32 × St)) (x0 : Nat) (x1 : Nat) (x2 : Int32) (x3 : Int32) (x4 : Int32) (x5 : Int32) (z : St) : Option (Int32 × St) := zl (x5 + 1) fun v1 => K121 x0 x1 x2 x3 x4 v1 z
set_option maxHeartbeats 4000000 in
set_option maxRecDepth 100000 in
theorem bX19_farWay_317 (hst : zSt B ids) (F : zFx p m c cX19_farWay 11 s args RX19 D cy B ids A) (hA : ∀ q : Nat, s.heap.size ≤ q → A q) {r : Int32} {z' : St} (E : zEnd p l e rmX19_farWay s m args below meth c cX19_farWay D cy B ids A Q none z' .return_ True) {N : Nat} {K121 : Nat → Nat → Int32 → Int32 → Int32 → Int32 → St → Option (Int32 × St)} (hK121 : ∀ (x0 : Nat) (x1 : Nat) (x2 : Int32) (x3 : Int32) (x4 : Int32) (x5 : Int32) (hx0 : (19, x0) ∈ ids) (hx1 : (12, x1) ∈ ids) {z : St} {H : Heap} {locs : List Loc} {ls : Array Slot} (hr : zRep D cy B ids A s.heap z H locs) (hl : lv_has ls 11 [(0, .ref (B 19 x0)), (1, .ref (B 12 x1)), (2, .int x2), (3, .int x3), (4, .int x4), (5, .int x5)]), K121 x0 x1 x2 x3 x4 x5 z = some (r, z') → W p l e rmX19_farWay s m args below meth c H locs 0 0 Q (F0 m 121 ls [])) (x0 : Nat) (x1 : Nat) (x2 : Int32) (x3 : Int32) (x4 : Int32) (x5 : Int32) (hx0 : (19, x0) ∈ ids) (hx1 : (12, x1) ∈ ids) {z : St} {H : Heap} {locs : List Loc} {ls : Array Slot} (hr : zRep D cy B ids A s.heap z H locs) (hl : lv_has ls 11 [(0, .ref (B 19 x0)), (1, .ref (B 12 x1)), (2, .int x2), (3, .int x3), (4, .int x4), (5, .int x5)]) (h : fX19_farWay_317 N K121 x0 x1 x2 x3 x4 x5 z = some (r, z')) : W p l e rmX19_farWay s m args below meth c H locs 0 0 Q (F0 m 317 ls []) := by
  unfold fX19_farWay_317 at h
  obtain ⟨v1, ev1⟩ : ∃ y : Int32, y = (x5 + 1) := ⟨_, rfl⟩
  replace h := zl_sub ev1 h
  refine lv_iinc (v := v1) (lv' := [(5, .int v1), (0, .ref (B 19 x0)), (1, .ref (B 12 x1)), (2, .int x2), (3, .int x3), (4, .int x4)]) F.1 F.2.1 dX19_farWay_317 hl (k := 5) rfl (by rw [ev1]; rfl) (by decide) rfl (fun ls hl => ?_)
  refine lv_goto (tgt := 121) F.1 F.2.1 dX19_farWay_320 (by decide) ?_
  exact hK121 x0 x1 x2 x3 x4 v1 hx0 hx1 hr (lv_sub hl [1, 2, 3, 4, 5, 0] rfl) h
def fX19_farWay_207b (N : Nat) (K121 : Nat → Nat → Int32 → Int32 → Int32 → Int32 → St → Option (Int32 × St)) (K207 : Nat → Nat → Int32 → Int32 → Int32 → Int32 → Int32 → Int32 → Int32 → Int32 → St → Option (Int32 × St)) (x0 : Nat) (x1 : Nat) (x2 : Int32) (x3 : Int32) (x4 : Int32) (x5 : Int32) (x6 : Int32) (x7 : Int32) (x8 : Int32) (x9 : Int32) (z : St) : Option (Int32 × St) := if x8 = 0 then (fX19_farWay_317 N K121 x0 x1 x2 x3 x4 x5 z) else (if (16 : Int32) ≤ x9 then (fX19_farWay_317 N K121 x0 x1 x2 x3 x4 x5 z) else (zk x2 24 <| if ¬ (zgA z 155 x1 (Int32.toNatClampNeg x2)) = (-1 : Int32) then (fX19_farWay_317 N K121 x0 x1 x2 x3 x4 x5 z) else (zk x9 16 <| zc (fX19_costOn N x0 (zgA z 150 x1 (Int32.toNatClampNeg x9)) x2 z) fun r6 z7 => if r6 = (-1 : Int32) then (fX19_farWay_311 N K121 K207 x0 x1 x2 x3 x4 x5 x6 x7 x8 x9 z7) else (if x9 = (zgI z7 12 0 x1) then (fX19_farWay_311 N K121 K207 x0 x1 x2 x3 x4 x5 x6 x7 x8 x9 z7) else (zc (fX19_friendRow N x0 x4 x5 (2 : Int32) z7) fun r12 z13 => zk (((16 : Int32) * x6) + x9) 256 <| if ¬ ((r12 + (zgA z13 190 x0 (Int32.toNatClampNeg (((16 : Int32) * x6) + x9)))) + r6) = x3 then (fX19_farWay_311 N K121 K207 x0 x1 x2 x3 x4 x5 x6 x7 x8 x9 z13) else (zk x2 24 <| zl (zsA z13 155 x1 (Int32.toNatClampNeg x2) x3) fun z19 => zk x2 24 <| zl (zsA z19 156 x1 (Int32.toNatClampNeg x2) x6) fun z21 => zk x2 24 <| zl (zsA z21 157 x1 (Int32.toNatClampNeg x2) x7) fun z23 => fX19_farWay_311 N K121 K207 x0 x1 x2 x3 x4 x5 x6 x7 x8 x9 z23))))))
def fX19_farWay_207 (N : Nat) (K121 : Nat → Nat → Int32 → Int32 → Int32 → Int32 → St → Option (Int32 × St)) : Nat → Nat → Nat → Int32 → Int32 → Int32 → Int32 → Int32 → Int32 → Int32 → Int32 → St → Option (Int32 × St)
  | 0 => fun _ _ _ _ _ _ _ _ _ _ _ => none
  | n + 1 => fX19_farWay_207b N K121 (fX19_farWay_207 N K121 n)
set_option maxHeartbeats 4000000 in
set_option maxRecDepth 100000 in
theorem bX19_farWay_207 (hst : zSt B ids) (F : zFx p m c cX19_farWay 11 s args RX19 D cy B ids A) (hA : ∀ q : Nat, s.heap.size ≤ q → A q) {r : Int32} {z' : St} (E : zEnd p l e rmX19_farWay s m args below meth c cX19_farWay D cy B ids A Q none z' .return_ True) {N : Nat} {K121 : Nat → Nat → Int32 → Int32 → Int32 → Int32 → St → Option (Int32 × St)} {K207 : Nat → Nat → Int32 → Int32 → Int32 → Int32 → Int32 → Int32 → Int32 → Int32 → St → Option (Int32 × St)} (hK121 : ∀ (x0 : Nat) (x1 : Nat) (x2 : Int32) (x3 : Int32) (x4 : Int32) (x5 : Int32) (hx0 : (19, x0) ∈ ids) (hx1 : (12, x1) ∈ ids) {z : St} {H : Heap} {locs : List Loc} {ls : Array Slot} (hr : zRep D cy B ids A s.heap z H locs) (hl : lv_has ls 11 [(0, .ref (B 19 x0)), (1, .ref (B 12 x1)), (2, .int x2), (3, .int x3), (4, .int x4), (5, .int x5)]), K121 x0 x1 x2 x3 x4 x5 z = some (r, z') → W p l e rmX19_farWay s m args below meth c H locs 0 0 Q (F0 m 121 ls [])) (hK207 : ∀ (x0 : Nat) (x1 : Nat) (x2 : Int32) (x3 : Int32) (x4 : Int32) (x5 : Int32) (x6 : Int32) (x7 : Int32) (x8 : Int32) (x9 : Int32) (hx0 : (19, x0) ∈ ids) (hx1 : (12, x1) ∈ ids) {z : St} {H : Heap} {locs : List Loc} {ls : Array Slot} (hr : zRep D cy B ids A s.heap z H locs) (hl : lv_has ls 11 [(0, .ref (B 19 x0)), (1, .ref (B 12 x1)), (2, .int x2), (3, .int x3), (4, .int x4), (5, .int x5), (6, .int x6), (7, .int x7), (8, .int x8), (9, .int x9)]), K207 x0 x1 x2 x3 x4 x5 x6 x7 x8 x9 z = some (r, z') → W p l e rmX19_farWay s m args below meth c H locs 0 0 Q (F0 m 207 ls [])) (x0 : Nat) (x1 : Nat) (x2 : Int32) (x3 : Int32) (x4 : Int32) (x5 : Int32) (x6 : Int32) (x7 : Int32) (x8 : Int32) (x9 : Int32) (hx0 : (19, x0) ∈ ids) (hx1 : (12, x1) ∈ ids) {z : St} {H : Heap} {locs : List Loc} {ls : Array Slot} (hr : zRep D cy B ids A s.heap z H locs) (hl : lv_has ls 11 [(0, .ref (B 19 x0)), (1, .ref (B 12 x1)), (2, .int x2), (3, .int x3), (4, .int x4), (5, .int x5), (6, .int x6), (7, .int x7), (8, .int x8), (9, .int x9)]) (h : fX19_farWay_207b N K121 K207 x0 x1 x2 x3 x4 x5 x6 x7 x8 x9 z = some (r, z')) : W p l e rmX19_farWay s m args below meth c H locs 0 0 Q (F0 m 207 ls []) := by
  unfold fX19_farWay_207b at h
  refine lv_iload F.1 F.2.1 dX19_farWay_207 (lv_at hl 8 rfl) ?_
  refine lv_if_eq (tgt := 317) F.1 F.2.1 dX19_farWay_209 (by decide) (fun c1 => ?_) (fun c1 => ?_)
  · replace h := zi_t c1 h
    exact bX19_farWay_317 hst F hA E hK121 x0 x1 x2 x3 x4 x5 hx0 hx1 hr (lv_sub hl [0, 1, 2, 3, 4, 5] rfl) h
  · replace h := zi_f c1 h
    refine lv_iload F.1 F.2.1 dX19_farWay_212 (lv_at hl 9 rfl) ?_
    refine lv_bipush (v := (16 : Int32)) F.1 F.2.1 dX19_farWay_214 (by decide) ?_
    refine lv_icmp_ge (tgt := 317) F.1 F.2.1 dX19_farWay_216 (by decide) (fun c2 => ?_) (fun c2 => ?_)
    · replace h := zi_t c2 h
      exact bX19_farWay_317 hst F hA E hK121 x0 x1 x2 x3 x4 x5 hx0 hx1 hr (lv_sub hl [0, 1, 2, 3, 4, 5] rfl) h
    · replace h := zi_f c2 h
      refine lv_aload_n F.1 F.2.1 dX19_farWay_219 rfl (lv_at hl 1 rfl) ?_
      refine gf19_301 F hx1 hr dX19_farWay_220 ?_
      refine lv_iload_n F.1 F.2.1 dX19_farWay_223 rfl (lv_at hl 2 rfl) ?_
      replace h := zk_some h
      obtain ⟨c3, h⟩ := h
      refine zr_iald (k := 155) (by decide) rfl (by decide) F (zal_a F hx1 (j := 25) rfl) hr dX19_farWay_224 c3 ?_
      refine lv_iconst (v := (-1 : Int32)) F.1 F.2.1 dX19_farWay_225 (by decide) ?_
      refine lv_icmp_ne (tgt := 317) F.1 F.2.1 dX19_farWay_226 (by decide) (fun c4 => ?_) (fun c4 => ?_)
      · replace h := zi_t c4 h
        exact bX19_farWay_317 hst F hA E hK121 x0 x1 x2 x3 x4 x5 hx0 hx1 hr (lv_sub hl [0, 1, 2, 3, 4, 5] rfl) h
      · replace h := zi_f (fun q => q c4) h
        refine lv_aload_n F.1 F.2.1 dX19_farWay_229 rfl (lv_at hl 0 rfl) ?_
        refine lv_aload_n F.1 F.2.1 dX19_farWay_230 rfl (lv_at hl 1 rfl) ?_
        refine gf19_448 F hx1 hr dX19_farWay_231 ?_
        refine lv_iload F.1 F.2.1 dX19_farWay_234 (lv_at hl 9 rfl) ?_
        replace h := zk_some h
        obtain ⟨c5, h⟩ := h
        refine zr_iald (k := 150) (by decide) rfl (by decide) F (zal_a F hx1 (j := 14) rfl) hr dX19_farWay_236 c5 ?_
        refine lv_iload_n F.1 F.2.1 dX19_farWay_237 rfl (lv_at hl 2 rfl) ?_
        replace h := zc_some h
        obtain ⟨r6, z7, hc8, h⟩ := h
        refine zr_calli (zrun_V (As := [.int (zgA z 150 x1 (Int32.toNatClampNeg x9)), .int x2]) (rest := []) zq_2920 zq_2922 zs_X19_costOn zq_2923 zq_4 hdX19_costOn (by decide) (T := TX19) (N := 32) rfl (okX19_costOn l D cy B ids hst N x0 hx0 (zgA z 150 x1 (Int32.toNatClampNeg x9))  x2  hr.2.2 hc8) F hr hx0 hl.1 rfl (by decide) dX19_farWay_238 rfl rfl hroX19_farWay_X19_costOn ⟨Nat.zero_le _, Nat.zero_le _⟩) F hA hr (fun H locs hw9 hr => ?_)
        clear hc8
        refine lv_istore (lv' := [(10, .int r6), (0, .ref (B 19 x0)), (1, .ref (B 12 x1)), (2, .int x2), (3, .int x3), (4, .int x4), (5, .int x5), (6, .int x6), (7, .int x7), (8, .int x8), (9, .int x9)]) F.1 F.2.1 dX19_farWay_241 hl (by decide) rfl (fun ls hl => ?_)
        refine lv_iload F.1 F.2.1 dX19_farWay_243 (lv_at hl 0 rfl) ?_
        refine lv_iconst (v := (-1 : Int32)) F.1 F.2.1 dX19_farWay_245 (by decide) ?_
        refine lv_icmp_eq (tgt := 311) F.1 F.2.1 dX19_farWay_246 (by decide) (fun c10 => ?_) (fun c10 => ?_)
        · replace h := zi_t c10 h
          exact bX19_farWay_311 hst F hA E hK121 hK207 x0 x1 x2 x3 x4 x5 x6 x7 x8 x9 hx0 hx1 hr (lv_sub hl [1, 2, 3, 4, 5, 6, 7, 8, 9, 10] rfl) h
        · replace h := zi_f c10 h
          refine lv_iload F.1 F.2.1 dX19_farWay_249 (lv_at hl 10 rfl) ?_
          refine lv_aload_n F.1 F.2.1 dX19_farWay_251 rfl (lv_at hl 2 rfl) ?_
          refine gf19_310 F hx1 hr dX19_farWay_252 ?_
          refine lv_icmp_eq (tgt := 311) F.1 F.2.1 dX19_farWay_255 (by decide) (fun c11 => ?_) (fun c11 => ?_)
          · replace h := zi_t c11 h
            exact bX19_farWay_311 hst F hA E hK121 hK207 x0 x1 x2 x3 x4 x5 x6 x7 x8 x9 hx0 hx1 hr (lv_sub hl [1, 2, 3, 4, 5, 6, 7, 8, 9, 10] rfl) h
          · replace h := zi_f c11 h
            refine lv_aload_n F.1 F.2.1 dX19_farWay_258 rfl (lv_at hl 1 rfl) ?_
            refine lv_iload F.1 F.2.1 dX19_farWay_259 (lv_at hl 5 rfl) ?_
            refine lv_iload F.1 F.2.1 dX19_farWay_261 (lv_at hl 6 rfl) ?_
            refine lv_iconst (v := (2 : Int32)) F.1 F.2.1 dX19_farWay_263 (by decide) ?_
            replace h := zc_some h
            obtain ⟨r12, z13, hc14, h⟩ := h
            refine zr_calli (zrun_V (As := [.int x4, .int x5, .int (2 : Int32)]) (rest := []) zq_2904 zq_2906 zs_X19_friendRow zq_2907 zq_4 hdX19_friendRow (by decide) (T := TX19) (N := 32) rfl (okX19_friendRow l D cy B ids hst N x0 hx0 x4  x5  (2 : Int32)  hr.2.2 hc14) F hr hx0 hl.1 rfl (by decide) dX19_farWay_264 rfl rfl hroX19_farWay_X19_friendRow ⟨Nat.zero_le _, Nat.zero_le _⟩) F hA hr (fun H locs hw15 hr => ?_)
            clear hc14
            refine lv_aload_n F.1 F.2.1 dX19_farWay_267 rfl (lv_at hl 1 rfl) ?_
            refine gf19_130 F hx0 hr dX19_farWay_268 ?_
            refine lv_bipush (v := (16 : Int32)) F.1 F.2.1 dX19_farWay_271 (by decide) ?_
            refine lv_iload F.1 F.2.1 dX19_farWay_273 (lv_at hl 7 rfl) ?_
            refine lv_imul F.1 F.2.1 dX19_farWay_275 ?_
            refine lv_iload F.1 F.2.1 dX19_farWay_276 (lv_at hl 10 rfl) ?_
            refine lv_iadd F.1 F.2.1 dX19_farWay_278 ?_
            replace h := zk_some h
            obtain ⟨c16, h⟩ := h
            refine zr_iald (k := 190) (by decide) rfl (by decide) F (zal_a F hx0 (j := 29) rfl) hr dX19_farWay_279 c16 ?_
            refine lv_iadd F.1 F.2.1 dX19_farWay_280 ?_
            refine lv_iload F.1 F.2.1 dX19_farWay_281 (lv_at hl 0 rfl) ?_
            refine lv_iadd F.1 F.2.1 dX19_farWay_283 ?_
            refine lv_iload_n F.1 F.2.1 dX19_farWay_284 rfl (lv_at hl 4 rfl) ?_
            refine lv_icmp_ne (tgt := 311) F.1 F.2.1 dX19_farWay_285 (by decide) (fun c17 => ?_) (fun c17 => ?_)
            · replace h := zi_t c17 h
              exact bX19_farWay_311 hst F hA E hK121 hK207 x0 x1 x2 x3 x4 x5 x6 x7 x8 x9 hx0 hx1 hr (lv_sub hl [1, 2, 3, 4, 5, 6, 7, 8, 9, 10] rfl) h
            · replace h := zi_f (fun q => q c17) h
              refine lv_aload_n F.1 F.2.1 dX19_farWay_288 rfl (lv_at hl 2 rfl) ?_
              refine gf19_301 F hx1 hr dX19_farWay_289 ?_
              refine lv_iload_n F.1 F.2.1 dX19_farWay_292 rfl (lv_at hl 3 rfl) ?_
              refine lv_iload_n F.1 F.2.1 dX19_farWay_293 rfl (lv_at hl 4 rfl) ?_
              replace h := zk_some h
              obtain ⟨c18, h⟩ := h
              refine zr_iast (k := 155) (by decide) rfl (by decide) F (zal_a F hx1 (j := 25) rfl) hr dX19_farWay_294 c18 (fun H locs z19 ez19 hr => ?_)
              replace h := zl_sub ez19 h
              clear ez19
              refine lv_aload_n F.1 F.2.1 dX19_farWay_295 rfl (lv_at hl 2 rfl) ?_
              refine gf19_307 F hx1 hr dX19_farWay_296 ?_
              refine lv_iload_n F.1 F.2.1 dX19_farWay_299 rfl (lv_at hl 3 rfl) ?_
              refine lv_iload F.1 F.2.1 dX19_farWay_300 (lv_at hl 7 rfl) ?_
              replace h := zk_some h
              obtain ⟨c20, h⟩ := h
              refine zr_iast (k := 156) (by decide) rfl (by decide) F (zal_a F hx1 (j := 26) rfl) hr dX19_farWay_302 c20 (fun H locs z21 ez21 hr => ?_)
              replace h := zl_sub ez21 h
              clear ez21
              refine lv_aload_n F.1 F.2.1 dX19_farWay_303 rfl (lv_at hl 2 rfl) ?_
              refine gf19_304 F hx1 hr dX19_farWay_304 ?_
              refine lv_iload_n F.1 F.2.1 dX19_farWay_307 rfl (lv_at hl 3 rfl) ?_
              refine lv_iload F.1 F.2.1 dX19_farWay_308 (lv_at hl 8 rfl) ?_
              replace h := zk_some h
              obtain ⟨c22, h⟩ := h
              refine zr_iast (k := 157) (by decide) rfl (by decide) F (zal_a F hx1 (j := 27) rfl) hr dX19_farWay_310 c22 (fun H locs z23 ez23 hr => ?_)
              replace h := zl_sub ez23 h
              clear ez23
              exact bX19_farWay_311 hst F hA E hK121 hK207 x0 x1 x2 x3 x4 x5 x6 x7 x8 x9 hx0 hx1 hr (lv_sub hl [1, 2, 3, 4, 5, 6, 7, 8, 9, 10] rfl) h
theorem lX19_farWay_207 (hst : zSt B ids) (F : zFx p m c cX19_farWay 11 s args RX19 D cy B ids A) (hA : ∀ q : Nat, s.heap.size ≤ q → A q) {r : Int32} {z' : St} (E : zEnd p l e rmX19_farWay s m args below meth c cX19_farWay D cy B ids A Q none z' .return_ True) {N : Nat} {K121 : Nat → Nat → Int32 → Int32 → Int32 → Int32 → St → Option (Int32 × St)} (hK121 : ∀ (x0 : Nat) (x1 : Nat) (x2 : Int32) (x3 : Int32) (x4 : Int32) (x5 : Int32) (hx0 : (19, x0) ∈ ids) (hx1 : (12, x1) ∈ ids) {z : St} {H : Heap} {locs : List Loc} {ls : Array Slot} (hr : zRep D cy B ids A s.heap z H locs) (hl : lv_has ls 11 [(0, .ref (B 19 x0)), (1, .ref (B 12 x1)), (2, .int x2), (3, .int x3), (4, .int x4), (5, .int x5)]), K121 x0 x1 x2 x3 x4 x5 z = some (r, z') → W p l e rmX19_farWay s m args below meth c H locs 0 0 Q (F0 m 121 ls [])) : ∀ (n : Nat) (x0 : Nat) (x1 : Nat) (x2 : Int32) (x3 : Int32) (x4 : Int32) (x5 : Int32) (x6 : Int32) (x7 : Int32) (x8 : Int32) (x9 : Int32) (hx0 : (19, x0) ∈ ids) (hx1 : (12, x1) ∈ ids) {z : St} {H : Heap} {locs : List Loc} {ls : Array Slot} (hr : zRep D cy B ids A s.heap z H locs) (hl : lv_has ls 11 [(0, .ref (B 19 x0)), (1, .ref (B 12 x1)), (2, .int x2), (3, .int x3), (4, .int x4), (5, .int x5), (6, .int x6), (7, .int x7), (8, .int x8), (9, .int x9)]), fX19_farWay_207 N K121 n x0 x1 x2 x3 x4 x5 x6 x7 x8 x9 z = some (r, z') → W p l e rmX19_farWay s m args below meth c H locs 0 0 Q (F0 m 207 ls []) := by
  intro n
  induction n with
  | zero => intro x0 x1 x2 x3 x4 x5 x6 x7 x8 x9 hx0 hx1 z H locs ls hr hl h; cases h
  | succ n ih => intro x0 x1 x2 x3 x4 x5 x6 x7 x8 x9 hx0 hx1 z H locs ls hr hl h; exact bX19_farWay_207 hst F hA E hK121 ih x0 x1 x2 x3 x4 x5 x6 x7 x8 x9 hx0 hx1 hr hl h
def fX19_farWay_202 (N : Nat) (K121 : Nat → Nat → Int32 → Int32 → Int32 → Int32 → St → Option (Int32 × St)) (x0 : Nat) (x1 : Nat) (x2 : Int32) (x3 : Int32) (x4 : Int32) (x5 : Int32) (x6 : Int32) (x7 : Int32) (s0 : Int32) (z : St) : Option (Int32 × St) := fX19_farWay_207 N K121 N x0 x1 x2 x3 x4 x5 x6 x7 s0 (0 : Int32) z
set_option maxHeartbeats 4000000 in
set_option maxRecDepth 100000 in
theorem bX19_farWay_202 (hst : zSt B ids) (F : zFx p m c cX19_farWay 11 s args RX19 D cy B ids A) (hA : ∀ q : Nat, s.heap.size ≤ q → A q) {r : Int32} {z' : St} (E : zEnd p l e rmX19_farWay s m args below meth c cX19_farWay D cy B ids A Q none z' .return_ True) {N : Nat} {K121 : Nat → Nat → Int32 → Int32 → Int32 → Int32 → St → Option (Int32 × St)} (hK121 : ∀ (x0 : Nat) (x1 : Nat) (x2 : Int32) (x3 : Int32) (x4 : Int32) (x5 : Int32) (hx0 : (19, x0) ∈ ids) (hx1 : (12, x1) ∈ ids) {z : St} {H : Heap} {locs : List Loc} {ls : Array Slot} (hr : zRep D cy B ids A s.heap z H locs) (hl : lv_has ls 11 [(0, .ref (B 19 x0)), (1, .ref (B 12 x1)), (2, .int x2), (3, .int x3), (4, .int x4), (5, .int x5)]), K121 x0 x1 x2 x3 x4 x5 z = some (r, z') → W p l e rmX19_farWay s m args below meth c H locs 0 0 Q (F0 m 121 ls [])) (x0 : Nat) (x1 : Nat) (x2 : Int32) (x3 : Int32) (x4 : Int32) (x5 : Int32) (x6 : Int32) (x7 : Int32) (s0 : Int32) (hx0 : (19, x0) ∈ ids) (hx1 : (12, x1) ∈ ids) {z : St} {H : Heap} {locs : List Loc} {ls : Array Slot} (hr : zRep D cy B ids A s.heap z H locs) (hl : lv_has ls 11 [(0, .ref (B 19 x0)), (1, .ref (B 12 x1)), (2, .int x2), (3, .int x3), (4, .int x4), (5, .int x5), (6, .int x6), (7, .int x7)]) (h : fX19_farWay_202 N K121 x0 x1 x2 x3 x4 x5 x6 x7 s0 z = some (r, z')) : W p l e rmX19_farWay s m args below meth c H locs 0 0 Q (F0 m 202 ls [.int s0]) := by
  unfold fX19_farWay_202 at h
  refine lv_istore (lv' := [(8, .int s0), (0, .ref (B 19 x0)), (1, .ref (B 12 x1)), (2, .int x2), (3, .int x3), (4, .int x4), (5, .int x5), (6, .int x6), (7, .int x7)]) F.1 F.2.1 dX19_farWay_202 hl (by decide) rfl (fun ls hl => ?_)
  refine lv_iconst (v := (0 : Int32)) F.1 F.2.1 dX19_farWay_204 (by decide) ?_
  refine lv_istore (lv' := [(9, .int (0 : Int32)), (8, .int s0), (0, .ref (B 19 x0)), (1, .ref (B 12 x1)), (2, .int x2), (3, .int x3), (4, .int x4), (5, .int x5), (6, .int x6), (7, .int x7)]) F.1 F.2.1 dX19_farWay_205 hl (by decide) rfl (fun ls hl => ?_)
  exact lX19_farWay_207 hst F hA E hK121 _ x0 x1 x2 x3 x4 x5 x6 x7 s0 (0 : Int32) hx0 hx1 hr (lv_sub hl [2, 3, 4, 5, 6, 7, 8, 9, 1, 0] rfl) h
def fX19_farWay_201 (N : Nat) (K121 : Nat → Nat → Int32 → Int32 → Int32 → Int32 → St → Option (Int32 × St)) (x0 : Nat) (x1 : Nat) (x2 : Int32) (x3 : Int32) (x4 : Int32) (x5 : Int32) (x6 : Int32) (x7 : Int32) (z : St) : Option (Int32 × St) := fX19_farWay_202 N K121 x0 x1 x2 x3 x4 x5 x6 x7 (0 : Int32) z
set_option maxHeartbeats 4000000 in
set_option maxRecDepth 100000 in
theorem bX19_farWay_201 (hst : zSt B ids) (F : zFx p m c cX19_farWay 11 s args RX19 D cy B ids A) (hA : ∀ q : Nat, s.heap.size ≤ q → A q) {r : Int32} {z' : St} (E : zEnd p l e rmX19_farWay s m args below meth c cX19_farWay D cy B ids A Q none z' .return_ True) {N : Nat} {K121 : Nat → Nat → Int32 → Int32 → Int32 → Int32 → St → Option (Int32 × St)} (hK121 : ∀ (x0 : Nat) (x1 : Nat) (x2 : Int32) (x3 : Int32) (x4 : Int32) (x5 : Int32) (hx0 : (19, x0) ∈ ids) (hx1 : (12, x1) ∈ ids) {z : St} {H : Heap} {locs : List Loc} {ls : Array Slot} (hr : zRep D cy B ids A s.heap z H locs) (hl : lv_has ls 11 [(0, .ref (B 19 x0)), (1, .ref (B 12 x1)), (2, .int x2), (3, .int x3), (4, .int x4), (5, .int x5)]), K121 x0 x1 x2 x3 x4 x5 z = some (r, z') → W p l e rmX19_farWay s m args below meth c H locs 0 0 Q (F0 m 121 ls [])) (x0 : Nat) (x1 : Nat) (x2 : Int32) (x3 : Int32) (x4 : Int32) (x5 : Int32) (x6 : Int32) (x7 : Int32) (hx0 : (19, x0) ∈ ids) (hx1 : (12, x1) ∈ ids) {z : St} {H : Heap} {locs : List Loc} {ls : Array Slot} (hr : zRep D cy B ids A s.heap z H locs) (hl : lv_has ls 11 [(0, .ref (B 19 x0)), (1, .ref (B 12 x1)), (2, .int x2), (3, .int x3), (4, .int x4), (5, .int x5), (6, .int x6), (7, .int x7)]) (h : fX19_farWay_201 N K121 x0 x1 x2 x3 x4 x5 x6 x7 z = some (r, z')) : W p l e rmX19_farWay s m args below meth c H locs 0 0 Q (F0 m 201 ls []) := by
  unfold fX19_farWay_201 at h
  refine lv_iconst (v := (0 : Int32)) F.1 F.2.1 dX19_farWay_201 (by decide) ?_
  exact bX19_farWay_202 hst F hA E hK121 x0 x1 x2 x3 x4 x5 x6 x7 (0 : Int32) hx0 hx1 hr (lv_sub hl [0, 1, 2, 3, 4, 5, 6, 7] rfl) h
def fX19_farWay_121b (N : Nat) (K121 : Nat → Nat → Int32 → Int32 → Int32 → Int32 → St → Option (Int32 × St)) (x0 : Nat) (x1 : Nat) (x2 : Int32) (x3 : Int32) (x4 : Int32) (x5 : Int32) (z : St) : Option (Int32 × St) := zc (fX19_ad N x0 x4 (3 : Int32) z) fun r1 z2 => if r1 ≤ x5 then (some (0, z2)) else (zk x2 24 <| if ¬ (zgA z2 155 x1 (Int32.toNatClampNeg x2)) = (-1 : Int32) then (some (0, z2)) else (zc (fX19_friendRow N x0 x4 x5 (0 : Int32) z2) fun r8 z9 => zc (fX19_friendRow N x0 x4 x5 (1 : Int32) z9) fun r12 z13 => zk r8 16 <| if (zgA z13 150 x1 (Int32.toNatClampNeg r8)) = (-1 : Int32) then (fX19_farWay_201 N K121 x0 x1 x2 x3 x4 x5 r8 r12 z13) else (zk r8 16 <| zc (fX19_costTo N x0 (zgA z13 150 x1 (Int32.toNatClampNeg r8)) (zgI z13 12 0 x1) r12 z13) fun r19 z20 => if r19 = (-1 : Int32) then (fX19_farWay_201 N K121 x0 x1 x2 x3 x4 x5 r8 r12 z20) else (fX19_farWay_202 N K121 x0 x1 x2 x3 x4 x5 r8 r12 (1 : Int32) z20))))
def fX19_farWay_121 (N : Nat)  : Nat → Nat → Nat → Int32 → Int32 → Int32 → Int32 → St → Option (Int32 × St)
  | 0 => fun _ _ _ _ _ _ _ => none
  | n + 1 => fX19_farWay_121b N (fX19_farWay_121 N  n)
set_option maxHeartbeats 4000000 in
set_option maxRecDepth 100000 in
theorem bX19_farWay_121 (hst : zSt B ids) (F : zFx p m c cX19_farWay 11 s args RX19 D cy B ids A) (hA : ∀ q : Nat, s.heap.size ≤ q → A q) {r : Int32} {z' : St} (E : zEnd p l e rmX19_farWay s m args below meth c cX19_farWay D cy B ids A Q none z' .return_ True) {N : Nat} {K121 : Nat → Nat → Int32 → Int32 → Int32 → Int32 → St → Option (Int32 × St)} (hK121 : ∀ (x0 : Nat) (x1 : Nat) (x2 : Int32) (x3 : Int32) (x4 : Int32) (x5 : Int32) (hx0 : (19, x0) ∈ ids) (hx1 : (12, x1) ∈ ids) {z : St} {H : Heap} {locs : List Loc} {ls : Array Slot} (hr : zRep D cy B ids A s.heap z H locs) (hl : lv_has ls 11 [(0, .ref (B 19 x0)), (1, .ref (B 12 x1)), (2, .int x2), (3, .int x3), (4, .int x4), (5, .int x5)]), K121 x0 x1 x2 x3 x4 x5 z = some (r, z') → W p l e rmX19_farWay s m args below meth c H locs 0 0 Q (F0 m 121 ls [])) (x0 : Nat) (x1 : Nat) (x2 : Int32) (x3 : Int32) (x4 : Int32) (x5 : Int32) (hx0 : (19, x0) ∈ ids) (hx1 : (12, x1) ∈ ids) {z : St} {H : Heap} {locs : List Loc} {ls : Array Slot} (hr : zRep D cy B ids A s.heap z H locs) (hl : lv_has ls 11 [(0, .ref (B 19 x0)), (1, .ref (B 12 x1)), (2, .int x2), (3, .int x3), (4, .int x4), (5, .int x5)]) (h : fX19_farWay_121b N K121 x0 x1 x2 x3 x4 x5 z = some (r, z')) : W p l e rmX19_farWay s m args below meth c H locs 0 0 Q (F0 m 121 ls []) := by
  unfold fX19_farWay_121b at h
  refine lv_iload F.1 F.2.1 dX19_farWay_121 (lv_at hl 5 rfl) ?_
  refine lv_aload_n F.1 F.2.1 dX19_farWay_123 rfl (lv_at hl 0 rfl) ?_
  refine lv_iload F.1 F.2.1 dX19_farWay_124 (lv_at hl 4 rfl) ?_
  refine lv_iconst (v := (3 : Int32)) F.1 F.2.1 dX19_farWay_126 (by decide) ?_
  replace h := zc_some h
  obtain ⟨r1, z2, hc3, h⟩ := h
  refine zr_calli (zrun_V (As := [.int x4, .int (3 : Int32)]) (rest := [.int x5]) zq_2828 zq_2830 zs_X19_ad zq_2831 zq_4 hdX19_ad (by decide) (T := TX19) (N := 32) rfl (okX19_ad l D cy B ids hst N x0 hx0 x4  (3 : Int32)  hr.2.2 hc3) F hr hx0 hl.1 rfl (Nat.le_of_ble_eq_true rfl) dX19_farWay_127 rfl rfl hroX19_farWay_X19_ad ⟨Nat.zero_le _, Nat.zero_le _⟩) F hA hr (fun H locs hw4 hr => ?_)
  clear hc3
  refine lv_icmp_ge (tgt := 323) F.1 F.2.1 dX19_farWay_130 (by decide) (fun c5 => ?_) (fun c5 => ?_)
  · replace h := zi_t c5 h
    obtain ⟨rfl, rfl⟩ := zret h
    exact E _ _ _ _ dX19_farWay_323 trivial hr
  · replace h := zi_f c5 h
    refine lv_aload_n F.1 F.2.1 dX19_farWay_133 rfl (lv_at hl 1 rfl) ?_
    refine gf19_301 F hx1 hr dX19_farWay_134 ?_
    refine lv_iload_n F.1 F.2.1 dX19_farWay_137 rfl (lv_at hl 2 rfl) ?_
    replace h := zk_some h
    obtain ⟨c6, h⟩ := h
    refine zr_iald (k := 155) (by decide) rfl (by decide) F (zal_a F hx1 (j := 25) rfl) hr dX19_farWay_138 c6 ?_
    refine lv_iconst (v := (-1 : Int32)) F.1 F.2.1 dX19_farWay_139 (by decide) ?_
    refine lv_icmp_ne (tgt := 323) F.1 F.2.1 dX19_farWay_140 (by decide) (fun c7 => ?_) (fun c7 => ?_)
    · replace h := zi_t c7 h
      obtain ⟨rfl, rfl⟩ := zret h
      exact E _ _ _ _ dX19_farWay_323 trivial hr
    · replace h := zi_f (fun q => q c7) h
      refine lv_aload_n F.1 F.2.1 dX19_farWay_143 rfl (lv_at hl 0 rfl) ?_
      refine lv_iload F.1 F.2.1 dX19_farWay_144 (lv_at hl 4 rfl) ?_
      refine lv_iload F.1 F.2.1 dX19_farWay_146 (lv_at hl 5 rfl) ?_
      refine lv_iconst (v := (0 : Int32)) F.1 F.2.1 dX19_farWay_148 (by decide) ?_
      replace h := zc_some h
      obtain ⟨r8, z9, hc10, h⟩ := h
      refine zr_calli (zrun_V (As := [.int x4, .int x5, .int (0 : Int32)]) (rest := []) zq_2904 zq_2906 zs_X19_friendRow zq_2907 zq_4 hdX19_friendRow (by decide) (T := TX19) (N := 32) rfl (okX19_friendRow l D cy B ids hst N x0 hx0 x4  x5  (0 : Int32)  hr.2.2 hc10) F hr hx0 hl.1 rfl (by decide) dX19_farWay_149 rfl rfl hroX19_farWay_X19_friendRow ⟨Nat.zero_le _, Nat.zero_le _⟩) F hA hr (fun H locs hw11 hr => ?_)
      clear hc10
      refine lv_istore (lv' := [(6, .int r8), (0, .ref (B 19 x0)), (1, .ref (B 12 x1)), (2, .int x2), (3, .int x3), (4, .int x4), (5, .int x5)]) F.1 F.2.1 dX19_farWay_152 hl (by decide) rfl (fun ls hl => ?_)
      refine lv_aload_n F.1 F.2.1 dX19_farWay_154 rfl (lv_at hl 1 rfl) ?_
      refine lv_iload F.1 F.2.1 dX19_farWay_155 (lv_at hl 5 rfl) ?_
      refine lv_iload F.1 F.2.1 dX19_farWay_157 (lv_at hl 6 rfl) ?_
      refine lv_iconst (v := (1 : Int32)) F.1 F.2.1 dX19_farWay_159 (by decide) ?_
      replace h := zc_some h
      obtain ⟨r12, z13, hc14, h⟩ := h
      refine zr_calli (zrun_V (As := [.int x4, .int x5, .int (1 : Int32)]) (rest := []) zq_2904 zq_2906 zs_X19_friendRow zq_2907 zq_4 hdX19_friendRow (by decide) (T := TX19) (N := 32) rfl (okX19_friendRow l D cy B ids hst N x0 hx0 x4  x5  (1 : Int32)  hr.2.2 hc14) F hr hx0 hl.1 rfl (by decide) dX19_farWay_160 rfl rfl hroX19_farWay_X19_friendRow ⟨Nat.zero_le _, Nat.zero_le _⟩) F hA hr (fun H locs hw15 hr => ?_)
      clear hc14
      refine lv_istore (lv' := [(7, .int r12), (6, .int r8), (0, .ref (B 19 x0)), (1, .ref (B 12 x1)), (2, .int x2), (3, .int x3), (4, .int x4), (5, .int x5)]) F.1 F.2.1 dX19_farWay_163 hl (by decide) rfl (fun ls hl => ?_)
      refine lv_aload_n F.1 F.2.1 dX19_farWay_165 rfl (lv_at hl 3 rfl) ?_
      refine gf19_448 F hx1 hr dX19_farWay_166 ?_
      refine lv_iload F.1 F.2.1 dX19_farWay_169 (lv_at hl 1 rfl) ?_
      replace h := zk_some h
      obtain ⟨c16, h⟩ := h
      refine zr_iald (k := 150) (by decide) rfl (by decide) F (zal_a F hx1 (j := 14) rfl) hr dX19_farWay_171 c16 ?_
      refine lv_iconst (v := (-1 : Int32)) F.1 F.2.1 dX19_farWay_172 (by decide) ?_
      refine lv_icmp_eq (tgt := 201) F.1 F.2.1 dX19_farWay_173 (by decide) (fun c17 => ?_) (fun c17 => ?_)
      · replace h := zi_t c17 h
        exact bX19_farWay_201 hst F hA E hK121 x0 x1 x2 x3 x4 x5 r8 r12 hx0 hx1 hr (lv_sub hl [2, 3, 4, 5, 6, 7, 1, 0] rfl) h
      · replace h := zi_f c17 h
        refine lv_aload_n F.1 F.2.1 dX19_farWay_176 rfl (lv_at hl 2 rfl) ?_
        refine lv_aload_n F.1 F.2.1 dX19_farWay_177 rfl (lv_at hl 3 rfl) ?_
        refine gf19_448 F hx1 hr dX19_farWay_178 ?_
        refine lv_iload F.1 F.2.1 dX19_farWay_181 (lv_at hl 1 rfl) ?_
        replace h := zk_some h
        obtain ⟨c18, h⟩ := h
        refine zr_iald (k := 150) (by decide) rfl (by decide) F (zal_a F hx1 (j := 14) rfl) hr dX19_farWay_183 c18 ?_
        refine lv_aload_n F.1 F.2.1 dX19_farWay_184 rfl (lv_at hl 3 rfl) ?_
        refine gf19_310 F hx1 hr dX19_farWay_185 ?_
        refine lv_iload F.1 F.2.1 dX19_farWay_188 (lv_at hl 0 rfl) ?_
        replace h := zc_some h
        obtain ⟨r19, z20, hc21, h⟩ := h
        refine zr_calli (zrun_V (As := [.int (zgA z13 150 x1 (Int32.toNatClampNeg r8)), .int (zgI z13 12 0 x1), .int r12]) (rest := []) zq_2912 zq_2914 zs_X19_costTo zq_2915 zq_4 hdX19_costTo (by decide) (T := TX19) (N := 32) rfl (okX19_costTo l D cy B ids hst N x0 hx0 (zgA z13 150 x1 (Int32.toNatClampNeg r8))  (zgI z13 12 0 x1)  r12  hr.2.2 hc21) F hr hx0 hl.1 rfl (by decide) dX19_farWay_190 rfl rfl hroX19_farWay_X19_costTo ⟨Nat.zero_le _, Nat.zero_le _⟩) F hA hr (fun H locs hw22 hr => ?_)
        clear hc21
        refine lv_iconst (v := (-1 : Int32)) F.1 F.2.1 dX19_farWay_193 (by decide) ?_
        refine lv_icmp_eq (tgt := 201) F.1 F.2.1 dX19_farWay_194 (by decide) (fun c23 => ?_) (fun c23 => ?_)
        · replace h := zi_t c23 h
          exact bX19_farWay_201 hst F hA E hK121 x0 x1 x2 x3 x4 x5 r8 r12 hx0 hx1 hr (lv_sub hl [2, 3, 4, 5, 6, 7, 1, 0] rfl) h
        · replace h := zi_f c23 h
          refine lv_iconst (v := (1 : Int32)) F.1 F.2.1 dX19_farWay_197 (by decide) ?_
          refine lv_goto (tgt := 202) F.1 F.2.1 dX19_farWay_198 (by decide) ?_
          exact bX19_farWay_202 hst F hA E hK121 x0 x1 x2 x3 x4 x5 r8 r12 (1 : Int32) hx0 hx1 hr (lv_sub hl [2, 3, 4, 5, 6, 7, 1, 0] rfl) h
theorem lX19_farWay_121 (hst : zSt B ids) (F : zFx p m c cX19_farWay 11 s args RX19 D cy B ids A) (hA : ∀ q : Nat, s.heap.size ≤ q → A q) {r : Int32} {z' : St} (E : zEnd p l e rmX19_farWay s m args below meth c cX19_farWay D cy B ids A Q none z' .return_ True) {N : Nat}  : ∀ (n : Nat) (x0 : Nat) (x1 : Nat) (x2 : Int32) (x3 : Int32) (x4 : Int32) (x5 : Int32) (hx0 : (19, x0) ∈ ids) (hx1 : (12, x1) ∈ ids) {z : St} {H : Heap} {locs : List Loc} {ls : Array Slot} (hr : zRep D cy B ids A s.heap z H locs) (hl : lv_has ls 11 [(0, .ref (B 19 x0)), (1, .ref (B 12 x1)), (2, .int x2), (3, .int x3), (4, .int x4), (5, .int x5)]), fX19_farWay_121 N  n x0 x1 x2 x3 x4 x5 z = some (r, z') → W p l e rmX19_farWay s m args below meth c H locs 0 0 Q (F0 m 121 ls []) := by
  intro n
  induction n with
  | zero => intro x0 x1 x2 x3 x4 x5 hx0 hx1 z H locs ls hr hl h; cases h
  | succ n ih => intro x0 x1 x2 x3 x4 x5 hx0 hx1 z H locs ls hr hl h; exact bX19_farWay_121 hst F hA E ih x0 x1 x2 x3 x4 x5 hx0 hx1 hr hl h
def fX19_farWay_7b (N : Nat) (K7 : Nat → Nat → Int32 → Int32 → Int32 → St → Option (Int32 × St)) (x0 : Nat) (x1 : Nat) (x2 : Int32) (x3 : Int32) (x4 : Int32) (z : St) : Option (Int32 × St) := if (16 : Int32) ≤ x4 then (if x3 = (1000000000 : Int32) then (some (0, z)) else (zk (zgI z 12 0 x1) 16 <| zc (fX19_costOn N x0 (zgA z 150 x1 (Int32.toNatClampNeg (zgI z 12 0 x1))) x2 z) fun r4 z5 => if ¬ r4 = x3 then (zk (zgI z5 12 0 x1) 16 <| zl (zgA z5 150 x1 (Int32.toNatClampNeg (zgI z5 12 0 x1))) fun v10 => fX19_farWay_121 N N x0 x1 x2 x3 v10 (0 : Int32) z5) else (some (0, z5)))) else (zk x4 16 <| zc (fX19_costOn N x0 (zgA z 150 x1 (Int32.toNatClampNeg x4)) x2 z) fun r12 z13 => if r12 = (-1 : Int32) then (fX19_farWay_75 N K7 x0 x1 x2 x3 x4 z13) else (zk (((16 : Int32) * (zgI z13 12 0 x1)) + x4) 256 <| if x3 ≤ ((zgA z13 190 x0 (Int32.toNatClampNeg (((16 : Int32) * (zgI z13 12 0 x1)) + x4))) + r12) then (fX19_farWay_75 N K7 x0 x1 x2 x3 x4 z13) else (zk (((16 : Int32) * (zgI z13 12 0 x1)) + x4) 256 <| zl ((zgA z13 190 x0 (Int32.toNatClampNeg (((16 : Int32) * (zgI z13 12 0 x1)) + x4))) + r12) fun v20 => fX19_farWay_75 N K7 x0 x1 x2 v20 x4 z13)))
def fX19_farWay_7 (N : Nat)  : Nat → Nat → Nat → Int32 → Int32 → Int32 → St → Option (Int32 × St)
  | 0 => fun _ _ _ _ _ _ => none
  | n + 1 => fX19_farWay_7b N (fX19_farWay_7 N  n)
set_option maxHeartbeats 4000000 in
set_option maxRecDepth 100000 in
theorem bX19_farWay_7 (hst : zSt B ids) (F : zFx p m c cX19_farWay 11 s args RX19 D cy B ids A) (hA : ∀ q : Nat, s.heap.size ≤ q → A q) {r : Int32} {z' : St} (E : zEnd p l e rmX19_farWay s m args below meth c cX19_farWay D cy B ids A Q none z' .return_ True) {N : Nat} {K7 : Nat → Nat → Int32 → Int32 → Int32 → St → Option (Int32 × St)} (hK7 : ∀ (x0 : Nat) (x1 : Nat) (x2 : Int32) (x3 : Int32) (x4 : Int32) (hx0 : (19, x0) ∈ ids) (hx1 : (12, x1) ∈ ids) {z : St} {H : Heap} {locs : List Loc} {ls : Array Slot} (hr : zRep D cy B ids A s.heap z H locs) (hl : lv_has ls 11 [(0, .ref (B 19 x0)), (1, .ref (B 12 x1)), (2, .int x2), (3, .int x3), (4, .int x4)]), K7 x0 x1 x2 x3 x4 z = some (r, z') → W p l e rmX19_farWay s m args below meth c H locs 0 0 Q (F0 m 7 ls [])) (x0 : Nat) (x1 : Nat) (x2 : Int32) (x3 : Int32) (x4 : Int32) (hx0 : (19, x0) ∈ ids) (hx1 : (12, x1) ∈ ids) {z : St} {H : Heap} {locs : List Loc} {ls : Array Slot} (hr : zRep D cy B ids A s.heap z H locs) (hl : lv_has ls 11 [(0, .ref (B 19 x0)), (1, .ref (B 12 x1)), (2, .int x2), (3, .int x3), (4, .int x4)]) (h : fX19_farWay_7b N K7 x0 x1 x2 x3 x4 z = some (r, z')) : W p l e rmX19_farWay s m args below meth c H locs 0 0 Q (F0 m 7 ls []) := by
  unfold fX19_farWay_7b at h
  refine lv_iload F.1 F.2.1 dX19_farWay_7 (lv_at hl 4 rfl) ?_
  refine lv_bipush (v := (16 : Int32)) F.1 F.2.1 dX19_farWay_9 (by decide) ?_
  refine lv_icmp_ge (tgt := 81) F.1 F.2.1 dX19_farWay_11 (by decide) (fun c1 => ?_) (fun c1 => ?_)
  · replace h := zi_t c1 h
    refine lv_iload_n F.1 F.2.1 dX19_farWay_81 rfl (lv_at hl 3 rfl) ?_
    refine lv_ldcw (v := (1000000000)) F.1 F.2.1 F.2.2.2.1 (F.2.2.2.2.1 _ zq_2903) dX19_farWay_82 ?_
    refine lv_icmp_eq (tgt := 106) F.1 F.2.1 dX19_farWay_85 (by decide) (fun c2 => ?_) (fun c2 => ?_)
    · replace h := zi_t c2 h
      obtain ⟨rfl, rfl⟩ := zret h
      exact E _ _ _ _ dX19_farWay_106 trivial hr
    · replace h := zi_f c2 h
      refine lv_aload_n F.1 F.2.1 dX19_farWay_88 rfl (lv_at hl 0 rfl) ?_
      refine lv_aload_n F.1 F.2.1 dX19_farWay_89 rfl (lv_at hl 1 rfl) ?_
      refine gf19_448 F hx1 hr dX19_farWay_90 ?_
      refine lv_aload_n F.1 F.2.1 dX19_farWay_93 rfl (lv_at hl 1 rfl) ?_
      refine gf19_310 F hx1 hr dX19_farWay_94 ?_
      replace h := zk_some h
      obtain ⟨c3, h⟩ := h
      refine zr_iald (k := 150) (by decide) rfl (by decide) F (zal_a F hx1 (j := 14) rfl) hr dX19_farWay_97 c3 ?_
      refine lv_iload_n F.1 F.2.1 dX19_farWay_98 rfl (lv_at hl 2 rfl) ?_
      replace h := zc_some h
      obtain ⟨r4, z5, hc6, h⟩ := h
      refine zr_calli (zrun_V (As := [.int (zgA z 150 x1 (Int32.toNatClampNeg (zgI z 12 0 x1))), .int x2]) (rest := []) zq_2920 zq_2922 zs_X19_costOn zq_2923 zq_4 hdX19_costOn (by decide) (T := TX19) (N := 32) rfl (okX19_costOn l D cy B ids hst N x0 hx0 (zgA z 150 x1 (Int32.toNatClampNeg (zgI z 12 0 x1)))  x2  hr.2.2 hc6) F hr hx0 hl.1 rfl (by decide) dX19_farWay_99 rfl rfl hroX19_farWay_X19_costOn ⟨Nat.zero_le _, Nat.zero_le _⟩) F hA hr (fun H locs hw7 hr => ?_)
      clear hc6
      refine lv_iload_n F.1 F.2.1 dX19_farWay_102 rfl (lv_at hl 3 rfl) ?_
      refine lv_icmp_ne (tgt := 107) F.1 F.2.1 dX19_farWay_103 (by decide) (fun c8 => ?_) (fun c8 => ?_)
      · replace h := zi_t c8 h
        refine lv_aload_n F.1 F.2.1 dX19_farWay_107 rfl (lv_at hl 1 rfl) ?_
        refine gf19_448 F hx1 hr dX19_farWay_108 ?_
        refine lv_aload_n F.1 F.2.1 dX19_farWay_111 rfl (lv_at hl 1 rfl) ?_
        refine gf19_310 F hx1 hr dX19_farWay_112 ?_
        replace h := zk_some h
        obtain ⟨c9, h⟩ := h
        refine zr_iald (k := 150) (by decide) rfl (by decide) F (zal_a F hx1 (j := 14) rfl) hr dX19_farWay_115 c9 ?_
        refine lv_topi (fun v10 ev10 => ?_)
        replace h := zl_sub ev10 h
        refine lv_istore (lv' := [(4, .int v10), (0, .ref (B 19 x0)), (1, .ref (B 12 x1)), (2, .int x2), (3, .int x3)]) F.1 F.2.1 dX19_farWay_116 hl (by decide) rfl (fun ls hl => ?_)
        refine lv_iconst (v := (0 : Int32)) F.1 F.2.1 dX19_farWay_118 (by decide) ?_
        refine lv_istore (lv' := [(5, .int (0 : Int32)), (4, .int v10), (0, .ref (B 19 x0)), (1, .ref (B 12 x1)), (2, .int x2), (3, .int x3)]) F.1 F.2.1 dX19_farWay_119 hl (by decide) rfl (fun ls hl => ?_)
        exact lX19_farWay_121 hst F hA E  _ x0 x1 x2 x3 v10 (0 : Int32) hx0 hx1 hr (lv_sub hl [2, 3, 4, 5, 1, 0] rfl) h
      · replace h := zi_f (fun q => q c8) h
        obtain ⟨rfl, rfl⟩ := zret h
        exact E _ _ _ _ dX19_farWay_106 trivial hr
  · replace h := zi_f c1 h
    refine lv_aload_n F.1 F.2.1 dX19_farWay_14 rfl (lv_at hl 0 rfl) ?_
    refine lv_aload_n F.1 F.2.1 dX19_farWay_15 rfl (lv_at hl 1 rfl) ?_
    refine gf19_448 F hx1 hr dX19_farWay_16 ?_
    refine lv_iload F.1 F.2.1 dX19_farWay_19 (lv_at hl 4 rfl) ?_
    replace h := zk_some h
    obtain ⟨c11, h⟩ := h
    refine zr_iald (k := 150) (by decide) rfl (by decide) F (zal_a F hx1 (j := 14) rfl) hr dX19_farWay_21 c11 ?_
    refine lv_iload_n F.1 F.2.1 dX19_farWay_22 rfl (lv_at hl 2 rfl) ?_
    replace h := zc_some h
    obtain ⟨r12, z13, hc14, h⟩ := h
    refine zr_calli (zrun_V (As := [.int (zgA z 150 x1 (Int32.toNatClampNeg x4)), .int x2]) (rest := []) zq_2920 zq_2922 zs_X19_costOn zq_2923 zq_4 hdX19_costOn (by decide) (T := TX19) (N := 32) rfl (okX19_costOn l D cy B ids hst N x0 hx0 (zgA z 150 x1 (Int32.toNatClampNeg x4))  x2  hr.2.2 hc14) F hr hx0 hl.1 rfl (by decide) dX19_farWay_23 rfl rfl hroX19_farWay_X19_costOn ⟨Nat.zero_le _, Nat.zero_le _⟩) F hA hr (fun H locs hw15 hr => ?_)
    clear hc14
    refine lv_istore (lv' := [(5, .int r12), (0, .ref (B 19 x0)), (1, .ref (B 12 x1)), (2, .int x2), (3, .int x3), (4, .int x4)]) F.1 F.2.1 dX19_farWay_26 hl (by decide) rfl (fun ls hl => ?_)
    refine lv_iload F.1 F.2.1 dX19_farWay_28 (lv_at hl 0 rfl) ?_
    refine lv_iconst (v := (-1 : Int32)) F.1 F.2.1 dX19_farWay_30 (by decide) ?_
    refine lv_icmp_eq (tgt := 75) F.1 F.2.1 dX19_farWay_31 (by decide) (fun c16 => ?_) (fun c16 => ?_)
    · replace h := zi_t c16 h
      exact bX19_farWay_75 hst F hA E hK7 x0 x1 x2 x3 x4 hx0 hx1 hr (lv_sub hl [1, 2, 3, 4, 5] rfl) h
    · replace h := zi_f c16 h
      refine lv_aload_n F.1 F.2.1 dX19_farWay_34 rfl (lv_at hl 1 rfl) ?_
      refine gf19_130 F hx0 hr dX19_farWay_35 ?_
      refine lv_bipush (v := (16 : Int32)) F.1 F.2.1 dX19_farWay_38 (by decide) ?_
      refine lv_aload_n F.1 F.2.1 dX19_farWay_40 rfl (lv_at hl 2 rfl) ?_
      refine gf19_310 F hx1 hr dX19_farWay_41 ?_
      refine lv_imul F.1 F.2.1 dX19_farWay_44 ?_
      refine lv_iload F.1 F.2.1 dX19_farWay_45 (lv_at hl 5 rfl) ?_
      refine lv_iadd F.1 F.2.1 dX19_farWay_47 ?_
      replace h := zk_some h
      obtain ⟨c17, h⟩ := h
      refine zr_iald (k := 190) (by decide) rfl (by decide) F (zal_a F hx0 (j := 29) rfl) hr dX19_farWay_48 c17 ?_
      refine lv_iload F.1 F.2.1 dX19_farWay_49 (lv_at hl 0 rfl) ?_
      refine lv_iadd F.1 F.2.1 dX19_farWay_51 ?_
      refine lv_iload_n F.1 F.2.1 dX19_farWay_52 rfl (lv_at hl 4 rfl) ?_
      refine lv_icmp_ge (tgt := 75) F.1 F.2.1 dX19_farWay_53 (by decide) (fun c18 => ?_) (fun c18 => ?_)
      · replace h := zi_t c18 h
        exact bX19_farWay_75 hst F hA E hK7 x0 x1 x2 x3 x4 hx0 hx1 hr (lv_sub hl [1, 2, 3, 4, 5] rfl) h
      · replace h := zi_f c18 h
        refine lv_aload_n F.1 F.2.1 dX19_farWay_56 rfl (lv_at hl 1 rfl) ?_
        refine gf19_130 F hx0 hr dX19_farWay_57 ?_
        refine lv_bipush (v := (16 : Int32)) F.1 F.2.1 dX19_farWay_60 (by decide) ?_
        refine lv_aload_n F.1 F.2.1 dX19_farWay_62 rfl (lv_at hl 2 rfl) ?_
        refine gf19_310 F hx1 hr dX19_farWay_63 ?_
        refine lv_imul F.1 F.2.1 dX19_farWay_66 ?_
        refine lv_iload F.1 F.2.1 dX19_farWay_67 (lv_at hl 5 rfl) ?_
        refine lv_iadd F.1 F.2.1 dX19_farWay_69 ?_
        replace h := zk_some h
        obtain ⟨c19, h⟩ := h
        refine zr_iald (k := 190) (by decide) rfl (by decide) F (zal_a F hx0 (j := 29) rfl) hr dX19_farWay_70 c19 ?_
        refine lv_iload F.1 F.2.1 dX19_farWay_71 (lv_at hl 0 rfl) ?_
        refine lv_iadd F.1 F.2.1 dX19_farWay_73 ?_
        refine lv_topi (fun v20 ev20 => ?_)
        replace h := zl_sub ev20 h
        refine lv_istore_n (lv' := [(3, .int v20), (5, .int r12), (0, .ref (B 19 x0)), (1, .ref (B 12 x1)), (2, .int x2), (4, .int x4)]) F.1 F.2.1 dX19_farWay_74 rfl hl (by decide) rfl (fun ls hl => ?_)
        exact bX19_farWay_75 hst F hA E hK7 x0 x1 x2 v20 x4 hx0 hx1 hr (lv_sub hl [2, 3, 4, 0, 5] rfl) h
theorem lX19_farWay_7 (hst : zSt B ids) (F : zFx p m c cX19_farWay 11 s args RX19 D cy B ids A) (hA : ∀ q : Nat, s.heap.size ≤ q → A q) {r : Int32} {z' : St} (E : zEnd p l e rmX19_farWay s m args below meth c cX19_farWay D cy B ids A Q none z' .return_ True) {N : Nat}  : ∀ (n : Nat) (x0 : Nat) (x1 : Nat) (x2 : Int32) (x3 : Int32) (x4 : Int32) (hx0 : (19, x0) ∈ ids) (hx1 : (12, x1) ∈ ids) {z : St} {H : Heap} {locs : List Loc} {ls : Array Slot} (hr : zRep D cy B ids A s.heap z H locs) (hl : lv_has ls 11 [(0, .ref (B 19 x0)), (1, .ref (B 12 x1)), (2, .int x2), (3, .int x3), (4, .int x4)]), fX19_farWay_7 N  n x0 x1 x2 x3 x4 z = some (r, z') → W p l e rmX19_farWay s m args below meth c H locs 0 0 Q (F0 m 7 ls []) := by
  intro n
  induction n with
  | zero => intro x0 x1 x2 x3 x4 hx0 hx1 z H locs ls hr hl h; cases h
  | succ n ih => intro x0 x1 x2 x3 x4 hx0 hx1 z H locs ls hr hl h; exact bX19_farWay_7 hst F hA E ih x0 x1 x2 x3 x4 hx0 hx1 hr hl h
def fX19_farWay (N : Nat)  (x0 : Nat) (x1 : Nat) (x2 : Int32) (z : St) : Option (Int32 × St) := fX19_farWay_7 N N x0 x1 x2 (1000000000 : Int32) (0 : Int32) z
set_option maxHeartbeats 4000000 in
set_option maxRecDepth 100000 in
theorem bX19_farWay_0 (hst : zSt B ids) (F : zFx p m c cX19_farWay 11 s args RX19 D cy B ids A) (hA : ∀ q : Nat, s.heap.size ≤ q → A q) {r : Int32} {z' : St} (E : zEnd p l e rmX19_farWay s m args below meth c cX19_farWay D cy B ids A Q none z' .return_ True) {N : Nat}  (x0 : Nat) (x1 : Nat) (x2 : Int32) (hx0 : (19, x0) ∈ ids) (hx1 : (12, x1) ∈ ids) {z : St} {H : Heap} {locs : List Loc} {ls : Array Slot} (hr : zRep D cy B ids A s.heap z H locs) (hl : lv_has ls 11 [(0, .ref (B 19 x0)), (1, .ref (B 12 x1)), (2, .int x2)]) (h : fX19_farWay N x0 x1 x2 z = some (r, z')) : W p l e rmX19_farWay s m args below meth c H locs 0 0 Q (F0 m 0 ls []) := by
  unfold fX19_farWay at h
  refine lv_ldcw (v := (1000000000)) F.1 F.2.1 F.2.2.2.1 (F.2.2.2.2.1 _ zq_2903) dX19_farWay_0 ?_
  refine lv_istore_n (lv' := [(3, .int (1000000000 : Int32)), (0, .ref (B 19 x0)), (1, .ref (B 12 x1)), (2, .int x2)]) F.1 F.2.1 dX19_farWay_3 rfl hl (by decide) rfl (fun ls hl => ?_)
  refine lv_iconst (v := (0 : Int32)) F.1 F.2.1 dX19_farWay_4 (by decide) ?_
  refine lv_istore (lv' := [(4, .int (0 : Int32)), (3, .int (1000000000 : Int32)), (0, .ref (B 19 x0)), (1, .ref (B 12 x1)), (2, .int x2)]) F.1 F.2.1 dX19_farWay_5 hl (by decide) rfl (fun ls hl => ?_)
  exact lX19_farWay_7 hst F hA E  _ x0 x1 x2 (1000000000 : Int32) (0 : Int32) hx0 hx1 hr (lv_sub hl [2, 3, 4, 1, 0] rfl) h
end SX19_farWay
set_option maxRecDepth 100000 in
theorem okX19_farWay (l : Launch) (D : va_G) (cy : Nat → ClassId) (B : Nat → Nat → Nat) (ids : List (Nat × Nat)) (hst : zSt B ids) (N : Nat) (x0 : Nat) (hx0 : (19, x0) ∈ ids) (x1 : Nat) (hx1 : (12, x1) ∈ ids) (x2 : Int32) {z : St} {r : Int32} {z' : St} (hW : zWf ids z) (h : fX19_farWay N x0 x1 x2 z = some (r, z')) : zM l yX19_farWay (zws yX19_farWay cX19_farWay 11 none) rmX19_farWay D cy B ids [.ref (B 19 x0), .ref (B 12 x1), .int x2] none True z z' :=
  zM_of hst hW (by decide +kernel) (Nat.le_of_ble_eq_true rfl) (fun p e s m args below meth c A ls F hA hret hlocks hr hl => bX19_farWay_0 hst F hA (zEnd_v F hret hlocks) x0 x1 x2 hx0 hx1 hr hl h)
