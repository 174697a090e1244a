abbrev rmX19_handle : Room := { frames := 13, cells := 0, slots := 0, locals := 339 }
theorem hdX19_handle : yX19_handle.cls ≠ "java/lang/invoke/MethodHandle" ∧ yX19_handle.cls ≠ "java/lang/invoke/VarHandle" ∧ (parseMethodDescriptor yX19_handle.desc).map (fun d => d.parameters.length) = some 2 := by decide +kernel
theorem hroX19_handle_X19_act : rmX19_act.frames + 1 ≤ rmX19_handle.frames ∧ 8 + (8 + 11) + rmX19_act.locals ≤ rmX19_handle.locals := by decide
theorem hroX19_handle_X19_ad : rmX19_ad.frames + 1 ≤ rmX19_handle.frames ∧ 8 + (3 + 11) + rmX19_ad.locals ≤ rmX19_handle.locals := by decide
theorem hroX19_handle_X19_advertCame : rmX19_advertCame.frames + 1 ≤ rmX19_handle.frames ∧ 8 + (8 + 11) + rmX19_advertCame.locals ≤ rmX19_handle.locals := by decide
theorem hroX19_handle_X19_friend : rmX19_friend.frames + 1 ≤ rmX19_handle.frames ∧ 8 + (4 + 11) + rmX19_friend.locals ≤ rmX19_handle.locals := by decide
theorem hroX19_handle_X19_greeted : rmX19_greeted.frames + 1 ≤ rmX19_handle.frames ∧ 8 + (8 + 11) + rmX19_greeted.locals ≤ rmX19_handle.locals := by decide
theorem hroX19_handle_X19_of : rmX19_of.frames + 1 ≤ rmX19_handle.frames ∧ 8 + (3 + 11) + rmX19_of.locals ≤ rmX19_handle.locals := by decide
theorem hroX19_handle_X19_segment : rmX19_segment.frames + 1 ≤ rmX19_handle.frames ∧ 8 + (8 + 11) + rmX19_segment.locals ≤ rmX19_handle.locals := by decide
section SX19_handle
variable {p : Program} {l : Launch} {e : Env} {s : State} {m : MethodId} {args : Array Value} {below : List Frame} {meth : Method} {c : Code} {Q : State → Prop} {D : va_G} {cy : Nat → ClassId} {B : Nat → Nat → Nat} {ids : List (Nat × Nat)} {A : Nat → Prop}
def fX19_handle_226 (N : Nat)  (x0 : Nat) (x2 : Int32) (x4 : Option Nat) (x5 : Int32) (s0 : Int32) (z : St) : Option (Int32 × St) := if s0 = (-1 : Int32) then (some (0, z)) else (zc (fX19_ad N x0 s0 (1 : Int32) z) fun r2 z3 => zc (fX19_of N x0 x2 (13 : Int32) z3) fun r6 z7 => if ¬ r2 = (r6 &&& (16777215 : Int32)) then (some (0, z7)) else (zd x4 fun a11 => zk x5 16 <| zl (zsA z7 162 a11 (Int32.toNatClampNeg x5) (vp_nar .boolean (0 : Int32))) fun z13 => some (0, z13)))
set_option maxHeartbeats 4000000 in
set_option maxRecDepth 100000 in
theorem bX19_handle_226 (hst : zSt B ids) (F : zFx p m c cX19_handle 7 s args RX19 D cy B ids A) (hA : ∀ q : Nat, s.heap.size ≤ q → A q) {r : Int32} {z' : St} (E : zEnd p l e rmX19_handle s m args below meth c cX19_handle D cy B ids A Q none z' .return_ True) {N : Nat}  (x0 : Nat) (x2 : Int32) (x4 : Option Nat) (x5 : Int32) (s0 : Int32) (hx0 : (19, x0) ∈ ids) (hx4 : ∀ t, x4 = some t → (15, t) ∈ ids) {z : St} {H : Heap} {locs : List Loc} {ls : Array Slot} (hr : zRep D cy B ids A s.heap z H locs) (hl : lv_has ls 7 [(0, .ref (B 19 x0)), (2, .int x2), (4, va_rf (Option.map (B 15) x4)), (5, .int x5)]) (h : fX19_handle_226 N x0 x2 x4 x5 s0 z = some (r, z')) : W p l e rmX19_handle s m args below meth c H locs 0 0 Q (F0 m 226 ls [.int s0]) := by
  unfold fX19_handle_226 at h
  refine lv_istore (lv' := [(6, .int s0), (0, .ref (B 19 x0)), (2, .int x2), (4, va_rf (Option.map (B 15) x4)), (5, .int x5)]) F.1 F.2.1 dX19_handle_226 hl (by decide) rfl (fun ls hl => ?_)
  refine lv_iload F.1 F.2.1 dX19_handle_228 (lv_at hl 0 rfl) ?_
  refine lv_iconst (v := (-1 : Int32)) F.1 F.2.1 dX19_handle_230 (by decide) ?_
  refine lv_icmp_eq (tgt := 264) F.1 F.2.1 dX19_handle_231 (by decide) (fun c1 => ?_) (fun c1 => ?_)
  · replace h := zi_t c1 h
    obtain ⟨rfl, rfl⟩ := zret h
    exact E _ _ _ _ dX19_handle_264 trivial hr
  · replace h := zi_f c1 h
    refine lv_aload_n F.1 F.2.1 dX19_handle_234 rfl (lv_at hl 1 rfl) ?_
    refine lv_iload F.1 F.2.1 dX19_handle_235 (lv_at hl 0 rfl) ?_
    refine lv_iconst (v := (1 : Int32)) F.1 F.2.1 dX19_handle_237 (by decide) ?_
    replace h := zc_some h
    obtain ⟨r2, z3, hc4, h⟩ := h
    refine zr_calli (zrun_V (As := [.int s0, .int (1 : Int32)]) (rest := []) zq_2828 zq_2830 zs_X19_ad zq_2831 zq_4 hdX19_ad (by decide) (T := TX19) (N := 32) rfl (okX19_ad l D cy B ids hst N x0 hx0 s0  (1 : Int32)  hr.2.2 hc4) F hr hx0 hl.1 rfl (by decide) dX19_handle_238 rfl rfl hroX19_handle_X19_ad ⟨Nat.zero_le _, Nat.zero_le _⟩) F hA hr (fun H locs hw5 hr => ?_)
    clear hc4
    refine lv_aload_n F.1 F.2.1 dX19_handle_241 rfl (lv_at hl 1 rfl) ?_
    refine lv_iload_n F.1 F.2.1 dX19_handle_242 rfl (lv_at hl 2 rfl) ?_
    refine lv_bipush (v := (13 : Int32)) F.1 F.2.1 dX19_handle_243 (by decide) ?_
    replace h := zc_some h
    obtain ⟨r6, z7, hc8, h⟩ := h
    refine zr_calli (zrun_V (As := [.int x2, .int (13 : Int32)]) (rest := [.int r2]) zq_2549 zq_2551 zs_X19_of zq_2552 zq_4 hdX19_of (by decide) (T := TX19) (N := 32) rfl (okX19_of l D cy B ids hst N x0 hx0 x2  (13 : Int32)  hr.2.2 hc8) F hr hx0 hl.1 rfl (Nat.le_of_ble_eq_true rfl) dX19_handle_245 rfl rfl hroX19_handle_X19_of ⟨Nat.zero_le _, Nat.zero_le _⟩) F hA hr (fun H locs hw9 hr => ?_)
    clear hc8
    refine lv_ldcw (v := (16777215)) F.1 F.2.1 F.2.2.2.1 (F.2.2.2.2.1 _ zq_2840) dX19_handle_248 ?_
    refine lv_iand F.1 F.2.1 dX19_handle_251 ?_
    refine lv_icmp_ne (tgt := 264) F.1 F.2.1 dX19_handle_252 (by decide) (fun c10 => ?_) (fun c10 => ?_)
    · replace h := zi_t c10 h
      obtain ⟨rfl, rfl⟩ := zret h
      exact E _ _ _ _ dX19_handle_264 trivial hr
    · replace h := zi_f (fun q => q c10) h
      refine zr_aload F.1 F.2.1 dX19_handle_255 (lv_at hl 3 rfl) ?_
      replace h := zd_some h
      obtain ⟨a11, rfl, h⟩ := h
      refine gf19_452 F (hx4 _ rfl) hr dX19_handle_257 ?_
      refine lv_iload F.1 F.2.1 dX19_handle_260 (lv_at hl 4 rfl) ?_
      refine lv_iconst (v := (0 : Int32)) F.1 F.2.1 dX19_handle_262 (by decide) ?_
      replace h := zk_some h
      obtain ⟨c12, h⟩ := h
      refine zr_zast (k := 162) (by decide) rfl (by decide) F (zal_a F (hx4 _ rfl) (j := 4) rfl) hr dX19_handle_263 c12 (fun H locs z13 ez13 hr => ?_)
      replace h := zl_sub ez13 h
      clear ez13
      obtain ⟨rfl, rfl⟩ := zret h
      exact E _ _ _ _ dX19_handle_264 trivial hr
def fX19_handle_162 (N : Nat)  (x0 : Nat) (x1 : Nat) (x2 : Int32) (x3 : Int32) (z : St) : Option (Int32 × St) := if ¬ x3 = (4 : Int32) then (some (0, z)) else (if (zgI z 12 1 x1) = 0 then (some (0, z)) else (zc (fX19_of N x0 x2 (9 : Int32) z) fun r3 z4 => zc (fX19_of N x0 x2 (12 : Int32) z4) fun r7 z8 => zc (fX19_friend N x1 r3 r7 z8) fun r11 z12 => zc (fX19_of N x0 x2 (13 : Int32) z12) fun r15 z16 => zl ((r15 >>> ((24 : Int32) &&& 31)) &&& (255 : Int32)) fun v19 => zo r11 (fX19_handle_226 N x0 x2 none v19 (-1 : Int32) z16) fun a21 => zk v19 16 <| fX19_handle_226 N x0 x2 (some a21) v19 (zgA z16 150 x1 (Int32.toNatClampNeg v19)) z16))
set_option maxHeartbeats 4000000 in
set_option maxRecDepth 100000 in
theorem bX19_handle_162 (hst : zSt B ids) (F : zFx p m c cX19_handle 7 s args RX19 D cy B ids A) (hA : ∀ q : Nat, s.heap.size ≤ q → A q) {r : Int32} {z' : St} (E : zEnd p l e rmX19_handle s m args below meth c cX19_handle D cy B ids A Q none z' .return_ True) {N : Nat}  (x0 : Nat) (x1 : Nat) (x2 : Int32) (x3 : Int32) (hx0 : (19, x0) ∈ ids) (hx1 : (12, x1) ∈ ids) {z : St} {H : Heap} {locs : List Loc} {ls : Array Slot} (hr : zRep D cy B ids A s.heap z H locs) (hl : lv_has ls 7 [(0, .ref (B 19 x0)), (1, .ref (B 12 x1)), (2, .int x2), (3, .int x3)]) (h : fX19_handle_162 N x0 x1 x2 x3 z = some (r, z')) : W p l e rmX19_handle s m args below meth c H locs 0 0 Q (F0 m 162 ls []) := by
  unfold fX19_handle_162 at h
  refine lv_iload_n F.1 F.2.1 dX19_handle_162 rfl (lv_at hl 3 rfl) ?_
  refine lv_iconst (v := (4 : Int32)) F.1 F.2.1 dX19_handle_163 (by decide) ?_
  refine lv_icmp_ne (tgt := 264) F.1 F.2.1 dX19_handle_164 (by decide) (fun c1 => ?_) (fun c1 => ?_)
  · replace h := zi_t c1 h
    obtain ⟨rfl, rfl⟩ := zret h
    exact E _ _ _ _ dX19_handle_264 trivial hr
  · replace h := zi_f (fun q => q c1) h
    refine lv_aload_n F.1 F.2.1 dX19_handle_167 rfl (lv_at hl 1 rfl) ?_
    refine gf19_298 F hx1 hr dX19_handle_168 ?_
    refine lv_if_eq (tgt := 264) F.1 F.2.1 dX19_handle_171 (by decide) (fun c2 => ?_) (fun c2 => ?_)
    · replace h := zi_t c2 h
      obtain ⟨rfl, rfl⟩ := zret h
      exact E _ _ _ _ dX19_handle_264 trivial hr
    · replace h := zi_f c2 h
      refine lv_aload_n F.1 F.2.1 dX19_handle_174 rfl (lv_at hl 1 rfl) ?_
      refine lv_aload_n F.1 F.2.1 dX19_handle_175 rfl (lv_at hl 0 rfl) ?_
      refine lv_iload_n F.1 F.2.1 dX19_handle_176 rfl (lv_at hl 2 rfl) ?_
      refine lv_bipush (v := (9 : Int32)) F.1 F.2.1 dX19_handle_177 (by decide) ?_
      replace h := zc_some h
      obtain ⟨r3, z4, hc5, h⟩ := h
      refine zr_calli (zrun_V (As := [.int x2, .int (9 : Int32)]) (rest := [.ref (B 12 x1)]) zq_2549 zq_2551 zs_X19_of zq_2552 zq_4 hdX19_of (by decide) (T := TX19) (N := 32) rfl (okX19_of l D cy B ids hst N x0 hx0 x2  (9 : Int32)  hr.2.2 hc5) F hr hx0 hl.1 rfl (Nat.le_of_ble_eq_true rfl) dX19_handle_179 rfl rfl hroX19_handle_X19_of ⟨Nat.zero_le _, Nat.zero_le _⟩) F hA hr (fun H locs hw6 hr => ?_)
      clear hc5
      refine lv_aload_n F.1 F.2.1 dX19_handle_182 rfl (lv_at hl 0 rfl) ?_
      refine lv_iload_n F.1 F.2.1 dX19_handle_183 rfl (lv_at hl 2 rfl) ?_
      refine lv_bipush (v := (12 : Int32)) F.1 F.2.1 dX19_handle_184 (by decide) ?_
      replace h := zc_some h
      obtain ⟨r7, z8, hc9, h⟩ := h
      refine zr_calli (zrun_V (As := [.int x2, .int (12 : Int32)]) (rest := [.int r3, .ref (B 12 x1)]) zq_2549 zq_2551 zs_X19_of zq_2552 zq_4 hdX19_of (by decide) (T := TX19) (N := 32) rfl (okX19_of l D cy B ids hst N x0 hx0 x2  (12 : Int32)  hr.2.2 hc9) F hr hx0 hl.1 rfl (Nat.le_of_ble_eq_true rfl) dX19_handle_186 rfl rfl hroX19_handle_X19_of ⟨Nat.zero_le _, Nat.zero_le _⟩) F hA hr (fun H locs hw10 hr => ?_)
      clear hc9
      replace h := zc_some h
      obtain ⟨r11, z12, hc13, h⟩ := h
      refine zr_callr (zrun_S (As := [.ref (B 12 x1), .int r3, .int r7]) (rest := []) zq_2825 zq_2826 zq_2827 zq_4 hdX19_friend (okX19_friend l D cy B ids hst N x1 hx1 r3  r7  hr.2.2 hc13) F hr hl.1 rfl (by decide) dX19_handle_189 rfl rfl hroX19_handle_X19_friend ⟨Nat.zero_le _, Nat.zero_le _⟩) F hA hr (fun H locs hw14 hr => ?_)
      clear hc13
      refine zr_astore (lv' := [(4, va_rf (Option.map (B 15) r11)), (0, .ref (B 19 x0)), (1, .ref (B 12 x1)), (2, .int x2), (3, .int x3)]) F.1 F.2.1 dX19_handle_192 hl (by decide) rfl (fun ls hl => ?_)
      refine lv_aload_n F.1 F.2.1 dX19_handle_194 rfl (lv_at hl 1 rfl) ?_
      refine lv_iload_n F.1 F.2.1 dX19_handle_195 rfl (lv_at hl 3 rfl) ?_
      refine lv_bipush (v := (13 : Int32)) F.1 F.2.1 dX19_handle_196 (by decide) ?_
      replace h := zc_some h
      obtain ⟨r15, z16, hc17, h⟩ := h
      refine zr_calli (zrun_V (As := [.int x2, .int (13 : Int32)]) (rest := []) zq_2549 zq_2551 zs_X19_of zq_2552 zq_4 hdX19_of (by decide) (T := TX19) (N := 32) rfl (okX19_of l D cy B ids hst N x0 hx0 x2  (13 : Int32)  hr.2.2 hc17) F hr hx0 hl.1 rfl (by decide) dX19_handle_198 rfl rfl hroX19_handle_X19_of ⟨Nat.zero_le _, Nat.zero_le _⟩) F hA hr (fun H locs hw18 hr => ?_)
      clear hc17
      refine lv_bipush (v := (24 : Int32)) F.1 F.2.1 dX19_handle_201 (by decide) ?_
      refine lv_ishr F.1 F.2.1 dX19_handle_203 ?_
      refine lv_sipush (v := (255 : Int32)) F.1 F.2.1 dX19_handle_204 (by decide) ?_
      refine lv_iand F.1 F.2.1 dX19_handle_207 ?_
      refine lv_topi (fun v19 ev19 => ?_)
      replace h := zl_sub ev19 h
      refine lv_istore (lv' := [(5, .int v19), (4, va_rf (Option.map (B 15) r11)), (0, .ref (B 19 x0)), (1, .ref (B 12 x1)), (2, .int x2), (3, .int x3)]) F.1 F.2.1 dX19_handle_208 hl (by decide) (by simp only [List.filter, zrf_cat]; rfl) (fun ls hl => ?_)
      refine zr_aload F.1 F.2.1 dX19_handle_210 (lv_at hl 1 rfl) ?_
      refine zr_ifnonnull (tgt := 219) F.1 F.2.1 dX19_handle_212 (by decide) (fun e20 => ?_) (fun a21 e20 => ?_)
      · replace h := zo_n e20 h
        subst e20
        refine lv_iconst (v := (-1 : Int32)) F.1 F.2.1 dX19_handle_215 (by decide) ?_
        refine lv_goto (tgt := 226) F.1 F.2.1 dX19_handle_216 (by decide) ?_
        exact bX19_handle_226 hst F hA E  x0 x2 none v19 (-1 : Int32) hx0 zal_0 hr (lv_sub hl [2, 4, 1, 0] rfl) h
      · replace h := zo_s e20 h
        subst e20
        refine lv_aload_n F.1 F.2.1 dX19_handle_219 rfl (lv_at hl 3 rfl) ?_
        refine gf19_448 F hx1 hr dX19_handle_220 ?_
        refine lv_iload F.1 F.2.1 dX19_handle_223 (lv_at hl 0 rfl) ?_
        replace h := zk_some h
        obtain ⟨c22, h⟩ := h
        refine zr_iald (k := 150) (by decide) rfl (by decide) F (zal_a F hx1 (j := 14) rfl) hr dX19_handle_225 c22 ?_
        exact bX19_handle_226 hst F hA E  x0 x2 (some a21) v19 (zgA z16 150 x1 (Int32.toNatClampNeg v19)) hx0 (zal_s (hw14 _ rfl)) hr (lv_sub hl [2, 4, 1, 0] rfl) h
def fX19_handle_141 (N : Nat)  (x0 : Nat) (x1 : Nat) (x2 : Int32) (x3 : Int32) (z : St) : Option (Int32 × St) := if ¬ x3 = (3 : Int32) then (fX19_handle_162 N x0 x1 x2 x3 z) else (if (zgI z 12 1 x1) = 0 then (fX19_handle_162 N x0 x1 x2 x3 z) else (zc (fX19_advertCame N x0 x1 x2 z) fun _ z4 => some (0, z4)))
set_option maxHeartbeats 4000000 in
set_option maxRecDepth 100000 in
theorem bX19_handle_141 (hst : zSt B ids) (F : zFx p m c cX19_handle 7 s args RX19 D cy B ids A) (hA : ∀ q : Nat, s.heap.size ≤ q → A q) {r : Int32} {z' : St} (E : zEnd p l e rmX19_handle s m args below meth c cX19_handle D cy B ids A Q none z' .return_ True) {N : Nat}  (x0 : Nat) (x1 : Nat) (x2 : Int32) (x3 : Int32) (hx0 : (19, x0) ∈ ids) (hx1 : (12, x1) ∈ ids) {z : St} {H : Heap} {locs : List Loc} {ls : Array Slot} (hr : zRep D cy B ids A s.heap z H locs) (hl : lv_has ls 7 [(0, .ref (B 19 x0)), (1, .ref (B 12 x1)), (2, .int x2), (3, .int x3)]) (h : fX19_handle_141 N x0 x1 x2 x3 z = some (r, z')) : W p l e rmX19_handle s m args below meth c H locs 0 0 Q (F0 m 141 ls []) := by
  unfold fX19_handle_141 at h
  refine lv_iload_n F.1 F.2.1 dX19_handle_141 rfl (lv_at hl 3 rfl) ?_
  refine lv_iconst (v := (3 : Int32)) F.1 F.2.1 dX19_handle_142 (by decide) ?_
  refine lv_icmp_ne (tgt := 162) F.1 F.2.1 dX19_handle_143 (by decide) (fun c1 => ?_) (fun c1 => ?_)
  · replace h := zi_t c1 h
    exact bX19_handle_162 hst F hA E  x0 x1 x2 x3 hx0 hx1 hr (lv_sub hl [0, 1, 2, 3] rfl) h
  · replace h := zi_f (fun q => q c1) h
    refine lv_aload_n F.1 F.2.1 dX19_handle_146 rfl (lv_at hl 1 rfl) ?_
    refine gf19_298 F hx1 hr dX19_handle_147 ?_
    refine lv_if_eq (tgt := 162) F.1 F.2.1 dX19_handle_150 (by decide) (fun c2 => ?_) (fun c2 => ?_)
    · replace h := zi_t c2 h
      exact bX19_handle_162 hst F hA E  x0 x1 x2 x3 hx0 hx1 hr (lv_sub hl [0, 1, 2, 3] rfl) h
    · replace h := zi_f c2 h
      refine lv_aload_n F.1 F.2.1 dX19_handle_153 rfl (lv_at hl 0 rfl) ?_
      refine lv_aload_n F.1 F.2.1 dX19_handle_154 rfl (lv_at hl 1 rfl) ?_
      refine lv_iload_n F.1 F.2.1 dX19_handle_155 rfl (lv_at hl 2 rfl) ?_
      replace h := zc_some h
      obtain ⟨r3, z4, hc5, h⟩ := h
      refine zr_callv (zrun_V (As := [.ref (B 12 x1), .int x2]) (rest := []) zq_2821 zq_2823 zs_X19_advertCame zq_2824 zq_4 hdX19_advertCame (by decide) (T := TX19) (N := 32) rfl (okX19_advertCame l D cy B ids hst N x0 hx0 x1 hx1 x2  hr.2.2 hc5) F hr hx0 hl.1 rfl (by decide) dX19_handle_156 rfl rfl hroX19_handle_X19_advertCame ⟨Nat.zero_le _, Nat.zero_le _⟩) F hA hr (fun H locs hw6 hr => ?_)
      clear hc5
      refine lv_goto (tgt := 264) F.1 F.2.1 dX19_handle_159 (by decide) ?_
      obtain ⟨rfl, rfl⟩ := zret h
      exact E _ _ _ _ dX19_handle_264 trivial hr
def fX19_handle_100 (N : Nat)  (x0 : Nat) (x1 : Nat) (x2 : Int32) (x3 : Int32) (z : St) : Option (Int32 × St) := if ¬ x3 = (2 : Int32) then (fX19_handle_141 N x0 x1 x2 x3 z) else (if (zgI z 12 1 x1) = 0 then (fX19_handle_141 N x0 x1 x2 x3 z) else (zc (fX19_of N x0 x2 (9 : Int32) z) fun r3 z4 => zc (fX19_of N x0 x2 (12 : Int32) z4) fun r7 z8 => zc (fX19_of N x0 x2 (13 : Int32) z8) fun r11 z12 => zc (fX19_greeted N x0 x1 r3 r7 r11 z12) fun _ z16 => some (0, z16)))
set_option maxHeartbeats 4000000 in
set_option maxRecDepth 100000 in
theorem bX19_handle_100 (hst : zSt B ids) (F : zFx p m c cX19_handle 7 s args RX19 D cy B ids A) (hA : ∀ q : Nat, s.heap.size ≤ q → A q) {r : Int32} {z' : St} (E : zEnd p l e rmX19_handle s m args below meth c cX19_handle D cy B ids A Q none z' .return_ True) {N : Nat}  (x0 : Nat) (x1 : Nat) (x2 : Int32) (x3 : Int32) (hx0 : (19, x0) ∈ ids) (hx1 : (12, x1) ∈ ids) {z : St} {H : Heap} {locs : List Loc} {ls : Array Slot} (hr : zRep D cy B ids A s.heap z H locs) (hl : lv_has ls 7 [(0, .ref (B 19 x0)), (1, .ref (B 12 x1)), (2, .int x2), (3, .int x3)]) (h : fX19_handle_100 N x0 x1 x2 x3 z = some (r, z')) : W p l e rmX19_handle s m args below meth c H locs 0 0 Q (F0 m 100 ls []) := by
  unfold fX19_handle_100 at h
  refine lv_iload_n F.1 F.2.1 dX19_handle_100 rfl (lv_at hl 3 rfl) ?_
  refine lv_iconst (v := (2 : Int32)) F.1 F.2.1 dX19_handle_101 (by decide) ?_
  refine lv_icmp_ne (tgt := 141) F.1 F.2.1 dX19_handle_102 (by decide) (fun c1 => ?_) (fun c1 => ?_)
  · replace h := zi_t c1 h
    exact bX19_handle_141 hst F hA E  x0 x1 x2 x3 hx0 hx1 hr (lv_sub hl [0, 1, 2, 3] rfl) h
  · replace h := zi_f (fun q => q c1) h
    refine lv_aload_n F.1 F.2.1 dX19_handle_105 rfl (lv_at hl 1 rfl) ?_
    refine gf19_298 F hx1 hr dX19_handle_106 ?_
    refine lv_if_eq (tgt := 141) F.1 F.2.1 dX19_handle_109 (by decide) (fun c2 => ?_) (fun c2 => ?_)
    · replace h := zi_t c2 h
      exact bX19_handle_141 hst F hA E  x0 x1 x2 x3 hx0 hx1 hr (lv_sub hl [0, 1, 2, 3] rfl) h
    · replace h := zi_f c2 h
      refine lv_aload_n F.1 F.2.1 dX19_handle_112 rfl (lv_at hl 0 rfl) ?_
      refine lv_aload_n F.1 F.2.1 dX19_handle_113 rfl (lv_at hl 1 rfl) ?_
      refine lv_aload_n F.1 F.2.1 dX19_handle_114 rfl (lv_at hl 0 rfl) ?_
      refine lv_iload_n F.1 F.2.1 dX19_handle_115 rfl (lv_at hl 2 rfl) ?_
      refine lv_bipush (v := (9 : Int32)) F.1 F.2.1 dX19_handle_116 (by decide) ?_
      replace h := zc_some h
      obtain ⟨r3, z4, hc5, h⟩ := h
      refine zr_calli (zrun_V (As := [.int x2, .int (9 : Int32)]) (rest := [.ref (B 12 x1), .ref (B 19 x0)]) zq_2549 zq_2551 zs_X19_of zq_2552 zq_4 hdX19_of (by decide) (T := TX19) (N := 32) rfl (okX19_of l D cy B ids hst N x0 hx0 x2  (9 : Int32)  hr.2.2 hc5) F hr hx0 hl.1 rfl (Nat.le_of_ble_eq_true rfl) dX19_handle_118 rfl rfl hroX19_handle_X19_of ⟨Nat.zero_le _, Nat.zero_le _⟩) F hA hr (fun H locs hw6 hr => ?_)
      clear hc5
      refine lv_aload_n F.1 F.2.1 dX19_handle_121 rfl (lv_at hl 0 rfl) ?_
      refine lv_iload_n F.1 F.2.1 dX19_handle_122 rfl (lv_at hl 2 rfl) ?_
      refine lv_bipush (v := (12 : Int32)) F.1 F.2.1 dX19_handle_123 (by decide) ?_
      replace h := zc_some h
      obtain ⟨r7, z8, hc9, h⟩ := h
      refine zr_calli (zrun_V (As := [.int x2, .int (12 : Int32)]) (rest := [.int r3, .ref (B 12 x1), .ref (B 19 x0)]) zq_2549 zq_2551 zs_X19_of zq_2552 zq_4 hdX19_of (by decide) (T := TX19) (N := 32) rfl (okX19_of l D cy B ids hst N x0 hx0 x2  (12 : Int32)  hr.2.2 hc9) F hr hx0 hl.1 rfl (Nat.le_of_ble_eq_true rfl) dX19_handle_125 rfl rfl hroX19_handle_X19_of ⟨Nat.zero_le _, Nat.zero_le _⟩) F hA hr (fun H locs hw10 hr => ?_)
      clear hc9
      refine lv_aload_n F.1 F.2.1 dX19_handle_128 rfl (lv_at hl 0 rfl) ?_
      refine lv_iload_n F.1 F.2.1 dX19_handle_129 rfl (lv_at hl 2 rfl) ?_
      refine lv_bipush (v := (13 : Int32)) F.1 F.2.1 dX19_handle_130 (by decide) ?_
      replace h := zc_some h
      obtain ⟨r11, z12, hc13, h⟩ := h
      refine zr_calli (zrun_V (As := [.int x2, .int (13 : Int32)]) (rest := [.int r7, .int r3, .ref (B 12 x1), .ref (B 19 x0)]) zq_2549 zq_2551 zs_X19_of zq_2552 zq_4 hdX19_of (by decide) (T := TX19) (N := 32) rfl (okX19_of l D cy B ids hst N x0 hx0 x2  (13 : Int32)  hr.2.2 hc13) F hr hx0 hl.1 rfl (Nat.le_of_ble_eq_true rfl) dX19_handle_132 rfl rfl hroX19_handle_X19_of ⟨Nat.zero_le _, Nat.zero_le _⟩) F hA hr (fun H locs hw14 hr => ?_)
      clear hc13
      replace h := zc_some h
      obtain ⟨r15, z16, hc17, h⟩ := h
      refine zr_callv (zrun_V (As := [.ref (B 12 x1), .int r3, .int r7, .int r11]) (rest := []) zq_2810 zq_2812 zs_X19_greeted zq_2813 zq_4 hdX19_greeted (by decide) (T := TX19) (N := 32) rfl (okX19_greeted l D cy B ids hst N x0 hx0 x1 hx1 r3  r7  r11  hr.2.2 hc17) F hr hx0 hl.1 rfl (by decide) dX19_handle_135 rfl rfl hroX19_handle_X19_greeted ⟨Nat.zero_le _, Nat.zero_le _⟩) F hA hr (fun H locs hw18 hr => ?_)
      clear hc17
      refine lv_goto (tgt := 264) F.1 F.2.1 dX19_handle_138 (by decide) ?_
      obtain ⟨rfl, rfl⟩ := zret h
      exact E _ _ _ _ dX19_handle_264 trivial hr
def fX19_handle (N : Nat)  (x0 : Nat) (x1 : Nat) (x2 : Int32) (z : St) : Option (Int32 × St) := zl (zsI z 12 5 x1 ((zgI z 12 5 x1) + (1 : Int32))) fun z1 => zc (fX19_of N x0 x2 (2 : Int32) z1) fun r2 z3 => if ¬ r2 = 0 then (if ¬ r2 = (1 : Int32) then (fX19_handle_100 N x0 x1 x2 r2 z3) else (if ¬ (zgI z3 12 1 x1) = 0 then (fX19_handle_100 N x0 x1 x2 r2 z3) else (zc (fX19_of N x0 x2 (10 : Int32) z3) fun r9 z10 => zc (fX19_of N x0 x2 (0 : Int32) z10) fun r13 z14 => zc (fX19_segment N x0 x1 r9 r13 z14) fun _ z18 => some (0, z18)))) else (zl (zsI z3 12 9 x1 ((zgI z3 12 9 x1) + (1 : Int32))) fun z21 => zc (fX19_of N x0 x2 (14 : Int32) z21) fun r22 z23 => zc (fX19_of N x0 x2 (15 : Int32) z23) fun r26 z27 => zc (fX19_of N x0 x2 (16 : Int32) z27) fun r30 z31 => zc (fX19_of N x0 x2 (17 : Int32) z31) fun r34 z35 => zc (fX19_act N x0 x1 r22 r26 r30 r34 z35) fun _ z39 => some (0, z39))
set_option maxHeartbeats 4000000 in
set_option maxRecDepth 100000 in
theorem bX19_handle_0 (hst : zSt B ids) (F : zFx p m c cX19_handle 7 s args RX19 D cy B ids A) (hA : ∀ q : Nat, s.heap.size ≤ q → A q) {r : Int32} {z' : St} (E : zEnd p l e rmX19_handle s m args below meth c cX19_handle D cy B ids A Q none z' .return_ True) {N : Nat}  (x0 : Nat) (x1 : Nat) (x2 : Int32) (hx0 : (19, x0) ∈ ids) (hx1 : (12, x1) ∈ ids) {z : St} {H : Heap} {locs : List Loc} {ls : Array Slot} (hr : zRep D cy B ids A s.heap z H locs) (hl : lv_has ls 7 [(0, .ref (B 19 x0)), (1, .ref (B 12 x1)), (2, .int x2)]) (h : fX19_handle N x0 x1 x2 z = some (r, z')) : W p l e rmX19_handle s m args below meth c H locs 0 0 Q (F0 m 0 ls []) := by
  unfold fX19_handle at h
  refine lv_aload_n F.1 F.2.1 dX19_handle_0 rfl (lv_at hl 1 rfl) ?_
  refine lv_dup F.1 F.2.1 dX19_handle_1 rfl ?_
  refine gf19_430 F hx1 hr dX19_handle_2 ?_
  refine lv_iconst (v := (1 : Int32)) F.1 F.2.1 dX19_handle_5 (by decide) ?_
  refine lv_iadd F.1 F.2.1 dX19_handle_6 ?_
  refine pf19_430 F hx1 hr dX19_handle_7 ((zgI z 12 5 x1) + (1 : Int32)) (fun H locs z1 ez1 hr => ?_)
  replace h := zl_sub ez1 h
  clear ez1
  refine lv_aload_n F.1 F.2.1 dX19_handle_10 rfl (lv_at hl 0 rfl) ?_
  refine lv_iload_n F.1 F.2.1 dX19_handle_11 rfl (lv_at hl 2 rfl) ?_
  refine lv_iconst (v := (2 : Int32)) F.1 F.2.1 dX19_handle_12 (by decide) ?_
  replace h := zc_some h
  obtain ⟨r2, z3, hc4, h⟩ := h
  refine zr_calli (zrun_V (As := [.int x2, .int (2 : Int32)]) (rest := []) zq_2549 zq_2551 zs_X19_of zq_2552 zq_4 hdX19_of (by decide) (T := TX19) (N := 32) rfl (okX19_of l D cy B ids hst N x0 hx0 x2  (2 : Int32)  hr.2.2 hc4) F hr hx0 hl.1 rfl (by decide) dX19_handle_13 rfl rfl hroX19_handle_X19_of ⟨Nat.zero_le _, Nat.zero_le _⟩) F hA hr (fun H locs hw5 hr => ?_)
  clear hc4
  refine lv_istore_n (lv' := [(3, .int r2), (0, .ref (B 19 x0)), (1, .ref (B 12 x1)), (2, .int x2)]) F.1 F.2.1 dX19_handle_16 rfl hl (by decide) rfl (fun ls hl => ?_)
  refine lv_iload_n F.1 F.2.1 dX19_handle_17 rfl (lv_at hl 0 rfl) ?_
  refine lv_if_ne (tgt := 67) F.1 F.2.1 dX19_handle_18 (by decide) (fun c6 => ?_) (fun c6 => ?_)
  · replace h := zi_t c6 h
    refine lv_iload_n F.1 F.2.1 dX19_handle_67 rfl (lv_at hl 0 rfl) ?_
    refine lv_iconst (v := (1 : Int32)) F.1 F.2.1 dX19_handle_68 (by decide) ?_
    refine lv_icmp_ne (tgt := 100) F.1 F.2.1 dX19_handle_69 (by decide) (fun c7 => ?_) (fun c7 => ?_)
    · replace h := zi_t c7 h
      exact bX19_handle_100 hst F hA E  x0 x1 x2 r2 hx0 hx1 hr (lv_sub hl [1, 2, 3, 0] rfl) h
    · replace h := zi_f (fun q => q c7) h
      refine lv_aload_n F.1 F.2.1 dX19_handle_72 rfl (lv_at hl 2 rfl) ?_
      refine gf19_298 F hx1 hr dX19_handle_73 ?_
      refine lv_if_ne (tgt := 100) F.1 F.2.1 dX19_handle_76 (by decide) (fun c8 => ?_) (fun c8 => ?_)
      · replace h := zi_t c8 h
        exact bX19_handle_100 hst F hA E  x0 x1 x2 r2 hx0 hx1 hr (lv_sub hl [1, 2, 3, 0] rfl) h
      · replace h := zi_f (fun q => q c8) h
        refine lv_aload_n F.1 F.2.1 dX19_handle_79 rfl (lv_at hl 1 rfl) ?_
        refine lv_aload_n F.1 F.2.1 dX19_handle_80 rfl (lv_at hl 2 rfl) ?_
        refine lv_aload_n F.1 F.2.1 dX19_handle_81 rfl (lv_at hl 1 rfl) ?_
        refine lv_iload_n F.1 F.2.1 dX19_handle_82 rfl (lv_at hl 3 rfl) ?_
        refine lv_bipush (v := (10 : Int32)) F.1 F.2.1 dX19_handle_83 (by decide) ?_
        replace h := zc_some h
        obtain ⟨r9, z10, hc11, h⟩ := h
        refine zr_calli (zrun_V (As := [.int x2, .int (10 : Int32)]) (rest := [.ref (B 12 x1), .ref (B 19 x0)]) zq_2549 zq_2551 zs_X19_of zq_2552 zq_4 hdX19_of (by decide) (T := TX19) (N := 32) rfl (okX19_of l D cy B ids hst N x0 hx0 x2  (10 : Int32)  hr.2.2 hc11) F hr hx0 hl.1 rfl (Nat.le_of_ble_eq_true rfl) dX19_handle_85 rfl rfl hroX19_handle_X19_of ⟨Nat.zero_le _, Nat.zero_le _⟩) F hA hr (fun H locs hw12 hr => ?_)
        clear hc11
        refine lv_aload_n F.1 F.2.1 dX19_handle_88 rfl (lv_at hl 1 rfl) ?_
        refine lv_iload_n F.1 F.2.1 dX19_handle_89 rfl (lv_at hl 3 rfl) ?_
        refine lv_iconst (v := (0 : Int32)) F.1 F.2.1 dX19_handle_90 (by decide) ?_
        replace h := zc_some h
        obtain ⟨r13, z14, hc15, h⟩ := h
        refine zr_calli (zrun_V (As := [.int x2, .int (0 : Int32)]) (rest := [.int r9, .ref (B 12 x1), .ref (B 19 x0)]) zq_2549 zq_2551 zs_X19_of zq_2552 zq_4 hdX19_of (by decide) (T := TX19) (N := 32) rfl (okX19_of l D cy B ids hst N x0 hx0 x2  (0 : Int32)  hr.2.2 hc15) F hr hx0 hl.1 rfl (Nat.le_of_ble_eq_true rfl) dX19_handle_91 rfl rfl hroX19_handle_X19_of ⟨Nat.zero_le _, Nat.zero_le _⟩) F hA hr (fun H locs hw16 hr => ?_)
        clear hc15
        replace h := zc_some h
        obtain ⟨r17, z18, hc19, h⟩ := h
        refine zr_callv (zrun_V (As := [.ref (B 12 x1), .int r9, .int r13]) (rest := []) zq_2647 zq_2649 zs_X19_segment zq_2650 zq_4 hdX19_segment (by decide) (T := TX19) (N := 32) rfl (okX19_segment l D cy B ids hst N x0 hx0 x1 hx1 r9  r13  hr.2.2 hc19) F hr hx0 hl.1 rfl (by decide) dX19_handle_94 rfl rfl hroX19_handle_X19_segment ⟨Nat.zero_le _, Nat.zero_le _⟩) F hA hr (fun H locs hw20 hr => ?_)
        clear hc19
        refine lv_goto (tgt := 264) F.1 F.2.1 dX19_handle_97 (by decide) ?_
        obtain ⟨rfl, rfl⟩ := zret h
        exact E _ _ _ _ dX19_handle_264 trivial hr
  · replace h := zi_f (fun q => q c6) h
    refine lv_aload_n F.1 F.2.1 dX19_handle_21 rfl (lv_at hl 2 rfl) ?_
    refine lv_dup F.1 F.2.1 dX19_handle_22 rfl ?_
    refine gf19_322 F hx1 hr dX19_handle_23 ?_
    refine lv_iconst (v := (1 : Int32)) F.1 F.2.1 dX19_handle_26 (by decide) ?_
    refine lv_iadd F.1 F.2.1 dX19_handle_27 ?_
    refine pf19_322 F hx1 hr dX19_handle_28 ((zgI z3 12 9 x1) + (1 : Int32)) (fun H locs z21 ez21 hr => ?_)
    replace h := zl_sub ez21 h
    clear ez21
    refine lv_aload_n F.1 F.2.1 dX19_handle_31 rfl (lv_at hl 1 rfl) ?_
    refine lv_aload_n F.1 F.2.1 dX19_handle_32 rfl (lv_at hl 2 rfl) ?_
    refine lv_aload_n F.1 F.2.1 dX19_handle_33 rfl (lv_at hl 1 rfl) ?_
    refine lv_iload_n F.1 F.2.1 dX19_handle_34 rfl (lv_at hl 3 rfl) ?_
    refine lv_bipush (v := (14 : Int32)) F.1 F.2.1 dX19_handle_35 (by decide) ?_
    replace h := zc_some h
    obtain ⟨r22, z23, hc24, h⟩ := h
    refine zr_calli (zrun_V (As := [.int x2, .int (14 : Int32)]) (rest := [.ref (B 12 x1), .ref (B 19 x0)]) zq_2549 zq_2551 zs_X19_of zq_2552 zq_4 hdX19_of (by decide) (T := TX19) (N := 32) rfl (okX19_of l D cy B ids hst N x0 hx0 x2  (14 : Int32)  hr.2.2 hc24) F hr hx0 hl.1 rfl (Nat.le_of_ble_eq_true rfl) dX19_handle_37 rfl rfl hroX19_handle_X19_of ⟨Nat.zero_le _, Nat.zero_le _⟩) F hA hr (fun H locs hw25 hr => ?_)
    clear hc24
    refine lv_aload_n F.1 F.2.1 dX19_handle_40 rfl (lv_at hl 1 rfl) ?_
    refine lv_iload_n F.1 F.2.1 dX19_handle_41 rfl (lv_at hl 3 rfl) ?_
    refine lv_bipush (v := (15 : Int32)) F.1 F.2.1 dX19_handle_42 (by decide) ?_
    replace h := zc_some h
    obtain ⟨r26, z27, hc28, h⟩ := h
    refine zr_calli (zrun_V (As := [.int x2, .int (15 : Int32)]) (rest := [.int r22, .ref (B 12 x1), .ref (B 19 x0)]) zq_2549 zq_2551 zs_X19_of zq_2552 zq_4 hdX19_of (by decide) (T := TX19) (N := 32) rfl (okX19_of l D cy B ids hst N x0 hx0 x2  (15 : Int32)  hr.2.2 hc28) F hr hx0 hl.1 rfl (Nat.le_of_ble_eq_true rfl) dX19_handle_44 rfl rfl hroX19_handle_X19_of ⟨Nat.zero_le _, Nat.zero_le _⟩) F hA hr (fun H locs hw29 hr => ?_)
    clear hc28
    refine lv_aload_n F.1 F.2.1 dX19_handle_47 rfl (lv_at hl 1 rfl) ?_
    refine lv_iload_n F.1 F.2.1 dX19_handle_48 rfl (lv_at hl 3 rfl) ?_
    refine lv_bipush (v := (16 : Int32)) F.1 F.2.1 dX19_handle_49 (by decide) ?_
    replace h := zc_some h
    obtain ⟨r30, z31, hc32, h⟩ := h
    refine zr_calli (zrun_V (As := [.int x2, .int (16 : Int32)]) (rest := [.int r26, .int r22, .ref (B 12 x1), .ref (B 19 x0)]) zq_2549 zq_2551 zs_X19_of zq_2552 zq_4 hdX19_of (by decide) (T := TX19) (N := 32) rfl (okX19_of l D cy B ids hst N x0 hx0 x2  (16 : Int32)  hr.2.2 hc32) F hr hx0 hl.1 rfl (Nat.le_of_ble_eq_true rfl) dX19_handle_51 rfl rfl hroX19_handle_X19_of ⟨Nat.zero_le _, Nat.zero_le _⟩) F hA hr (fun H locs hw33 hr => ?_)
    clear hc32
    refine lv_aload_n F.1 F.2.1 dX19_handle_54 rfl (lv_at hl 1 rfl) ?_
    refine lv_iload_n F.1 F.2.1 dX19_handle_55 rfl (lv_at hl 3 rfl) ?_
    refine lv_bipush (v := (17 : Int32)) F.1 F.2.1 dX19_handle_56 (by decide) ?_
    replace h := zc_some h
    obtain ⟨r34, z35, hc36, h⟩ := h
    refine zr_calli (zrun_V (As := [.int x2, .int (17 : Int32)]) (rest := [.int r30, .int r26, .int r22, .ref (B 12 x1), .ref (B 19 x0)]) zq_2549 zq_2551 zs_X19_of zq_2552 zq_4 hdX19_of (by decide) (T := TX19) (N := 32) rfl (okX19_of l D cy B ids hst N x0 hx0 x2  (17 : Int32)  hr.2.2 hc36) F hr hx0 hl.1 rfl (Nat.le_of_ble_eq_true rfl) dX19_handle_58 rfl rfl hroX19_handle_X19_of ⟨Nat.zero_le _, Nat.zero_le _⟩) F hA hr (fun H locs hw37 hr => ?_)
    clear hc36
    replace h := zc_some h
    obtain ⟨r38, z39, hc40, h⟩ := h
    refine zr_callv (zrun_V (As := [.ref (B 12 x1), .int r22, .int r26, .int r30, .int r34]) (rest := []) zq_2639 zq_2641 zs_X19_act zq_2642 zq_4 hdX19_act (by decide) (T := TX19) (N := 32) rfl (okX19_act l D cy B ids hst N x0 hx0 x1 hx1 r22  r26  r30  r34  hr.2.2 hc40) F hr hx0 hl.1 rfl (by decide) dX19_handle_61 rfl rfl hroX19_handle_X19_act ⟨Nat.zero_le _, Nat.zero_le _⟩) F hA hr (fun H locs hw41 hr => ?_)
    clear hc40
    refine lv_goto (tgt := 264) F.1 F.2.1 dX19_handle_64 (by decide) ?_
    obtain ⟨rfl, rfl⟩ := zret h
    exact E _ _ _ _ dX19_handle_264 trivial hr
end SX19_handle
set_option maxRecDepth 100000 in
theorem okX19_handle (l : Launch) (D : va_G) (cy : Nat → ClassId) (B : Nat → Nat → Nat) (ids : List (Nat × Nat)) (hst : zSt B ids) (N : Nat) (x0 : Nat) (hx0 : (19, x0) ∈ ids) (x1 : Nat) (hx1 : (12, x1) ∈ ids) (x2 : Int32) {z : St} {r : Int32} {z' : St} (hW : zWf ids z) (h : fX19_handle N x0 x1 x2 z = some (r, z')) : zM l yX19_handle (zws yX19_handle cX19_handle 7 none) rmX19_handle D cy B ids [.ref (B 19 x0), .ref (B 12 x1), .int x2] none True z z' :=
  zM_of hst hW (by decide +kernel) (Nat.le_of_ble_eq_true rfl) (fun p e s m args below meth c A ls F hA hret hlocks hr hl => bX19_handle_0 hst F hA (zEnd_v F hret hlocks) x0 x1 x2 hx0 hx1 hr hl h)
abbrev rmX19_get : Room := { frames := 14, cells := 0, slots := 0, locals := 365 }
theorem hdX19_get : yX19_get.cls ≠ "java/lang/invoke/MethodHandle" ∧ yX19_get.cls ≠ "java/lang/invoke/VarHandle" ∧ (parseMethodDescriptor yX19_get.desc).map (fun d => d.parameters.length) = some 2 := by decide +kernel
theorem hroX19_get_X17_isWhole : rmX17_isWhole.frames + 1 ≤ rmX19_get.frames ∧ 8 + (2 + 11) + rmX17_isWhole.locals ≤ rmX19_get.locals := by decide
theorem hroX19_get_X19_endPieces : rmX19_endPieces.frames + 1 ≤ rmX19_get.frames ∧ 8 + (4 + 11) + rmX19_endPieces.locals ≤ rmX19_get.locals := by decide
theorem hroX19_get_X19_handle : rmX19_handle.frames + 1 ≤ rmX19_get.frames ∧ 8 + (7 + 11) + rmX19_handle.locals ≤ rmX19_get.locals := by decide
theorem hroX19_get_X19_of : rmX19_of.frames + 1 ≤ rmX19_get.frames ∧ 8 + (3 + 11) + rmX19_of.locals ≤ rmX19_get.locals := by decide
theorem hroX19_get_X19_stir : rmX19_stir.frames + 1 ≤ rmX19_get.frames ∧ 8 + (1 + 11) + rmX19_stir.locals ≤ rmX19_get.locals := by decide
section SX19_get
variable {p : Program} {l : Launch} {e : Env} {s : State} {m : MethodId} {args : Array Value} {below : List Frame} {meth : Method} {c : Code} {Q : State → Prop} {D : va_G} {cy : Nat → ClassId} {B : Nat → Nat → Nat} {ids : List (Nat × Nat)} {A : Nat → Prop}
def fX19_get_102 (N : Nat) (K22 : Nat → Nat → Int32 → Int32 → Int32 → St → Option (Int32 × St)) (x0 : Nat) (x1 : Nat) (x2 : Int32) (x4 : Int32) (s0 : Int32) (z : St) : Option (Int32 × St) := zl (x4 + 1) fun v1 => K22 x0 x1 x2 s0 v1 z
set_option maxHeartbeats 4000000 in
set_option maxRecDepth 100000 in
theorem bX19_get_102 (hst : zSt B ids) (F : zFx p m c cX19_get 7 s args RX19 D cy B ids A) (hA : ∀ q : Nat, s.heap.size ≤ q → A q) {r : Int32} {z' : St} (E : zEnd p l e rmX19_get s m args below meth c cX19_get D cy B ids A Q none z' .return_ True) {N : Nat} {K22 : Nat → Nat → Int32 → Int32 → Int32 → St → Option (Int32 × St)} (hK22 : ∀ (x0 : Nat) (x1 : Nat) (x2 : Int32) (x3 : Int32) (x4 : Int32) (hx0 : (19, x0) ∈ ids) (hx1 : (12, x1) ∈ ids) {z : St} {H : Heap} {locs : List Loc} {ls : Array Slot} (hr : zRep D cy B ids A s.heap z H locs) (hl : lv_has ls 7 [(0, .ref (B 19 x0)), (1, .ref (B 12 x1)), (2, .int x2), (3, .int x3), (4, .int x4)]), K22 x0 x1 x2 x3 x4 z = some (r, z') → W p l e rmX19_get s m args below meth c H locs 0 0 Q (F0 m 22 ls [])) (x0 : Nat) (x1 : Nat) (x2 : Int32) (x4 : Int32) (s0 : Int32) (hx0 : (19, x0) ∈ ids) (hx1 : (12, x1) ∈ ids) {z : St} {H : Heap} {locs : List Loc} {ls : Array Slot} (hr : zRep D cy B ids A s.heap z H locs) (hl : lv_has ls 7 [(0, .ref (B 19 x0)), (1, .ref (B 12 x1)), (2, .int x2), (4, .int x4)]) (h : fX19_get_102 N K22 x0 x1 x2 x4 s0 z = some (r, z')) : W p l e rmX19_get s m args below meth c H locs 0 0 Q (F0 m 102 ls [.int s0]) := by
  unfold fX19_get_102 at h
  refine lv_istore_n (lv' := [(3, .int s0), (0, .ref (B 19 x0)), (1, .ref (B 12 x1)), (2, .int x2), (4, .int x4)]) F.1 F.2.1 dX19_get_102 rfl hl (by decide) rfl (fun ls hl => ?_)
  obtain ⟨v1, ev1⟩ : ∃ y : Int32, y = (x4 + 1) := ⟨_, rfl⟩
  replace h := zl_sub ev1 h
  refine lv_iinc (v := v1) (lv' := [(4, .int v1), (3, .int s0), (0, .ref (B 19 x0)), (1, .ref (B 12 x1)), (2, .int x2)]) F.1 F.2.1 dX19_get_103 hl (k := 4) rfl (by rw [ev1]; rfl) (by decide) rfl (fun ls hl => ?_)
  refine lv_goto (tgt := 22) F.1 F.2.1 dX19_get_106 (by decide) ?_
  exact hK22 x0 x1 x2 s0 v1 hx0 hx1 hr (lv_sub hl [2, 3, 4, 1, 0] rfl) h
def fX19_get_101 (N : Nat) (K22 : Nat → Nat → Int32 → Int32 → Int32 → St → Option (Int32 × St)) (x0 : Nat) (x1 : Nat) (x2 : Int32) (x3 : Int32) (x4 : Int32) (z : St) : Option (Int32 × St) := fX19_get_102 N K22 x0 x1 x2 x4 x3 z
set_option maxHeartbeats 4000000 in
set_option maxRecDepth 100000 in
theorem bX19_get_101 (hst : zSt B ids) (F : zFx p m c cX19_get 7 s args RX19 D cy B ids A) (hA : ∀ q : Nat, s.heap.size ≤ q → A q) {r : Int32} {z' : St} (E : zEnd p l e rmX19_get s m args below meth c cX19_get D cy B ids A Q none z' .return_ True) {N : Nat} {K22 : Nat → Nat → Int32 → Int32 → Int32 → St → Option (Int32 × St)} (hK22 : ∀ (x0 : Nat) (x1 : Nat) (x2 : Int32) (x3 : Int32) (x4 : Int32) (hx0 : (19, x0) ∈ ids) (hx1 : (12, x1) ∈ ids) {z : St} {H : Heap} {locs : List Loc} {ls : Array Slot} (hr : zRep D cy B ids A s.heap z H locs) (hl : lv_has ls 7 [(0, .ref (B 19 x0)), (1, .ref (B 12 x1)), (2, .int x2), (3, .int x3), (4, .int x4)]), K22 x0 x1 x2 x3 x4 z = some (r, z') → W p l e rmX19_get s m args below meth c H locs 0 0 Q (F0 m 22 ls [])) (x0 : Nat) (x1 : Nat) (x2 : Int32) (x3 : Int32) (x4 : Int32) (hx0 : (19, x0) ∈ ids) (hx1 : (12, x1) ∈ ids) {z : St} {H : Heap} {locs : List Loc} {ls : Array Slot} (hr : zRep D cy B ids A s.heap z H locs) (hl : lv_has ls 7 [(0, .ref (B 19 x0)), (1, .ref (B 12 x1)), (2, .int x2), (3, .int x3), (4, .int x4)]) (h : fX19_get_101 N K22 x0 x1 x2 x3 x4 z = some (r, z')) : W p l e rmX19_get s m args below meth c H locs 0 0 Q (F0 m 101 ls []) := by
  unfold fX19_get_101 at h
  refine lv_iload_n F.1 F.2.1 dX19_get_101 rfl (lv_at hl 3 rfl) ?_
  exact bX19_get_102 hst F hA E hK22 x0 x1 x2 x4 x3 hx0 hx1 hr (lv_sub hl [0, 1, 2, 4] rfl) h
def fX19_get_317 (N : Nat)  (x0 : Nat) (x1 : Nat) (x2 : Int32) (x3 : Int32) (x4 : Option Nat) (z : St) : Option (Int32 × St) := zd x4 fun a1 => zc (fX17_isWhole N a1 z) fun r2 z3 => if r2 = 0 then (some (0, z3)) else (zc (fX19_endPieces N x1 x3 z3) fun _ z8 => zl (zsI z8 12 8 x1 ((zgI z8 12 8 x1) + (1 : Int32))) fun z11 => zc (fX19_handle N x0 x1 x2 z11) fun _ z13 => some (0, z13))
set_option maxHeartbeats 4000000 in
set_option maxRecDepth 100000 in
theorem bX19_get_317 (hst : zSt B ids) (F : zFx p m c cX19_get 7 s args RX19 D cy B ids A) (hA : ∀ q : Nat, s.heap.size ≤ q → A q) {r : Int32} {z' : St} (E : zEnd p l e rmX19_get s m args below meth c cX19_get D cy B ids A Q none z' .return_ True) {N : Nat}  (x0 : Nat) (x1 : Nat) (x2 : Int32) (x3 : Int32) (x4 : Option Nat) (hx0 : (19, x0) ∈ ids) (hx1 : (12, x1) ∈ ids) (hx4 : ∀ t, x4 = some t → (17, t) ∈ ids) {z : St} {H : Heap} {locs : List Loc} {ls : Array Slot} (hr : zRep D cy B ids A s.heap z H locs) (hl : lv_has ls 7 [(0, .ref (B 19 x0)), (1, .ref (B 12 x1)), (2, .int x2), (3, .int x3), (4, va_rf (Option.map (B 17) x4))]) (h : fX19_get_317 N x0 x1 x2 x3 x4 z = some (r, z')) : W p l e rmX19_get s m args below meth c H locs 0 0 Q (F0 m 317 ls []) := by
  unfold fX19_get_317 at h
  refine zr_aload F.1 F.2.1 dX19_get_317 (lv_at hl 4 rfl) ?_
  replace h := zd_some h
  obtain ⟨a1, rfl, h⟩ := h
  replace h := zc_some h
  obtain ⟨r2, z3, hc4, h⟩ := h
  refine zr_calli (zrun_VN (As := []) (rest := []) zn_2844 zq_2846 zs_X17_isWhole zq_2847 zq_18 hdX17_isWhole (by decide) (T := TX17) (N := 7) rfl (okX17_isWhole l D cy B ids hst N a1 (hx4 _ rfl) hr.2.2 hc4) F hr (hx4 _ rfl) hl.1 rfl (by decide) dX19_get_319 rfl rfl hroX19_get_X17_isWhole ⟨Nat.zero_le _, Nat.zero_le _⟩) F hA hr (fun H locs hw5 hr => ?_)
  clear hc4
  refine lv_if_eq (tgt := 346) F.1 F.2.1 dX19_get_322 (by decide) (fun c6 => ?_) (fun c6 => ?_)
  · replace h := zi_t c6 h
    obtain ⟨rfl, rfl⟩ := zret h
    exact E _ _ _ _ dX19_get_346 trivial hr
  · replace h := zi_f c6 h
    refine lv_aload_n F.1 F.2.1 dX19_get_325 rfl (lv_at hl 1 rfl) ?_
    refine lv_iload_n F.1 F.2.1 dX19_get_326 rfl (lv_at hl 3 rfl) ?_
    replace h := zc_some h
    obtain ⟨r7, z8, hc9, h⟩ := h
    refine zr_callv (zrun_S (As := [.ref (B 12 x1), .int x3]) (rest := []) zq_2841 zq_2842 zq_2843 zq_4 hdX19_endPieces (okX19_endPieces l D cy B ids hst N x1 hx1 x3  hr.2.2 hc9) F hr hl.1 rfl (by decide) dX19_get_327 rfl rfl hroX19_get_X19_endPieces ⟨Nat.zero_le _, Nat.zero_le _⟩) F hA hr (fun H locs hw10 hr => ?_)
    clear hc9
    refine lv_aload_n F.1 F.2.1 dX19_get_330 rfl (lv_at hl 1 rfl) ?_
    refine lv_dup F.1 F.2.1 dX19_get_331 rfl ?_
    refine gf19_427 F hx1 hr dX19_get_332 ?_
    refine lv_iconst (v := (1 : Int32)) F.1 F.2.1 dX19_get_335 (by decide) ?_
    refine lv_iadd F.1 F.2.1 dX19_get_336 ?_
    refine pf19_427 F hx1 hr dX19_get_337 ((zgI z8 12 8 x1) + (1 : Int32)) (fun H locs z11 ez11 hr => ?_)
    replace h := zl_sub ez11 h
    clear ez11
    refine lv_aload_n F.1 F.2.1 dX19_get_340 rfl (lv_at hl 0 rfl) ?_
    refine lv_aload_n F.1 F.2.1 dX19_get_341 rfl (lv_at hl 1 rfl) ?_
    refine lv_iload_n F.1 F.2.1 dX19_get_342 rfl (lv_at hl 2 rfl) ?_
    replace h := zc_some h
    obtain ⟨r12, z13, hc14, h⟩ := h
    refine zr_callv (zrun_V (As := [.ref (B 12 x1), .int x2]) (rest := []) zq_2635 zq_2637 zs_X19_handle zq_2638 zq_4 hdX19_handle (by decide) (T := TX19) (N := 32) rfl (okX19_handle l D cy B ids hst N x0 hx0 x1 hx1 x2  hr.2.2 hc14) F hr hx0 hl.1 rfl (by decide) dX19_get_343 rfl rfl hroX19_get_X19_handle ⟨Nat.zero_le _, Nat.zero_le _⟩) F hA hr (fun H locs hw15 hr => ?_)
    clear hc14
    obtain ⟨rfl, rfl⟩ := zret h
    exact E _ _ _ _ dX19_get_346 trivial hr
def fX19_get_275b (N : Nat) (K275 : Nat → Nat → Int32 → Int32 → Option Nat → Int32 → Int32 → St → Option (Int32 × St)) (x0 : Nat) (x1 : Nat) (x2 : Int32) (x3 : Int32) (x4 : Option Nat) (x5 : Int32) (x6 : Int32) (z : St) : Option (Int32 × St) := if x5 ≤ ((8 : Int32) * x6) then (zc (fX19_of N x0 x2 (7 : Int32) z) fun r2 z3 => if ¬ r2 = 0 then (fX19_get_317 N x0 x1 x2 x3 x4 z3) else (zd x4 fun a7 => zl (zsI z3 17 5 a7 x5) fun z8 => fX19_get_317 N x0 x1 x2 x3 (some a7) z8)) else (zd x4 fun a9 => zk x6 192 <| zl (zsA z 166 a9 (Int32.toNatClampNeg x6) (vp_nar .boolean (1 : Int32))) fun z11 => zl (x6 + 1) fun v12 => K275 x0 x1 x2 x3 (some a9) x5 v12 z11)
def fX19_get_275 (N : Nat)  : Nat → Nat → Nat → Int32 → Int32 → Option Nat → Int32 → Int32 → St → Option (Int32 × St)
  | 0 => fun _ _ _ _ _ _ _ _ => none
  | n + 1 => fX19_get_275b N (fX19_get_275 N  n)
set_option maxHeartbeats 4000000 in
set_option maxRecDepth 100000 in
theorem bX19_get_275 (hst : zSt B ids) (F : zFx p m c cX19_get 7 s args RX19 D cy B ids A) (hA : ∀ q : Nat, s.heap.size ≤ q → A q) {r : Int32} {z' : St} (E : zEnd p l e rmX19_get s m args below meth c cX19_get D cy B ids A Q none z' .return_ True) {N : Nat} {K275 : Nat → Nat → Int32 → Int32 → Option Nat → Int32 → Int32 → St → Option (Int32 × St)} (hK275 : ∀ (x0 : Nat) (x1 : Nat) (x2 : Int32) (x3 : Int32) (x4 : Option Nat) (x5 : Int32) (x6 : Int32) (hx0 : (19, x0) ∈ ids) (hx1 : (12, x1) ∈ ids) (hx4 : ∀ t, x4 = some t → (17, t) ∈ ids) {z : St} {H : Heap} {locs : List Loc} {ls : Array Slot} (hr : zRep D cy B ids A s.heap z H locs) (hl : lv_has ls 7 [(0, .ref (B 19 x0)), (1, .ref (B 12 x1)), (2, .int x2), (3, .int x3), (4, va_rf (Option.map (B 17) x4)), (5, .int x5), (6, .int x6)]), K275 x0 x1 x2 x3 x4 x5 x6 z = some (r, z') → W p l e rmX19_get s m args below meth c H locs 0 0 Q (F0 m 275 ls [])) (x0 : Nat) (x1 : Nat) (x2 : Int32) (x3 : Int32) (x4 : Option Nat) (x5 : Int32) (x6 : Int32) (hx0 : (19, x0) ∈ ids) (hx1 : (12, x1) ∈ ids) (hx4 : ∀ t, x4 = some t → (17, t) ∈ ids) {z : St} {H : Heap} {locs : List Loc} {ls : Array Slot} (hr : zRep D cy B ids A s.heap z H locs) (hl : lv_has ls 7 [(0, .ref (B 19 x0)), (1, .ref (B 12 x1)), (2, .int x2), (3, .int x3), (4, va_rf (Option.map (B 17) x4)), (5, .int x5), (6, .int x6)]) (h : fX19_get_275b N K275 x0 x1 x2 x3 x4 x5 x6 z = some (r, z')) : W p l e rmX19_get s m args below meth c H locs 0 0 Q (F0 m 275 ls []) := by
  unfold fX19_get_275b at h
  refine lv_bipush (v := (8 : Int32)) F.1 F.2.1 dX19_get_275 (by decide) ?_
  refine lv_iload F.1 F.2.1 dX19_get_277 (lv_at hl 6 rfl) ?_
  refine lv_imul F.1 F.2.1 dX19_get_279 ?_
  refine lv_iload F.1 F.2.1 dX19_get_280 (lv_at hl 5 rfl) ?_
  refine lv_icmp_ge (tgt := 300) F.1 F.2.1 dX19_get_282 (by decide) (fun c1 => ?_) (fun c1 => ?_)
  · replace h := zi_t c1 h
    refine lv_aload_n F.1 F.2.1 dX19_get_300 rfl (lv_at hl 0 rfl) ?_
    refine lv_iload_n F.1 F.2.1 dX19_get_301 rfl (lv_at hl 2 rfl) ?_
    refine lv_bipush (v := (7 : Int32)) F.1 F.2.1 dX19_get_302 (by decide) ?_
    replace h := zc_some h
    obtain ⟨r2, z3, hc4, h⟩ := h
    refine zr_calli (zrun_V (As := [.int x2, .int (7 : Int32)]) (rest := []) zq_2549 zq_2551 zs_X19_of zq_2552 zq_4 hdX19_of (by decide) (T := TX19) (N := 32) rfl (okX19_of l D cy B ids hst N x0 hx0 x2  (7 : Int32)  hr.2.2 hc4) F hr hx0 hl.1 rfl (by decide) dX19_get_304 rfl rfl hroX19_get_X19_of ⟨Nat.zero_le _, Nat.zero_le _⟩) F hA hr (fun H locs hw5 hr => ?_)
    clear hc4
    refine lv_if_ne (tgt := 317) F.1 F.2.1 dX19_get_307 (by decide) (fun c6 => ?_) (fun c6 => ?_)
    · replace h := zi_t c6 h
      exact bX19_get_317 hst F hA E  x0 x1 x2 x3 x4 hx0 hx1 hx4 hr (lv_sub hl [0, 1, 2, 3, 4] rfl) h
    · replace h := zi_f (fun q => q c6) h
      refine zr_aload F.1 F.2.1 dX19_get_310 (lv_at hl 4 rfl) ?_
      refine lv_iload F.1 F.2.1 dX19_get_312 (lv_at hl 5 rfl) ?_
      replace h := zd_some h
      obtain ⟨a7, rfl, h⟩ := h
      refine pf19_417 F (hx4 _ rfl) hr dX19_get_314 x5 (fun H locs z8 ez8 hr => ?_)
      replace h := zl_sub ez8 h
      clear ez8
      exact bX19_get_317 hst F hA E  x0 x1 x2 x3 (some a7) hx0 hx1 (zal_s (hx4 _ rfl)) hr (lv_sub hl [0, 1, 2, 3, 4] rfl) h
  · replace h := zi_f c1 h
    refine zr_aload F.1 F.2.1 dX19_get_285 (lv_at hl 4 rfl) ?_
    replace h := zd_some h
    obtain ⟨a9, rfl, h⟩ := h
    refine gf19_420 F (hx4 _ rfl) hr dX19_get_287 ?_
    refine lv_iload F.1 F.2.1 dX19_get_290 (lv_at hl 6 rfl) ?_
    refine lv_iconst (v := (1 : Int32)) F.1 F.2.1 dX19_get_292 (by decide) ?_
    replace h := zk_some h
    obtain ⟨c10, h⟩ := h
    refine zr_zast (k := 166) (by decide) rfl (by decide) F (zal_a F (hx4 _ rfl) (j := 6) rfl) hr dX19_get_293 c10 (fun H locs z11 ez11 hr => ?_)
    replace h := zl_sub ez11 h
    clear ez11
    obtain ⟨v12, ev12⟩ : ∃ y : Int32, y = (x6 + 1) := ⟨_, rfl⟩
    replace h := zl_sub ev12 h
    refine lv_iinc (v := v12) (lv' := [(6, .int v12), (0, .ref (B 19 x0)), (1, .ref (B 12 x1)), (2, .int x2), (3, .int x3), (4, .ref (B 17 a9)), (5, .int x5)]) F.1 F.2.1 dX19_get_294 hl (k := 6) rfl (by rw [ev12]; rfl) (by decide) rfl (fun ls hl => ?_)
    refine lv_goto (tgt := 275) F.1 F.2.1 dX19_get_297 (by decide) ?_
    exact hK275 x0 x1 x2 x3 (some a9) x5 v12 hx0 hx1 (zal_s (hx4 _ rfl)) hr (lv_sub hl [1, 2, 3, 4, 5, 6, 0] rfl) h
theorem lX19_get_275 (hst : zSt B ids) (F : zFx p m c cX19_get 7 s args RX19 D cy B ids A) (hA : ∀ q : Nat, s.heap.size ≤ q → A q) {r : Int32} {z' : St} (E : zEnd p l e rmX19_get s m args below meth c cX19_get D cy B ids A Q none z' .return_ True) {N : Nat}  : ∀ (n : Nat) (x0 : Nat) (x1 : Nat) (x2 : Int32) (x3 : Int32) (x4 : Option Nat) (x5 : Int32) (x6 : Int32) (hx0 : (19, x0) ∈ ids) (hx1 : (12, x1) ∈ ids) (hx4 : ∀ t, x4 = some t → (17, t) ∈ ids) {z : St} {H : Heap} {locs : List Loc} {ls : Array Slot} (hr : zRep D cy B ids A s.heap z H locs) (hl : lv_has ls 7 [(0, .ref (B 19 x0)), (1, .ref (B 12 x1)), (2, .int x2), (3, .int x3), (4, va_rf (Option.map (B 17) x4)), (5, .int x5), (6, .int x6)]), fX19_get_275 N  n x0 x1 x2 x3 x4 x5 x6 z = some (r, z') → W p l e rmX19_get s m args below meth c H locs 0 0 Q (F0 m 275 ls []) := by
  intro n
  induction n with
  | zero => intro x0 x1 x2 x3 x4 x5 x6 hx0 hx1 hx4 z H locs ls hr hl h; cases h
  | succ n ih => intro x0 x1 x2 x3 x4 x5 x6 hx0 hx1 hx4 z H locs ls hr hl h; exact bX19_get_275 hst F hA E ih x0 x1 x2 x3 x4 x5 x6 hx0 hx1 hx4 hr hl h
def fX19_get_239 (N : Nat)  (x0 : Nat) (x1 : Nat) (x2 : Int32) (x3 : Int32) (z : St) : Option (Int32 × St) := zk x3 4 <| zl (zgQ z 148 x1 (Int32.toNatClampNeg x3)) fun y2 => zc (fX19_of N x0 x2 (6 : Int32) z) fun r3 z4 => zc (fX19_of N x0 x2 (5 : Int32) z4) fun r7 z8 => zl (r3 + r7) fun v11 => zc (fX19_of N x0 x2 (6 : Int32) z8) fun r12 z13 => zl (r12 / (8 : Int32)) fun v16 => fX19_get_275 N N x0 x1 x2 x3 y2 v11 v16 z13
set_option maxHeartbeats 4000000 in
set_option maxRecDepth 100000 in
theorem bX19_get_239 (hst : zSt B ids) (F : zFx p m c cX19_get 7 s args RX19 D cy B ids A) (hA : ∀ q : Nat, s.heap.size ≤ q → A q) {r : Int32} {z' : St} (E : zEnd p l e rmX19_get s m args below meth c cX19_get D cy B ids A Q none z' .return_ True) {N : Nat}  (x0 : Nat) (x1 : Nat) (x2 : Int32) (x3 : Int32) (hx0 : (19, x0) ∈ ids) (hx1 : (12, x1) ∈ ids) {z : St} {H : Heap} {locs : List Loc} {ls : Array Slot} (hr : zRep D cy B ids A s.heap z H locs) (hl : lv_has ls 7 [(0, .ref (B 19 x0)), (1, .ref (B 12 x1)), (2, .int x2), (3, .int x3)]) (h : fX19_get_239 N x0 x1 x2 x3 z = some (r, z')) : W p l e rmX19_get s m args below meth c H locs 0 0 Q (F0 m 239 ls []) := by
  unfold fX19_get_239 at h
  refine lv_aload_n F.1 F.2.1 dX19_get_239 rfl (lv_at hl 1 rfl) ?_
  refine gf19_395 F hx1 hr dX19_get_240 ?_
  refine lv_iload_n F.1 F.2.1 dX19_get_243 rfl (lv_at hl 3 rfl) ?_
  replace h := zk_some h
  obtain ⟨c1, h⟩ := h
  refine zr_aaldv (k := 148) (by decide) rfl rfl (zlen_d (by decide)) F (zal_a F hx1 (j := 10) rfl) hr dX19_get_244 c1 (fun y2 ey2 => ?_)
  replace h := zl_sub ey2 h
  have hy2 := zal_q hr (zal_a F hx1 (j := 10) rfl) rfl ey2
  clear ey2
  refine zr_astore (lv' := [(4, va_rf (Option.map (B 17) y2)), (0, .ref (B 19 x0)), (1, .ref (B 12 x1)), (2, .int x2), (3, .int x3)]) F.1 F.2.1 dX19_get_245 hl (by decide) rfl (fun ls hl => ?_)
  refine lv_aload_n F.1 F.2.1 dX19_get_247 rfl (lv_at hl 1 rfl) ?_
  refine lv_iload_n F.1 F.2.1 dX19_get_248 rfl (lv_at hl 3 rfl) ?_
  refine lv_bipush (v := (6 : Int32)) F.1 F.2.1 dX19_get_249 (by decide) ?_
  replace h := zc_some h
  obtain ⟨r3, z4, hc5, h⟩ := h
  refine zr_calli (zrun_V (As := [.int x2, .int (6 : Int32)]) (rest := []) zq_2549 zq_2551 zs_X19_of zq_2552 zq_4 hdX19_of (by decide) (T := TX19) (N := 32) rfl (okX19_of l D cy B ids hst N x0 hx0 x2  (6 : Int32)  hr.2.2 hc5) F hr hx0 hl.1 rfl (by decide) dX19_get_251 rfl rfl hroX19_get_X19_of ⟨Nat.zero_le _, Nat.zero_le _⟩) F hA hr (fun H locs hw6 hr => ?_)
  clear hc5
  refine lv_aload_n F.1 F.2.1 dX19_get_254 rfl (lv_at hl 1 rfl) ?_
  refine lv_iload_n F.1 F.2.1 dX19_get_255 rfl (lv_at hl 3 rfl) ?_
  refine lv_iconst (v := (5 : Int32)) F.1 F.2.1 dX19_get_256 (by decide) ?_
  replace h := zc_some h
  obtain ⟨r7, z8, hc9, h⟩ := h
  refine zr_calli (zrun_V (As := [.int x2, .int (5 : Int32)]) (rest := [.int r3]) zq_2549 zq_2551 zs_X19_of zq_2552 zq_4 hdX19_of (by decide) (T := TX19) (N := 32) rfl (okX19_of l D cy B ids hst N x0 hx0 x2  (5 : Int32)  hr.2.2 hc9) F hr hx0 hl.1 rfl (Nat.le_of_ble_eq_true rfl) dX19_get_257 rfl rfl hroX19_get_X19_of ⟨Nat.zero_le _, Nat.zero_le _⟩) F hA hr (fun H locs hw10 hr => ?_)
  clear hc9
  refine lv_iadd F.1 F.2.1 dX19_get_260 ?_
  refine lv_topi (fun v11 ev11 => ?_)
  replace h := zl_sub ev11 h
  refine lv_istore (lv' := [(5, .int v11), (4, va_rf (Option.map (B 17) y2)), (0, .ref (B 19 x0)), (1, .ref (B 12 x1)), (2, .int x2), (3, .int x3)]) F.1 F.2.1 dX19_get_261 hl (by decide) (by simp only [List.filter, zrf_cat]; rfl) (fun ls hl => ?_)
  refine lv_aload_n F.1 F.2.1 dX19_get_263 rfl (lv_at hl 2 rfl) ?_
  refine lv_iload_n F.1 F.2.1 dX19_get_264 rfl (lv_at hl 4 rfl) ?_
  refine lv_bipush (v := (6 : Int32)) F.1 F.2.1 dX19_get_265 (by decide) ?_
  replace h := zc_some h
  obtain ⟨r12, z13, hc14, h⟩ := h
  refine zr_calli (zrun_V (As := [.int x2, .int (6 : Int32)]) (rest := []) zq_2549 zq_2551 zs_X19_of zq_2552 zq_4 hdX19_of (by decide) (T := TX19) (N := 32) rfl (okX19_of l D cy B ids hst N x0 hx0 x2  (6 : Int32)  hr.2.2 hc14) F hr hx0 hl.1 rfl (by decide) dX19_get_267 rfl rfl hroX19_get_X19_of ⟨Nat.zero_le _, Nat.zero_le _⟩) F hA hr (fun H locs hw15 hr => ?_)
  clear hc14
  refine lv_bipush (v := (8 : Int32)) F.1 F.2.1 dX19_get_270 (by decide) ?_
  refine lv_idiv F.1 F.2.1 dX19_get_272 (by decide) ?_
  refine lv_topi (fun v16 ev16 => ?_)
  replace h := zl_sub ev16 h
  refine lv_istore (lv' := [(6, .int v16), (5, .int v11), (4, va_rf (Option.map (B 17) y2)), (0, .ref (B 19 x0)), (1, .ref (B 12 x1)), (2, .int x2), (3, .int x3)]) F.1 F.2.1 dX19_get_273 hl (by decide) rfl (fun ls hl => ?_)
  exact lX19_get_275 hst F hA E  _ x0 x1 x2 x3 y2 v11 v16 hx0 hx1 hy2 hr (lv_sub hl [3, 4, 5, 6, 2, 1, 0] rfl) h
def fX19_get_216b (N : Nat) (K216 : Nat → Nat → Int32 → Int32 → Nat → Int32 → St → Option (Int32 × St)) (x0 : Nat) (x1 : Nat) (x2 : Int32) (x3 : Int32) (x4 : Nat) (x5 : Int32) (z : St) : Option (Int32 × St) := if (192 : Int32) ≤ x5 then (fX19_get_239 N x0 x1 x2 x3 z) else (zk x5 192 <| zl (zsA z 166 x4 (Int32.toNatClampNeg x5) (vp_nar .boolean (0 : Int32))) fun z3 => zl (x5 + 1) fun v4 => K216 x0 x1 x2 x3 x4 v4 z3)
def fX19_get_216 (N : Nat)  : Nat → Nat → Nat → Int32 → Int32 → Nat → Int32 → St → Option (Int32 × St)
  | 0 => fun _ _ _ _ _ _ _ => none
  | n + 1 => fX19_get_216b N (fX19_get_216 N  n)
set_option maxHeartbeats 4000000 in
set_option maxRecDepth 100000 in
theorem bX19_get_216 (hst : zSt B ids) (F : zFx p m c cX19_get 7 s args RX19 D cy B ids A) (hA : ∀ q : Nat, s.heap.size ≤ q → A q) {r : Int32} {z' : St} (E : zEnd p l e rmX19_get s m args below meth c cX19_get D cy B ids A Q none z' .return_ True) {N : Nat} {K216 : Nat → Nat → Int32 → Int32 → Nat → Int32 → St → Option (Int32 × St)} (hK216 : ∀ (x0 : Nat) (x1 : Nat) (x2 : Int32) (x3 : Int32) (x4 : Nat) (x5 : Int32) (hx0 : (19, x0) ∈ ids) (hx1 : (12, x1) ∈ ids) (hx4 : (17, x4) ∈ ids) {z : St} {H : Heap} {locs : List Loc} {ls : Array Slot} (hr : zRep D cy B ids A s.heap z H locs) (hl : lv_has ls 7 [(0, .ref (B 19 x0)), (1, .ref (B 12 x1)), (2, .int x2), (3, .int x3), (4, .ref (B 17 x4)), (5, .int x5)]), K216 x0 x1 x2 x3 x4 x5 z = some (r, z') → W p l e rmX19_get s m args below meth c H locs 0 0 Q (F0 m 216 ls [])) (x0 : Nat) (x1 : Nat) (x2 : Int32) (x3 : Int32) (x4 : Nat) (x5 : Int32) (hx0 : (19, x0) ∈ ids) (hx1 : (12, x1) ∈ ids) (hx4 : (17, x4) ∈ ids) {z : St} {H : Heap} {locs : List Loc} {ls : Array Slot} (hr : zRep D cy B ids A s.heap z H locs) (hl : lv_has ls 7 [(0, .ref (B 19 x0)), (1, .ref (B 12 x1)), (2, .int x2), (3, .int x3), (4, .ref (B 17 x4)), (5, .int x5)]) (h : fX19_get_216b N K216 x0 x1 x2 x3 x4 x5 z = some (r, z')) : W p l e rmX19_get s m args below meth c H locs 0 0 Q (F0 m 216 ls []) := by
  unfold fX19_get_216b at h
  refine lv_iload F.1 F.2.1 dX19_get_216 (lv_at hl 5 rfl) ?_
  refine lv_sipush (v := (192 : Int32)) F.1 F.2.1 dX19_get_218 (by decide) ?_
  refine lv_icmp_ge (tgt := 239) F.1 F.2.1 dX19_get_221 (by decide) (fun c1 => ?_) (fun c1 => ?_)
  · replace h := zi_t c1 h
    exact bX19_get_239 hst F hA E  x0 x1 x2 x3 hx0 hx1 hr (lv_sub hl [0, 1, 2, 3] rfl) h
  · replace h := zi_f c1 h
    refine lv_aload F.1 F.2.1 dX19_get_224 (lv_at hl 4 rfl) ?_
    refine gf19_420 F hx4 hr dX19_get_226 ?_
    refine lv_iload F.1 F.2.1 dX19_get_229 (lv_at hl 5 rfl) ?_
    refine lv_iconst (v := (0 : Int32)) F.1 F.2.1 dX19_get_231 (by decide) ?_
    replace h := zk_some h
    obtain ⟨c2, h⟩ := h
    refine zr_zast (k := 166) (by decide) rfl (by decide) F (zal_a F hx4 (j := 6) rfl) hr dX19_get_232 c2 (fun H locs z3 ez3 hr => ?_)
    replace h := zl_sub ez3 h
    clear ez3
    obtain ⟨v4, ev4⟩ : ∃ y : Int32, y = (x5 + 1) := ⟨_, rfl⟩
    replace h := zl_sub ev4 h
    refine lv_iinc (v := v4) (lv' := [(5, .int v4), (0, .ref (B 19 x0)), (1, .ref (B 12 x1)), (2, .int x2), (3, .int x3), (4, .ref (B 17 x4))]) F.1 F.2.1 dX19_get_233 hl (k := 5) rfl (by rw [ev4]; rfl) (by decide) rfl (fun ls hl => ?_)
    refine lv_goto (tgt := 216) F.1 F.2.1 dX19_get_236 (by decide) ?_
    exact hK216 x0 x1 x2 x3 x4 v4 hx0 hx1 hx4 hr (lv_sub hl [1, 2, 3, 4, 5, 0] rfl) h
theorem lX19_get_216 (hst : zSt B ids) (F : zFx p m c cX19_get 7 s args RX19 D cy B ids A) (hA : ∀ q : Nat, s.heap.size ≤ q → A q) {r : Int32} {z' : St} (E : zEnd p l e rmX19_get s m args below meth c cX19_get D cy B ids A Q none z' .return_ True) {N : Nat}  : ∀ (n : Nat) (x0 : Nat) (x1 : Nat) (x2 : Int32) (x3 : Int32) (x4 : Nat) (x5 : Int32) (hx0 : (19, x0) ∈ ids) (hx1 : (12, x1) ∈ ids) (hx4 : (17, x4) ∈ ids) {z : St} {H : Heap} {locs : List Loc} {ls : Array Slot} (hr : zRep D cy B ids A s.heap z H locs) (hl : lv_has ls 7 [(0, .ref (B 19 x0)), (1, .ref (B 12 x1)), (2, .int x2), (3, .int x3), (4, .ref (B 17 x4)), (5, .int x5)]), fX19_get_216 N  n x0 x1 x2 x3 x4 x5 z = some (r, z') → W p l e rmX19_get s m args below meth c H locs 0 0 Q (F0 m 216 ls []) := by
  intro n
  induction n with
  | zero => intro x0 x1 x2 x3 x4 x5 hx0 hx1 hx4 z H locs ls hr hl h; cases h
  | succ n ih => intro x0 x1 x2 x3 x4 x5 hx0 hx1 hx4 z H locs ls hr hl h; exact bX19_get_216 hst F hA E ih x0 x1 x2 x3 x4 x5 hx0 hx1 hx4 hr hl h
def fX19_get_131 (N : Nat)  (x0 : Nat) (x1 : Nat) (x2 : Int32) (z : St) : Option (Int32 × St) := zl (zgI z 12 11 x1) fun v1 => zl (zsI z 12 11 x1 ((zgI z 12 11 x1) + (1 : Int32))) fun z2 => zk v1 4 <| zl (zgQ z2 148 x1 (Int32.toNatClampNeg v1)) fun y4 => zc (fX19_of N x0 x2 (0 : Int32) z2) fun r5 z6 => zd y4 fun a9 => zl (zsI z6 17 0 a9 r5) fun z10 => zc (fX19_of N x0 x2 (1 : Int32) z10) fun r11 z12 => zl (zsI z12 17 1 a9 r11) fun z15 => zc (fX19_of N x0 x2 (2 : Int32) z15) fun r16 z17 => zl (zsI z17 17 2 a9 r16) fun z20 => zc (fX19_of N x0 x2 (3 : Int32) z20) fun r21 z22 => zl (zsI z22 17 3 a9 r21) fun z25 => zl (zsI z25 17 4 a9 (zgI z25 19 24 x0)) fun z26 => zl (zsI z26 17 5 a9 (-1 : Int32)) fun z27 => fX19_get_216 N N x0 x1 x2 v1 a9 (0 : Int32) z27
set_option maxHeartbeats 4000000 in
set_option maxRecDepth 100000 in
theorem bX19_get_131 (hst : zSt B ids) (F : zFx p m c cX19_get 7 s args RX19 D cy B ids A) (hA : ∀ q : Nat, s.heap.size ≤ q → A q) {r : Int32} {z' : St} (E : zEnd p l e rmX19_get s m args below meth c cX19_get D cy B ids A Q none z' .return_ True) {N : Nat}  (x0 : Nat) (x1 : Nat) (x2 : Int32) (hx0 : (19, x0) ∈ ids) (hx1 : (12, x1) ∈ ids) {z : St} {H : Heap} {locs : List Loc} {ls : Array Slot} (hr : zRep D cy B ids A s.heap z H locs) (hl : lv_has ls 7 [(0, .ref (B 19 x0)), (1, .ref (B 12 x1)), (2, .int x2)]) (h : fX19_get_131 N x0 x1 x2 z = some (r, z')) : W p l e rmX19_get s m args below meth c H locs 0 0 Q (F0 m 131 ls []) := by
  unfold fX19_get_131 at h
  refine lv_aload_n F.1 F.2.1 dX19_get_131 rfl (lv_at hl 1 rfl) ?_
  refine gf19_392 F hx1 hr dX19_get_132 ?_
  refine lv_topi (fun v1 ev1 => ?_)
  replace h := zl_sub ev1 h
  refine lv_istore_n (lv' := [(3, .int v1), (0, .ref (B 19 x0)), (1, .ref (B 12 x1)), (2, .int x2)]) F.1 F.2.1 dX19_get_135 rfl hl (by decide) rfl (fun ls hl => ?_)
  refine lv_aload_n F.1 F.2.1 dX19_get_136 rfl (lv_at hl 2 rfl) ?_
  refine lv_dup F.1 F.2.1 dX19_get_137 rfl ?_
  refine gf19_392 F hx1 hr dX19_get_138 ?_
  refine lv_iconst (v := (1 : Int32)) F.1 F.2.1 dX19_get_141 (by decide) ?_
  refine lv_iadd F.1 F.2.1 dX19_get_142 ?_
  refine pf19_392 F hx1 hr dX19_get_143 ((zgI z 12 11 x1) + (1 : Int32)) (fun H locs z2 ez2 hr => ?_)
  replace h := zl_sub ez2 h
  clear ez2
  refine lv_aload_n F.1 F.2.1 dX19_get_146 rfl (lv_at hl 2 rfl) ?_
  refine gf19_395 F hx1 hr dX19_get_147 ?_
  refine lv_iload_n F.1 F.2.1 dX19_get_150 rfl (lv_at hl 0 rfl) ?_
  replace h := zk_some h
  obtain ⟨c3, h⟩ := h
  refine zr_aaldv (k := 148) (by decide) rfl rfl (zlen_d (by decide)) F (zal_a F hx1 (j := 10) rfl) hr dX19_get_151 c3 (fun y4 ey4 => ?_)
  replace h := zl_sub ey4 h
  have hy4 := zal_q hr (zal_a F hx1 (j := 10) rfl) rfl ey4
  clear ey4
  refine zr_astore (lv' := [(4, va_rf (Option.map (B 17) y4)), (3, .int v1), (0, .ref (B 19 x0)), (1, .ref (B 12 x1)), (2, .int x2)]) F.1 F.2.1 dX19_get_152 hl (by decide) rfl (fun ls hl => ?_)
  refine zr_aload F.1 F.2.1 dX19_get_154 (lv_at hl 0 rfl) ?_
  refine lv_aload_n F.1 F.2.1 dX19_get_156 rfl (lv_at hl 2 rfl) ?_
  refine lv_iload_n F.1 F.2.1 dX19_get_157 rfl (lv_at hl 4 rfl) ?_
  refine lv_iconst (v := (0 : Int32)) F.1 F.2.1 dX19_get_158 (by decide) ?_
  replace h := zc_some h
  obtain ⟨r5, z6, hc7, h⟩ := h
  refine zr_calli (zrun_V (As := [.int x2, .int (0 : Int32)]) (rest := [va_rf (Option.map (B 17) y4)]) zq_2549 zq_2551 zs_X19_of zq_2552 zq_4 hdX19_of (by decide) (T := TX19) (N := 32) rfl (okX19_of l D cy B ids hst N x0 hx0 x2  (0 : Int32)  hr.2.2 hc7) F hr hx0 hl.1 rfl (by simp only [List.map, zrf_cat]; exact Nat.le_of_ble_eq_true rfl) dX19_get_159 rfl rfl hroX19_get_X19_of ⟨Nat.zero_le _, Nat.zero_le _⟩) F hA hr (fun H locs hw8 hr => ?_)
  clear hc7
  replace h := zd_some h
  obtain ⟨a9, rfl, h⟩ := h
  refine pf19_399 F (hy4 _ rfl) hr dX19_get_162 r5 (fun H locs z10 ez10 hr => ?_)
  replace h := zl_sub ez10 h
  clear ez10
  refine lv_aload F.1 F.2.1 dX19_get_165 (lv_at hl 0 rfl) ?_
  refine lv_aload_n F.1 F.2.1 dX19_get_167 rfl (lv_at hl 2 rfl) ?_
  refine lv_iload_n F.1 F.2.1 dX19_get_168 rfl (lv_at hl 4 rfl) ?_
  refine lv_iconst (v := (1 : Int32)) F.1 F.2.1 dX19_get_169 (by decide) ?_
  replace h := zc_some h
  obtain ⟨r11, z12, hc13, h⟩ := h
  refine zr_calli (zrun_V (As := [.int x2, .int (1 : Int32)]) (rest := [.ref (B 17 a9)]) zq_2549 zq_2551 zs_X19_of zq_2552 zq_4 hdX19_of (by decide) (T := TX19) (N := 32) rfl (okX19_of l D cy B ids hst N x0 hx0 x2  (1 : Int32)  hr.2.2 hc13) F hr hx0 hl.1 rfl (Nat.le_of_ble_eq_true rfl) dX19_get_170 rfl rfl hroX19_get_X19_of ⟨Nat.zero_le _, Nat.zero_le _⟩) F hA hr (fun H locs hw14 hr => ?_)
  clear hc13
  refine pf19_404 F (hy4 _ rfl) hr dX19_get_173 r11 (fun H locs z15 ez15 hr => ?_)
  replace h := zl_sub ez15 h
  clear ez15
  refine lv_aload F.1 F.2.1 dX19_get_176 (lv_at hl 0 rfl) ?_
  refine lv_aload_n F.1 F.2.1 dX19_get_178 rfl (lv_at hl 2 rfl) ?_
  refine lv_iload_n F.1 F.2.1 dX19_get_179 rfl (lv_at hl 4 rfl) ?_
  refine lv_iconst (v := (2 : Int32)) F.1 F.2.1 dX19_get_180 (by decide) ?_
  replace h := zc_some h
  obtain ⟨r16, z17, hc18, h⟩ := h
  refine zr_calli (zrun_V (As := [.int x2, .int (2 : Int32)]) (rest := [.ref (B 17 a9)]) zq_2549 zq_2551 zs_X19_of zq_2552 zq_4 hdX19_of (by decide) (T := TX19) (N := 32) rfl (okX19_of l D cy B ids hst N x0 hx0 x2  (2 : Int32)  hr.2.2 hc18) F hr hx0 hl.1 rfl (Nat.le_of_ble_eq_true rfl) dX19_get_181 rfl rfl hroX19_get_X19_of ⟨Nat.zero_le _, Nat.zero_le _⟩) F hA hr (fun H locs hw19 hr => ?_)
  clear hc18
  refine pf19_407 F (hy4 _ rfl) hr dX19_get_184 r16 (fun H locs z20 ez20 hr => ?_)
  replace h := zl_sub ez20 h
  clear ez20
  refine lv_aload F.1 F.2.1 dX19_get_187 (lv_at hl 0 rfl) ?_
  refine lv_aload_n F.1 F.2.1 dX19_get_189 rfl (lv_at hl 2 rfl) ?_
  refine lv_iload_n F.1 F.2.1 dX19_get_190 rfl (lv_at hl 4 rfl) ?_
  refine lv_iconst (v := (3 : Int32)) F.1 F.2.1 dX19_get_191 (by decide) ?_
  replace h := zc_some h
  obtain ⟨r21, z22, hc23, h⟩ := h
  refine zr_calli (zrun_V (As := [.int x2, .int (3 : Int32)]) (rest := [.ref (B 17 a9)]) zq_2549 zq_2551 zs_X19_of zq_2552 zq_4 hdX19_of (by decide) (T := TX19) (N := 32) rfl (okX19_of l D cy B ids hst N x0 hx0 x2  (3 : Int32)  hr.2.2 hc23) F hr hx0 hl.1 rfl (Nat.le_of_ble_eq_true rfl) dX19_get_192 rfl rfl hroX19_get_X19_of ⟨Nat.zero_le _, Nat.zero_le _⟩) F hA hr (fun H locs hw24 hr => ?_)
  clear hc23
  refine pf19_410 F (hy4 _ rfl) hr dX19_get_195 r21 (fun H locs z25 ez25 hr => ?_)
  replace h := zl_sub ez25 h
  clear ez25
  refine lv_aload F.1 F.2.1 dX19_get_198 (lv_at hl 0 rfl) ?_
  refine lv_aload_n F.1 F.2.1 dX19_get_200 rfl (lv_at hl 2 rfl) ?_
  refine gf19_143 F hx0 hr dX19_get_201 ?_
  refine pf19_414 F (hy4 _ rfl) hr dX19_get_204 (zgI z25 19 24 x0) (fun H locs z26 ez26 hr => ?_)
  replace h := zl_sub ez26 h
  clear ez26
  refine lv_aload F.1 F.2.1 dX19_get_207 (lv_at hl 0 rfl) ?_
  refine lv_iconst (v := (-1 : Int32)) F.1 F.2.1 dX19_get_209 (by decide) ?_
  refine pf19_417 F (hy4 _ rfl) hr dX19_get_210 (-1 : Int32) (fun H locs z27 ez27 hr => ?_)
  replace h := zl_sub ez27 h
  clear ez27
  refine lv_iconst (v := (0 : Int32)) F.1 F.2.1 dX19_get_213 (by decide) ?_
  refine lv_istore (lv' := [(5, .int (0 : Int32)), (4, .ref (B 17 a9)), (3, .int v1), (0, .ref (B 19 x0)), (1, .ref (B 12 x1)), (2, .int x2)]) F.1 F.2.1 dX19_get_214 hl (by decide) rfl (fun ls hl => ?_)
  exact lX19_get_216 hst F hA E  _ x0 x1 x2 v1 a9 (0 : Int32) hx0 hx1 (hy4 _ rfl) hr (lv_sub hl [3, 4, 5, 2, 1, 0] rfl) h
def fX19_get_22b (N : Nat) (K22 : Nat → Nat → Int32 → Int32 → Int32 → St → Option (Int32 × St)) (x0 : Nat) (x1 : Nat) (x2 : Int32) (x3 : Int32) (x4 : Int32) (z : St) : Option (Int32 × St) := if (zgI z 12 11 x1) ≤ x4 then (if ¬ x3 = (-1 : Int32) then (fX19_get_239 N x0 x1 x2 x3 z) else (if ¬ (zgI z 12 11 x1) = (4 : Int32) then (fX19_get_131 N x0 x1 x2 z) else (zc (fX19_endPieces N x1 (0 : Int32) z) fun _ z5 => zc (fX19_stir N x0 z5) fun _ z9 => fX19_get_131 N x0 x1 x2 z9))) else (zk x4 4 <| zl (zgQ z 148 x1 (Int32.toNatClampNeg x4)) fun y13 => zd y13 fun a14 => zc (fX19_of N x0 x2 (0 : Int32) z) fun r15 z16 => if ¬ (zgI z 17 0 a14) = r15 then (fX19_get_101 N K22 x0 x1 x2 x3 x4 z16) else (zc (fX19_of N x0 x2 (1 : Int32) z16) fun r20 z21 => if ¬ (zgI z16 17 1 a14) = r20 then (fX19_get_101 N K22 x0 x1 x2 x3 x4 z21) else (zc (fX19_of N x0 x2 (2 : Int32) z21) fun r25 z26 => if ¬ (zgI z21 17 2 a14) = r25 then (fX19_get_101 N K22 x0 x1 x2 x3 x4 z26) else (zc (fX19_of N x0 x2 (3 : Int32) z26) fun r30 z31 => if ¬ (zgI z26 17 3 a14) = r30 then (fX19_get_101 N K22 x0 x1 x2 x3 x4 z31) else (fX19_get_102 N K22 x0 x1 x2 x4 x4 z31)))))
def fX19_get_22 (N : Nat)  : Nat → Nat → Nat → Int32 → Int32 → Int32 → St → Option (Int32 × St)
  | 0 => fun _ _ _ _ _ _ => none
  | n + 1 => fX19_get_22b N (fX19_get_22 N  n)
set_option maxHeartbeats 4000000 in
set_option maxRecDepth 100000 in
theorem bX19_get_22 (hst : zSt B ids) (F : zFx p m c cX19_get 7 s args RX19 D cy B ids A) (hA : ∀ q : Nat, s.heap.size ≤ q → A q) {r : Int32} {z' : St} (E : zEnd p l e rmX19_get s m args below meth c cX19_get D cy B ids A Q none z' .return_ True) {N : Nat} {K22 : Nat → Nat → Int32 → Int32 → Int32 → St → Option (Int32 × St)} (hK22 : ∀ (x0 : Nat) (x1 : Nat) (x2 : Int32) (x3 : Int32) (x4 : Int32) (hx0 : (19, x0) ∈ ids) (hx1 : (12, x1) ∈ ids) {z : St} {H : Heap} {locs : List Loc} {ls : Array Slot} (hr : zRep D cy B ids A s.heap z H locs) (hl : lv_has ls 7 [(0, .ref (B 19 x0)), (1, .ref (B 12 x1)), (2, .int x2), (3, .int x3), (4, .int x4)]), K22 x0 x1 x2 x3 x4 z = some (r, z') → W p l e rmX19_get s m args below meth c H locs 0 0 Q (F0 m 22 ls [])) (x0 : Nat) (x1 : Nat) (x2 : Int32) (x3 : Int32) (x4 : Int32) (hx0 : (19, x0) ∈ ids) (hx1 : (12, x1) ∈ ids) {z : St} {H : Heap} {locs : List Loc} {ls : Array Slot} (hr : zRep D cy B ids A s.heap z H locs) (hl : lv_has ls 7 [(0, .ref (B 19 x0)), (1, .ref (B 12 x1)), (2, .int x2), (3, .int x3), (4, .int x4)]) (h : fX19_get_22b N K22 x0 x1 x2 x3 x4 z = some (r, z')) : W p l e rmX19_get s m args below meth c H locs 0 0 Q (F0 m 22 ls []) := by
  unfold fX19_get_22b at h
  refine lv_iload F.1 F.2.1 dX19_get_22 (lv_at hl 4 rfl) ?_
  refine lv_aload_n F.1 F.2.1 dX19_get_24 rfl (lv_at hl 1 rfl) ?_
  refine gf19_392 F hx1 hr dX19_get_25 ?_
  refine lv_icmp_ge (tgt := 109) F.1 F.2.1 dX19_get_28 (by decide) (fun c1 => ?_) (fun c1 => ?_)
  · replace h := zi_t c1 h
    refine lv_iload_n F.1 F.2.1 dX19_get_109 rfl (lv_at hl 3 rfl) ?_
    refine lv_iconst (v := (-1 : Int32)) F.1 F.2.1 dX19_get_110 (by decide) ?_
    refine lv_icmp_ne (tgt := 239) F.1 F.2.1 dX19_get_111 (by decide) (fun c2 => ?_) (fun c2 => ?_)
    · replace h := zi_t c2 h
      exact bX19_get_239 hst F hA E  x0 x1 x2 x3 hx0 hx1 hr (lv_sub hl [0, 1, 2, 3] rfl) h
    · replace h := zi_f (fun q => q c2) h
      refine lv_aload_n F.1 F.2.1 dX19_get_114 rfl (lv_at hl 1 rfl) ?_
      refine gf19_392 F hx1 hr dX19_get_115 ?_
      refine lv_iconst (v := (4 : Int32)) F.1 F.2.1 dX19_get_118 (by decide) ?_
      refine lv_icmp_ne (tgt := 131) F.1 F.2.1 dX19_get_119 (by decide) (fun c3 => ?_) (fun c3 => ?_)
      · replace h := zi_t c3 h
        exact bX19_get_131 hst F hA E  x0 x1 x2 hx0 hx1 hr (lv_sub hl [0, 1, 2] rfl) h
      · replace h := zi_f (fun q => q c3) h
        refine lv_aload_n F.1 F.2.1 dX19_get_122 rfl (lv_at hl 1 rfl) ?_
        refine lv_iconst (v := (0 : Int32)) F.1 F.2.1 dX19_get_123 (by decide) ?_
        replace h := zc_some h
        obtain ⟨r4, z5, hc6, h⟩ := h
        refine zr_callv (zrun_S (As := [.ref (B 12 x1), .int (0 : Int32)]) (rest := []) zq_2841 zq_2842 zq_2843 zq_4 hdX19_endPieces (okX19_endPieces l D cy B ids hst N x1 hx1 (0 : Int32)  hr.2.2 hc6) F hr hl.1 rfl (by decide) dX19_get_124 rfl rfl hroX19_get_X19_endPieces ⟨Nat.zero_le _, Nat.zero_le _⟩) F hA hr (fun H locs hw7 hr => ?_)
        clear hc6
        refine lv_aload_n F.1 F.2.1 dX19_get_127 rfl (lv_at hl 0 rfl) ?_
        replace h := zc_some h
        obtain ⟨r8, z9, hc10, h⟩ := h
        refine zr_callv (zrun_V (As := []) (rest := []) zq_2394 zq_2396 zs_X19_stir zq_2397 zq_4 hdX19_stir (by decide) (T := TX19) (N := 32) rfl (okX19_stir l D cy B ids hst N x0 hx0 hr.2.2 hc10) F hr hx0 hl.1 rfl (by decide) dX19_get_128 rfl rfl hroX19_get_X19_stir ⟨Nat.zero_le _, Nat.zero_le _⟩) F hA hr (fun H locs hw11 hr => ?_)
        clear hc10
        exact bX19_get_131 hst F hA E  x0 x1 x2 hx0 hx1 hr (lv_sub hl [0, 1, 2] rfl) h
  · replace h := zi_f c1 h
    refine lv_aload_n F.1 F.2.1 dX19_get_31 rfl (lv_at hl 1 rfl) ?_
    refine gf19_395 F hx1 hr dX19_get_32 ?_
    refine lv_iload F.1 F.2.1 dX19_get_35 (lv_at hl 4 rfl) ?_
    replace h := zk_some h
    obtain ⟨c12, h⟩ := h
    refine zr_aaldv (k := 148) (by decide) rfl rfl (zlen_d (by decide)) F (zal_a F hx1 (j := 10) rfl) hr dX19_get_37 c12 (fun y13 ey13 => ?_)
    replace h := zl_sub ey13 h
    have hy13 := zal_q hr (zal_a F hx1 (j := 10) rfl) rfl ey13
    clear ey13
    refine zr_astore (lv' := [(5, va_rf (Option.map (B 17) y13)), (0, .ref (B 19 x0)), (1, .ref (B 12 x1)), (2, .int x2), (3, .int x3), (4, .int x4)]) F.1 F.2.1 dX19_get_38 hl (by decide) rfl (fun ls hl => ?_)
    refine zr_aload F.1 F.2.1 dX19_get_40 (lv_at hl 0 rfl) ?_
    replace h := zd_some h
    obtain ⟨a14, rfl, h⟩ := h
    refine gf19_399 F (hy13 _ rfl) hr dX19_get_42 ?_
    refine lv_aload_n F.1 F.2.1 dX19_get_45 rfl (lv_at hl 1 rfl) ?_
    refine lv_iload_n F.1 F.2.1 dX19_get_46 rfl (lv_at hl 3 rfl) ?_
    refine lv_iconst (v := (0 : Int32)) F.1 F.2.1 dX19_get_47 (by decide) ?_
    replace h := zc_some h
    obtain ⟨r15, z16, hc17, h⟩ := h
    refine zr_calli (zrun_V (As := [.int x2, .int (0 : Int32)]) (rest := [.int (zgI z 17 0 a14)]) zq_2549 zq_2551 zs_X19_of zq_2552 zq_4 hdX19_of (by decide) (T := TX19) (N := 32) rfl (okX19_of l D cy B ids hst N x0 hx0 x2  (0 : Int32)  hr.2.2 hc17) F hr hx0 hl.1 rfl (Nat.le_of_ble_eq_true rfl) dX19_get_48 rfl rfl hroX19_get_X19_of ⟨Nat.zero_le _, Nat.zero_le _⟩) F hA hr (fun H locs hw18 hr => ?_)
    clear hc17
    refine lv_icmp_ne (tgt := 101) F.1 F.2.1 dX19_get_51 (by decide) (fun c19 => ?_) (fun c19 => ?_)
    · replace h := zi_t c19 h
      exact bX19_get_101 hst F hA E hK22 x0 x1 x2 x3 x4 hx0 hx1 hr (lv_sub hl [1, 2, 3, 4, 5] rfl) h
    · replace h := zi_f (fun q => q c19) h
      refine lv_aload F.1 F.2.1 dX19_get_54 (lv_at hl 0 rfl) ?_
      refine gf19_404 F (hy13 _ rfl) hr dX19_get_56 ?_
      refine lv_aload_n F.1 F.2.1 dX19_get_59 rfl (lv_at hl 1 rfl) ?_
      refine lv_iload_n F.1 F.2.1 dX19_get_60 rfl (lv_at hl 3 rfl) ?_
      refine lv_iconst (v := (1 : Int32)) F.1 F.2.1 dX19_get_61 (by decide) ?_
      replace h := zc_some h
      obtain ⟨r20, z21, hc22, h⟩ := h
      refine zr_calli (zrun_V (As := [.int x2, .int (1 : Int32)]) (rest := [.int (zgI z16 17 1 a14)]) zq_2549 zq_2551 zs_X19_of zq_2552 zq_4 hdX19_of (by decide) (T := TX19) (N := 32) rfl (okX19_of l D cy B ids hst N x0 hx0 x2  (1 : Int32)  hr.2.2 hc22) F hr hx0 hl.1 rfl (Nat.le_of_ble_eq_true rfl) dX19_get_62 rfl rfl hroX19_get_X19_of ⟨Nat.zero_le _, Nat.zero_le _⟩) F hA hr (fun H locs hw23 hr => ?_)
      clear hc22
      refine lv_icmp_ne (tgt := 101) F.1 F.2.1 dX19_get_65 (by decide) (fun c24 => ?_) (fun c24 => ?_)
      · replace h := zi_t c24 h
        exact bX19_get_101 hst F hA E hK22 x0 x1 x2 x3 x4 hx0 hx1 hr (lv_sub hl [1, 2, 3, 4, 5] rfl) h
      · replace h := zi_f (fun q => q c24) h
        refine lv_aload F.1 F.2.1 dX19_get_68 (lv_at hl 0 rfl) ?_
        refine gf19_407 F (hy13 _ rfl) hr dX19_get_70 ?_
        refine lv_aload_n F.1 F.2.1 dX19_get_73 rfl (lv_at hl 1 rfl) ?_
        refine lv_iload_n F.1 F.2.1 dX19_get_74 rfl (lv_at hl 3 rfl) ?_
        refine lv_iconst (v := (2 : Int32)) F.1 F.2.1 dX19_get_75 (by decide) ?_
        replace h := zc_some h
        obtain ⟨r25, z26, hc27, h⟩ := h
        refine zr_calli (zrun_V (As := [.int x2, .int (2 : Int32)]) (rest := [.int (zgI z21 17 2 a14)]) zq_2549 zq_2551 zs_X19_of zq_2552 zq_4 hdX19_of (by decide) (T := TX19) (N := 32) rfl (okX19_of l D cy B ids hst N x0 hx0 x2  (2 : Int32)  hr.2.2 hc27) F hr hx0 hl.1 rfl (Nat.le_of_ble_eq_true rfl) dX19_get_76 rfl rfl hroX19_get_X19_of ⟨Nat.zero_le _, Nat.zero_le _⟩) F hA hr (fun H locs hw28 hr => ?_)
        clear hc27
        refine lv_icmp_ne (tgt := 101) F.1 F.2.1 dX19_get_79 (by decide) (fun c29 => ?_) (fun c29 => ?_)
        · replace h := zi_t c29 h
          exact bX19_get_101 hst F hA E hK22 x0 x1 x2 x3 x4 hx0 hx1 hr (lv_sub hl [1, 2, 3, 4, 5] rfl) h
        · replace h := zi_f (fun q => q c29) h
          refine lv_aload F.1 F.2.1 dX19_get_82 (lv_at hl 0 rfl) ?_
          refine gf19_410 F (hy13 _ rfl) hr dX19_get_84 ?_
          refine lv_aload_n F.1 F.2.1 dX19_get_87 rfl (lv_at hl 1 rfl) ?_
          refine lv_iload_n F.1 F.2.1 dX19_get_88 rfl (lv_at hl 3 rfl) ?_
          refine lv_iconst (v := (3 : Int32)) F.1 F.2.1 dX19_get_89 (by decide) ?_
          replace h := zc_some h
          obtain ⟨r30, z31, hc32, h⟩ := h
          refine zr_calli (zrun_V (As := [.int x2, .int (3 : Int32)]) (rest := [.int (zgI z26 17 3 a14)]) zq_2549 zq_2551 zs_X19_of zq_2552 zq_4 hdX19_of (by decide) (T := TX19) (N := 32) rfl (okX19_of l D cy B ids hst N x0 hx0 x2  (3 : Int32)  hr.2.2 hc32) F hr hx0 hl.1 rfl (Nat.le_of_ble_eq_true rfl) dX19_get_90 rfl rfl hroX19_get_X19_of ⟨Nat.zero_le _, Nat.zero_le _⟩) F hA hr (fun H locs hw33 hr => ?_)
          clear hc32
          refine lv_icmp_ne (tgt := 101) F.1 F.2.1 dX19_get_93 (by decide) (fun c34 => ?_) (fun c34 => ?_)
          · replace h := zi_t c34 h
            exact bX19_get_101 hst F hA E hK22 x0 x1 x2 x3 x4 hx0 hx1 hr (lv_sub hl [1, 2, 3, 4, 5] rfl) h
          · replace h := zi_f (fun q => q c34) h
            refine lv_iload F.1 F.2.1 dX19_get_96 (lv_at hl 5 rfl) ?_
            refine lv_goto (tgt := 102) F.1 F.2.1 dX19_get_98 (by decide) ?_
            exact bX19_get_102 hst F hA E hK22 x0 x1 x2 x4 x4 hx0 hx1 hr (lv_sub hl [1, 2, 3, 5] rfl) h
theorem lX19_get_22 (hst : zSt B ids) (F : zFx p m c cX19_get 7 s args RX19 D cy B ids A) (hA : ∀ q : Nat, s.heap.size ≤ q → A q) {r : Int32} {z' : St} (E : zEnd p l e rmX19_get s m args below meth c cX19_get D cy B ids A Q none z' .return_ True) {N : Nat}  : ∀ (n : Nat) (x0 : Nat) (x1 : Nat) (x2 : Int32) (x3 : Int32) (x4 : Int32) (hx0 : (19, x0) ∈ ids) (hx1 : (12, x1) ∈ ids) {z : St} {H : Heap} {locs : List Loc} {ls : Array Slot} (hr : zRep D cy B ids A s.heap z H locs) (hl : lv_has ls 7 [(0, .ref (B 19 x0)), (1, .ref (B 12 x1)), (2, .int x2), (3, .int x3), (4, .int x4)]), fX19_get_22 N  n x0 x1 x2 x3 x4 z = some (r, z') → W p l e rmX19_get s m args below meth c H locs 0 0 Q (F0 m 22 ls []) := by
  intro n
  induction n with
  | zero => intro x0 x1 x2 x3 x4 hx0 hx1 z H locs ls hr hl h; cases h
  | succ n ih => intro x0 x1 x2 x3 x4 hx0 hx1 z H locs ls hr hl h; exact bX19_get_22 hst F hA E ih x0 x1 x2 x3 x4 hx0 hx1 hr hl h
def fX19_get (N : Nat)  (x0 : Nat) (x1 : Nat) (x2 : Int32) (z : St) : Option (Int32 × St) := zc (fX19_of N x0 x2 (8 : Int32) z) fun r1 z2 => if ¬ r1 = 0 then (fX19_get_22 N N x0 x1 x2 (-1 : Int32) (0 : Int32) z2) else (zc (fX19_handle N x0 x1 x2 z2) fun _ z7 => some (0, z7))
set_option maxHeartbeats 4000000 in
set_option maxRecDepth 100000 in
theorem bX19_get_0 (hst : zSt B ids) (F : zFx p m c cX19_get 7 s args RX19 D cy B ids A) (hA : ∀ q : Nat, s.heap.size ≤ q → A q) {r : Int32} {z' : St} (E : zEnd p l e rmX19_get s m args below meth c cX19_get D cy B ids A Q none z' .return_ True) {N : Nat}  (x0 : Nat) (x1 : Nat) (x2 : Int32) (hx0 : (19, x0) ∈ ids) (hx1 : (12, x1) ∈ ids) {z : St} {H : Heap} {locs : List Loc} {ls : Array Slot} (hr : zRep D cy B ids A s.heap z H locs) (hl : lv_has ls 7 [(0, .ref (B 19 x0)), (1, .ref (B 12 x1)), (2, .int x2)]) (h : fX19_get N x0 x1 x2 z = some (r, z')) : W p l e rmX19_get s m args below meth c H locs 0 0 Q (F0 m 0 ls []) := by
  unfold fX19_get at h
  refine lv_aload_n F.1 F.2.1 dX19_get_0 rfl (lv_at hl 0 rfl) ?_
  refine lv_iload_n F.1 F.2.1 dX19_get_1 rfl (lv_at hl 2 rfl) ?_
  refine lv_bipush (v := (8 : Int32)) F.1 F.2.1 dX19_get_2 (by decide) ?_
  replace h := zc_some h
  obtain ⟨r1, z2, hc3, h⟩ := h
  refine zr_calli (zrun_V (As := [.int x2, .int (8 : Int32)]) (rest := []) zq_2549 zq_2551 zs_X19_of zq_2552 zq_4 hdX19_of (by decide) (T := TX19) (N := 32) rfl (okX19_of l D cy B ids hst N x0 hx0 x2  (8 : Int32)  hr.2.2 hc3) F hr hx0 hl.1 rfl (by decide) dX19_get_4 rfl rfl hroX19_get_X19_of ⟨Nat.zero_le _, Nat.zero_le _⟩) F hA hr (fun H locs hw4 hr => ?_)
  clear hc3
  refine lv_if_ne (tgt := 17) F.1 F.2.1 dX19_get_7 (by decide) (fun c5 => ?_) (fun c5 => ?_)
  · replace h := zi_t c5 h
    refine lv_iconst (v := (-1 : Int32)) F.1 F.2.1 dX19_get_17 (by decide) ?_
    refine lv_istore_n (lv' := [(3, .int (-1 : Int32)), (0, .ref (B 19 x0)), (1, .ref (B 12 x1)), (2, .int x2)]) F.1 F.2.1 dX19_get_18 rfl hl (by decide) rfl (fun ls hl => ?_)
    refine lv_iconst (v := (0 : Int32)) F.1 F.2.1 dX19_get_19 (by decide) ?_
    refine lv_istore (lv' := [(4, .int (0 : Int32)), (3, .int (-1 : Int32)), (0, .ref (B 19 x0)), (1, .ref (B 12 x1)), (2, .int x2)]) F.1 F.2.1 dX19_get_20 hl (by decide) rfl (fun ls hl => ?_)
    exact lX19_get_22 hst F hA E  _ x0 x1 x2 (-1 : Int32) (0 : Int32) hx0 hx1 hr (lv_sub hl [2, 3, 4, 1, 0] rfl) h
  · replace h := zi_f (fun q => q c5) h
    refine lv_aload_n F.1 F.2.1 dX19_get_10 rfl (lv_at hl 0 rfl) ?_
    refine lv_aload_n F.1 F.2.1 dX19_get_11 rfl (lv_at hl 1 rfl) ?_
    refine lv_iload_n F.1 F.2.1 dX19_get_12 rfl (lv_at hl 2 rfl) ?_
    replace h := zc_some h
    obtain ⟨r6, z7, hc8, h⟩ := h
    refine zr_callv (zrun_V (As := [.ref (B 12 x1), .int x2]) (rest := []) zq_2635 zq_2637 zs_X19_handle zq_2638 zq_4 hdX19_handle (by decide) (T := TX19) (N := 32) rfl (okX19_handle l D cy B ids hst N x0 hx0 x1 hx1 x2  hr.2.2 hc8) F hr hx0 hl.1 rfl (by decide) dX19_get_13 rfl rfl hroX19_get_X19_handle ⟨Nat.zero_le _, Nat.zero_le _⟩) F hA hr (fun H locs hw9 hr => ?_)
    clear hc8
    obtain ⟨rfl, rfl⟩ := zret h
    exact E _ _ _ _ dX19_get_16 trivial hr
end SX19_get
set_option maxRecDepth 100000 in
theorem okX19_get (l : Launch) (D : va_G) (cy : Nat → ClassId) (B : Nat → Nat → Nat) (ids : List (Nat × Nat)) (hst : zSt B ids) (N : Nat) (x0 : Nat) (hx0 : (19, x0) ∈ ids) (x1 : Nat) (hx1 : (12, x1) ∈ ids) (x2 : Int32) {z : St} {r : Int32} {z' : St} (hW : zWf ids z) (h : fX19_get N x0 x1 x2 z = some (r, z')) : zM l yX19_get (zws yX19_get cX19_get 7 none) rmX19_get D cy B ids [.ref (B 19 x0), .ref (B 12 x1), .int x2] none True z z' :=
  zM_of hst hW (by decide +kernel) (Nat.le_of_ble_eq_true rfl) (fun p e s m args below meth c A ls F hA hret hlocks hr hl => bX19_get_0 hst F hA (zEnd_v F hret hlocks) x0 x1 x2 hx0 hx1 hr hl h)
abbrev rmX19_arrive : Room := { frames := 15, cells := 0, slots := 0, locals := 391 }
theorem hdX19_arrive : yX19_arrive.cls ≠ "java/lang/invoke/MethodHandle" ∧ yX19_arrive.cls ≠ "java/lang/invoke/VarHandle" ∧ (parseMethodDescriptor yX19_arrive.desc).map (fun d => d.parameters.length) = some 6 := by decide +kernel
theorem hroX19_arrive_X18_address : rmX18_address.frames + 1 ≤ rmX19_arrive.frames ∧ 8 + (1 + 11) + rmX18_address.locals ≤ rmX19_arrive.locals := by decide
theorem hroX19_arrive_X18_askingOf : rmX18_askingOf.frames + 1 ≤ rmX19_arrive.frames ∧ 8 + (3 + 11) + rmX18_askingOf.locals ≤ rmX19_arrive.locals := by decide
theorem hroX19_arrive_X18_endAsking : rmX18_endAsking.frames + 1 ≤ rmX19_arrive.frames ∧ 8 + (3 + 11) + rmX18_endAsking.locals ≤ rmX19_arrive.locals := by decide
theorem hroX19_arrive_X19_carry : rmX19_carry.frames + 1 ≤ rmX19_arrive.frames ∧ 8 + (9 + 11) + rmX19_carry.locals ≤ rmX19_arrive.locals := by decide
theorem hroX19_arrive_X19_copyOf : rmX19_copyOf.frames + 1 ≤ rmX19_arrive.frames ∧ 8 + (4 + 11) + rmX19_copyOf.locals ≤ rmX19_arrive.locals := by decide
theorem hroX19_arrive_X19_drop : rmX19_drop.frames + 1 ≤ rmX19_arrive.frames ∧ 8 + (2 + 11) + rmX19_drop.locals ≤ rmX19_arrive.locals := by decide
theorem hroX19_arrive_X19_firstWaiting : rmX19_firstWaiting.frames + 1 ≤ rmX19_arrive.frames ∧ 8 + (4 + 11) + rmX19_firstWaiting.locals ≤ rmX19_arrive.locals := by decide
theorem hroX19_arrive_X19_forward : rmX19_forward.frames + 1 ≤ rmX19_arrive.frames ∧ 8 + (3 + 11) + rmX19_forward.locals ≤ rmX19_arrive.locals := by decide
theorem hroX19_arrive_X19_get : rmX19_get.frames + 1 ≤ rmX19_arrive.frames ∧ 8 + (7 + 11) + rmX19_get.locals ≤ rmX19_arrive.locals := by decide
theorem hroX19_arrive_X19_isOwn : rmX19_isOwn.frames + 1 ≤ rmX19_arrive.frames ∧ 8 + (4 + 11) + rmX19_isOwn.locals ≤ rmX19_arrive.locals := by decide
theorem hroX19_arrive_X19_of : rmX19_of.frames + 1 ≤ rmX19_arrive.frames ∧ 8 + (3 + 11) + rmX19_of.locals ≤ rmX19_arrive.locals := by decide
theorem hroX19_arrive_X19_put : rmX19_put.frames + 1 ≤ rmX19_arrive.frames ∧ 8 + (9 + 11) + rmX19_put.locals ≤ rmX19_arrive.locals := by decide
theorem hroX19_arrive_X19_set : rmX19_set.frames + 1 ≤ rmX19_arrive.frames ∧ 8 + (4 + 11) + rmX19_set.locals ≤ rmX19_arrive.locals := by decide
section SX19_arrive
variable {p : Program} {l : Launch} {e : Env} {s : State} {m : MethodId} {args : Array Value} {below : List Frame} {meth : Method} {c : Code} {Q : State → Prop} {D : va_G} {cy : Nat → ClassId} {B : Nat → Nat → Nat} {ids : List (Nat × Nat)} {A : Nat → Prop}
def fX19_arrive_206 (N : Nat)  (x0 : Nat) (x8 : Int32) (z : St) : Option (Int32 × St) := zc (fX19_drop N x0 x8 z) fun _ z2 => some (0, z2)
set_option maxHeartbeats 4000000 in
set_option maxRecDepth 100000 in
theorem bX19_arrive_206 (hst : zSt B ids) (F : zFx p m c cX19_arrive 10 s args RX19 D cy B ids A) (hA : ∀ q : Nat, s.heap.size ≤ q → A q) {r : Int32} {z' : St} (E : zEnd p l e rmX19_arrive s m args below meth c cX19_arrive D cy B ids A Q none z' .return_ True) {N : Nat}  (x0 : Nat) (x8 : Int32) (hx0 : (19, x0) ∈ ids) {z : St} {H : Heap} {locs : List Loc} {ls : Array Slot} (hr : zRep D cy B ids A s.heap z H locs) (hl : lv_has ls 10 [(0, .ref (B 19 x0)), (8, .int x8)]) (h : fX19_arrive_206 N x0 x8 z = some (r, z')) : W p l e rmX19_arrive s m args below meth c H locs 0 0 Q (F0 m 206 ls []) := by
  unfold fX19_arrive_206 at h
  refine lv_aload_n F.1 F.2.1 dX19_arrive_206 rfl (lv_at hl 0 rfl) ?_
  refine lv_iload F.1 F.2.1 dX19_arrive_207 (lv_at hl 1 rfl) ?_
  replace h := zc_some h
  obtain ⟨r1, z2, hc3, h⟩ := h
  refine zr_callv (zrun_V (As := [.int x8]) (rest := []) zq_2545 zq_2547 zs_X19_drop zq_2548 zq_4 hdX19_drop (by decide) (T := TX19) (N := 32) rfl (okX19_drop l D cy B ids hst N x0 hx0 x8  hr.2.2 hc3) F hr hx0 hl.1 rfl (by decide) dX19_arrive_209 rfl rfl hroX19_arrive_X19_drop ⟨Nat.zero_le _, Nat.zero_le _⟩) F hA hr (fun H locs hw4 hr => ?_)
  clear hc3
  obtain ⟨rfl, rfl⟩ := zret h
  exact E _ _ _ _ dX19_arrive_212 trivial hr
def fX19_arrive_147 (N : Nat)  (x0 : Nat) (x1 : Nat) (x8 : Int32) (z : St) : Option (Int32 × St) := zl (zgR z 18 0 x1) fun y1 => zd y1 fun a2 => zc (fX19_get N x0 a2 x8 z) fun _ z4 => fX19_arrive_206 N x0 x8 z4
set_option maxHeartbeats 4000000 in
set_option maxRecDepth 100000 in
theorem bX19_arrive_147 (hst : zSt B ids) (F : zFx p m c cX19_arrive 10 s args RX19 D cy B ids A) (hA : ∀ q : Nat, s.heap.size ≤ q → A q) {r : Int32} {z' : St} (E : zEnd p l e rmX19_arrive s m args below meth c cX19_arrive D cy B ids A Q none z' .return_ True) {N : Nat}  (x0 : Nat) (x1 : Nat) (x8 : Int32) (hx0 : (19, x0) ∈ ids) (hx1 : (18, x1) ∈ ids) {z : St} {H : Heap} {locs : List Loc} {ls : Array Slot} (hr : zRep D cy B ids A s.heap z H locs) (hl : lv_has ls 10 [(0, .ref (B 19 x0)), (1, .ref (B 18 x1)), (8, .int x8)]) (h : fX19_arrive_147 N x0 x1 x8 z = some (r, z')) : W p l e rmX19_arrive s m args below meth c H locs 0 0 Q (F0 m 147 ls []) := by
  unfold fX19_arrive_147 at h
  refine lv_aload_n F.1 F.2.1 dX19_arrive_147 rfl (lv_at hl 0 rfl) ?_
  refine lv_aload_n F.1 F.2.1 dX19_arrive_148 rfl (lv_at hl 1 rfl) ?_
  refine gf19_197 F hx1 hr dX19_arrive_149 (fun y1 ey1 => ?_)
  replace h := zl_sub ey1 h
  have hy1 := zal_g hr hx1 (j := 0) rfl ey1
  clear ey1
  refine lv_iload F.1 F.2.1 dX19_arrive_152 (lv_at hl 2 rfl) ?_
  replace h := zd_some h
  obtain ⟨a2, rfl, h⟩ := h
  replace h := zc_some h
  obtain ⟨r3, z4, hc5, h⟩ := h
  refine zr_callv (zrun_V (As := [.ref (B 12 a2), .int x8]) (rest := []) zq_2631 zq_2633 zs_X19_get zq_2634 zq_4 hdX19_get (by decide) (T := TX19) (N := 32) rfl (okX19_get l D cy B ids hst N x0 hx0 a2 (hy1 _ rfl) x8  hr.2.2 hc5) F hr hx0 hl.1 rfl (by decide) dX19_arrive_154 rfl rfl hroX19_arrive_X19_get ⟨Nat.zero_le _, Nat.zero_le _⟩) F hA hr (fun H locs hw6 hr => ?_)
  clear hc5
  refine lv_goto (tgt := 206) F.1 F.2.1 dX19_arrive_157 (by decide) ?_
  exact bX19_arrive_206 hst F hA E  x0 x8 hx0 hr (lv_sub hl [0, 2] rfl) h
def fX19_arrive_196 (N : Nat)  (x0 : Nat) (x1 : Nat) (x8 : Int32) (z : St) : Option (Int32 × St) := zl (zgR z 18 0 x1) fun y1 => zd y1 fun a2 => zc (fX19_forward N x0 a2 x8 z) fun _ z4 => fX19_arrive_206 N x0 x8 z4
set_option maxHeartbeats 4000000 in
set_option maxRecDepth 100000 in
theorem bX19_arrive_196 (hst : zSt B ids) (F : zFx p m c cX19_arrive 10 s args RX19 D cy B ids A) (hA : ∀ q : Nat, s.heap.size ≤ q → A q) {r : Int32} {z' : St} (E : zEnd p l e rmX19_arrive s m args below meth c cX19_arrive D cy B ids A Q none z' .return_ True) {N : Nat}  (x0 : Nat) (x1 : Nat) (x8 : Int32) (hx0 : (19, x0) ∈ ids) (hx1 : (18, x1) ∈ ids) {z : St} {H : Heap} {locs : List Loc} {ls : Array Slot} (hr : zRep D cy B ids A s.heap z H locs) (hl : lv_has ls 10 [(0, .ref (B 19 x0)), (1, .ref (B 18 x1)), (8, .int x8)]) (h : fX19_arrive_196 N x0 x1 x8 z = some (r, z')) : W p l e rmX19_arrive s m args below meth c H locs 0 0 Q (F0 m 196 ls []) := by
  unfold fX19_arrive_196 at h
  refine lv_aload_n F.1 F.2.1 dX19_arrive_196 rfl (lv_at hl 0 rfl) ?_
  refine lv_aload_n F.1 F.2.1 dX19_arrive_197 rfl (lv_at hl 1 rfl) ?_
  refine gf19_197 F hx1 hr dX19_arrive_198 (fun y1 ey1 => ?_)
  replace h := zl_sub ey1 h
  have hy1 := zal_g hr hx1 (j := 0) rfl ey1
  clear ey1
  refine lv_iload F.1 F.2.1 dX19_arrive_201 (lv_at hl 2 rfl) ?_
  replace h := zd_some h
  obtain ⟨a2, rfl, h⟩ := h
  replace h := zc_some h
  obtain ⟨r3, z4, hc5, h⟩ := h
  refine zr_callv (zrun_V (As := [.ref (B 12 a2), .int x8]) (rest := []) zq_2848 zq_2850 zs_X19_forward zq_2851 zq_4 hdX19_forward (by decide) (T := TX19) (N := 32) rfl (okX19_forward l D cy B ids hst N x0 hx0 a2 (hy1 _ rfl) x8  hr.2.2 hc5) F hr hx0 hl.1 rfl (by decide) dX19_arrive_203 rfl rfl hroX19_arrive_X19_forward ⟨Nat.zero_le _, Nat.zero_le _⟩) F hA hr (fun H locs hw6 hr => ?_)
  clear hc5
  exact bX19_arrive_206 hst F hA E  x0 x8 hx0 hr (lv_sub hl [0, 2] rfl) h
def fX19_arrive_68 (N : Nat)  (x0 : Nat) (x1 : Nat) (x2 : Int32) (x3 : Int32) (x4 : Int32) (x5 : Int32) (x6 : Int32) (z : St) : Option (Int32 × St) := if ¬ x4 = 0 then (if ¬ x4 = (2 : Int32) then (some (0, z)) else (zc (fX19_copyOf N x0 x6 z) fun r3 z4 => zc (fX19_set N x0 r3 (9 : Int32) (zgI z4 18 1 x1) z4) fun _ z8 => zc (fX19_of N x0 r3 (1 : Int32) z8) fun r11 z12 => if r11 = 0 then (fX19_arrive_147 N x0 x1 r3 z12) else (zl (zgR z12 18 0 x1) fun y16 => zd y16 fun a17 => zc (fX19_isOwn N x0 a17 r11 z12) fun r18 z19 => if r18 = 0 then (zl (zgR z19 18 0 x1) fun y23 => zd y23 fun a24 => if (zgI z19 12 1 a24) = 0 then (fX19_arrive_206 N x0 r3 z19) else (if x3 = (-1 : Int32) then (fX19_arrive_206 N x0 r3 z19) else (zc (fX19_of N x0 r3 (2 : Int32) z19) fun r27 z28 => if r27 = (1 : Int32) then (fX19_arrive_196 N x0 x1 r3 z28) else (zc (fX19_of N x0 r3 (2 : Int32) z28) fun r32 z33 => if ¬ r32 = 0 then (fX19_arrive_206 N x0 r3 z33) else (fX19_arrive_196 N x0 x1 r3 z33))))) else (fX19_arrive_147 N x0 x1 r3 z19)))) else (zc (fX18_address N x1 z) fun r37 z38 => if ¬ x5 = r37 then (some (0, z38)) else (zc (fX19_put N x0 x1 x2 (1 : Int32) (0 : Int32) (-1 : Int32) z38) fun _ z43 => some (0, z43)))
set_option maxHeartbeats 4000000 in
set_option maxRecDepth 100000 in
theorem bX19_arrive_68 (hst : zSt B ids) (F : zFx p m c cX19_arrive 10 s args RX19 D cy B ids A) (hA : ∀ q : Nat, s.heap.size ≤ q → A q) {r : Int32} {z' : St} (E : zEnd p l e rmX19_arrive s m args below meth c cX19_arrive D cy B ids A Q none z' .return_ True) {N : Nat}  (x0 : Nat) (x1 : Nat) (x2 : Int32) (x3 : Int32) (x4 : Int32) (x5 : Int32) (x6 : Int32) (hx0 : (19, x0) ∈ ids) (hx1 : (18, x1) ∈ ids) {z : St} {H : Heap} {locs : List Loc} {ls : Array Slot} (hr : zRep D cy B ids A s.heap z H locs) (hl : lv_has ls 10 [(0, .ref (B 19 x0)), (1, .ref (B 18 x1)), (2, .int x2), (3, .int x3), (4, .int x4), (5, .int x5), (6, .int x6)]) (h : fX19_arrive_68 N x0 x1 x2 x3 x4 x5 x6 z = some (r, z')) : W p l e rmX19_arrive s m args below meth c H locs 0 0 Q (F0 m 68 ls []) := by
  unfold fX19_arrive_68 at h
  refine lv_iload F.1 F.2.1 dX19_arrive_68 (lv_at hl 4 rfl) ?_
  refine lv_if_ne (tgt := 94) F.1 F.2.1 dX19_arrive_70 (by decide) (fun c1 => ?_) (fun c1 => ?_)
  · replace h := zi_t c1 h
    refine lv_iload F.1 F.2.1 dX19_arrive_94 (lv_at hl 4 rfl) ?_
    refine lv_iconst (v := (2 : Int32)) F.1 F.2.1 dX19_arrive_96 (by decide) ?_
    refine lv_icmp_ne (tgt := 212) F.1 F.2.1 dX19_arrive_97 (by decide) (fun c2 => ?_) (fun c2 => ?_)
    · replace h := zi_t c2 h
      obtain ⟨rfl, rfl⟩ := zret h
      exact E _ _ _ _ dX19_arrive_212 trivial hr
    · replace h := zi_f (fun q => q c2) h
      refine lv_aload_n F.1 F.2.1 dX19_arrive_100 rfl (lv_at hl 0 rfl) ?_
      refine lv_iload F.1 F.2.1 dX19_arrive_101 (lv_at hl 6 rfl) ?_
      replace h := zc_some h
      obtain ⟨r3, z4, hc5, h⟩ := h
      refine zr_calli (zrun_V (As := [.int x6]) (rest := []) zq_2619 zq_2621 zs_X19_copyOf zq_2622 zq_4 hdX19_copyOf (by decide) (T := TX19) (N := 32) rfl (okX19_copyOf l D cy B ids hst N x0 hx0 x6  hr.2.2 hc5) F hr hx0 hl.1 rfl (by decide) dX19_arrive_103 rfl rfl hroX19_arrive_X19_copyOf ⟨Nat.zero_le _, Nat.zero_le _⟩) F hA hr (fun H locs hw6 hr => ?_)
      clear hc5
      refine lv_istore (lv' := [(8, .int r3), (0, .ref (B 19 x0)), (1, .ref (B 18 x1)), (2, .int x2), (3, .int x3), (4, .int x4), (5, .int x5), (6, .int x6)]) F.1 F.2.1 dX19_arrive_106 hl (by decide) rfl (fun ls hl => ?_)
      refine lv_aload_n F.1 F.2.1 dX19_arrive_108 rfl (lv_at hl 1 rfl) ?_
      refine lv_iload F.1 F.2.1 dX19_arrive_109 (lv_at hl 0 rfl) ?_
      refine lv_bipush (v := (9 : Int32)) F.1 F.2.1 dX19_arrive_111 (by decide) ?_
      refine lv_aload_n F.1 F.2.1 dX19_arrive_113 rfl (lv_at hl 2 rfl) ?_
      refine gf19_380 F hx1 hr dX19_arrive_114 ?_
      replace h := zc_some h
      obtain ⟨r7, z8, hc9, h⟩ := h
      refine zr_callv (zrun_V (As := [.int r3, .int (9 : Int32), .int (zgI z4 18 1 x1)]) (rest := []) zq_2623 zq_2625 zs_X19_set zq_2626 zq_4 hdX19_set (by decide) (T := TX19) (N := 32) rfl (okX19_set l D cy B ids hst N x0 hx0 r3  (9 : Int32)  (zgI z4 18 1 x1)  hr.2.2 hc9) F hr hx0 hl.1 rfl (by decide) dX19_arrive_117 rfl rfl hroX19_arrive_X19_set ⟨Nat.zero_le _, Nat.zero_le _⟩) F hA hr (fun H locs hw10 hr => ?_)
      clear hc9
      refine lv_aload_n F.1 F.2.1 dX19_arrive_120 rfl (lv_at hl 1 rfl) ?_
      refine lv_iload F.1 F.2.1 dX19_arrive_121 (lv_at hl 0 rfl) ?_
      refine lv_iconst (v := (1 : Int32)) F.1 F.2.1 dX19_arrive_123 (by decide) ?_
      replace h := zc_some h
      obtain ⟨r11, z12, hc13, h⟩ := h
      refine zr_calli (zrun_V (As := [.int r3, .int (1 : Int32)]) (rest := []) zq_2549 zq_2551 zs_X19_of zq_2552 zq_4 hdX19_of (by decide) (T := TX19) (N := 32) rfl (okX19_of l D cy B ids hst N x0 hx0 r3  (1 : Int32)  hr.2.2 hc13) F hr hx0 hl.1 rfl (by decide) dX19_arrive_124 rfl rfl hroX19_arrive_X19_of ⟨Nat.zero_le _, Nat.zero_le _⟩) F hA hr (fun H locs hw14 hr => ?_)
      clear hc13
      refine lv_istore (lv' := [(9, .int r11), (8, .int r3), (0, .ref (B 19 x0)), (1, .ref (B 18 x1)), (2, .int x2), (3, .int x3), (4, .int x4), (5, .int x5), (6, .int x6)]) F.1 F.2.1 dX19_arrive_127 hl (by decide) rfl (fun ls hl => ?_)
      refine lv_iload F.1 F.2.1 dX19_arrive_129 (lv_at hl 0 rfl) ?_
      refine lv_if_eq (tgt := 147) F.1 F.2.1 dX19_arrive_131 (by decide) (fun c15 => ?_) (fun c15 => ?_)
      · replace h := zi_t c15 h
        exact bX19_arrive_147 hst F hA E  x0 x1 r3 hx0 hx1 hr (lv_sub hl [2, 3, 1] rfl) h
      · replace h := zi_f c15 h
        refine lv_aload_n F.1 F.2.1 dX19_arrive_134 rfl (lv_at hl 2 rfl) ?_
        refine lv_aload_n F.1 F.2.1 dX19_arrive_135 rfl (lv_at hl 3 rfl) ?_
        refine gf19_197 F hx1 hr dX19_arrive_136 (fun y16 ey16 => ?_)
        replace h := zl_sub ey16 h
        have hy16 := zal_g hr hx1 (j := 0) rfl ey16
        clear ey16
        refine lv_iload F.1 F.2.1 dX19_arrive_139 (lv_at hl 0 rfl) ?_
        replace h := zd_some h
        obtain ⟨a17, rfl, h⟩ := h
        replace h := zc_some h
        obtain ⟨r18, z19, hc20, h⟩ := h
        refine zr_calli (zrun_V (As := [.ref (B 12 a17), .int r11]) (rest := []) zq_2627 zq_2629 zs_X19_isOwn zq_2630 zq_4 hdX19_isOwn (by decide) (T := TX19) (N := 32) rfl (okX19_isOwn l D cy B ids hst N x0 hx0 a17 (hy16 _ rfl) r11  hr.2.2 hc20) F hr hx0 hl.1 rfl (by decide) dX19_arrive_141 rfl rfl hroX19_arrive_X19_isOwn ⟨Nat.zero_le _, Nat.zero_le _⟩) F hA hr (fun H locs hw21 hr => ?_)
        clear hc20
        refine lv_if_eq (tgt := 160) F.1 F.2.1 dX19_arrive_144 (by decide) (fun c22 => ?_) (fun c22 => ?_)
        · replace h := zi_t c22 h
          refine lv_aload_n F.1 F.2.1 dX19_arrive_160 rfl (lv_at hl 3 rfl) ?_
          refine gf19_197 F hx1 hr dX19_arrive_161 (fun y23 ey23 => ?_)
          replace h := zl_sub ey23 h
          have hy23 := zal_g hr hx1 (j := 0) rfl ey23
          clear ey23
          replace h := zd_some h
          obtain ⟨a24, rfl, h⟩ := h
          refine gf19_298 F (hy23 _ rfl) hr dX19_arrive_164 ?_
          refine lv_if_eq (tgt := 206) F.1 F.2.1 dX19_arrive_167 (by decide) (fun c25 => ?_) (fun c25 => ?_)
          · replace h := zi_t c25 h
            exact bX19_arrive_206 hst F hA E  x0 r3 hx0 hr (lv_sub hl [2, 1] rfl) h
          · replace h := zi_f c25 h
            refine lv_iload_n F.1 F.2.1 dX19_arrive_170 rfl (lv_at hl 5 rfl) ?_
            refine lv_iconst (v := (-1 : Int32)) F.1 F.2.1 dX19_arrive_171 (by decide) ?_
            refine lv_icmp_eq (tgt := 206) F.1 F.2.1 dX19_arrive_172 (by decide) (fun c26 => ?_) (fun c26 => ?_)
            · replace h := zi_t c26 h
              exact bX19_arrive_206 hst F hA E  x0 r3 hx0 hr (lv_sub hl [2, 1] rfl) h
            · replace h := zi_f c26 h
              refine lv_aload_n F.1 F.2.1 dX19_arrive_175 rfl (lv_at hl 2 rfl) ?_
              refine lv_iload F.1 F.2.1 dX19_arrive_176 (lv_at hl 1 rfl) ?_
              refine lv_iconst (v := (2 : Int32)) F.1 F.2.1 dX19_arrive_178 (by decide) ?_
              replace h := zc_some h
              obtain ⟨r27, z28, hc29, h⟩ := h
              refine zr_calli (zrun_V (As := [.int r3, .int (2 : Int32)]) (rest := []) zq_2549 zq_2551 zs_X19_of zq_2552 zq_4 hdX19_of (by decide) (T := TX19) (N := 32) rfl (okX19_of l D cy B ids hst N x0 hx0 r3  (2 : Int32)  hr.2.2 hc29) F hr hx0 hl.1 rfl (by decide) dX19_arrive_179 rfl rfl hroX19_arrive_X19_of ⟨Nat.zero_le _, Nat.zero_le _⟩) F hA hr (fun H locs hw30 hr => ?_)
              clear hc29
              refine lv_iconst (v := (1 : Int32)) F.1 F.2.1 dX19_arrive_182 (by decide) ?_
              refine lv_icmp_eq (tgt := 196) F.1 F.2.1 dX19_arrive_183 (by decide) (fun c31 => ?_) (fun c31 => ?_)
              · replace h := zi_t c31 h
                exact bX19_arrive_196 hst F hA E  x0 x1 r3 hx0 hx1 hr (lv_sub hl [2, 3, 1] rfl) h
              · replace h := zi_f c31 h
                refine lv_aload_n F.1 F.2.1 dX19_arrive_186 rfl (lv_at hl 2 rfl) ?_
                refine lv_iload F.1 F.2.1 dX19_arrive_187 (lv_at hl 1 rfl) ?_
                refine lv_iconst (v := (2 : Int32)) F.1 F.2.1 dX19_arrive_189 (by decide) ?_
                replace h := zc_some h
                obtain ⟨r32, z33, hc34, h⟩ := h
                refine zr_calli (zrun_V (As := [.int r3, .int (2 : Int32)]) (rest := []) zq_2549 zq_2551 zs_X19_of zq_2552 zq_4 hdX19_of (by decide) (T := TX19) (N := 32) rfl (okX19_of l D cy B ids hst N x0 hx0 r3  (2 : Int32)  hr.2.2 hc34) F hr hx0 hl.1 rfl (by decide) dX19_arrive_190 rfl rfl hroX19_arrive_X19_of ⟨Nat.zero_le _, Nat.zero_le _⟩) F hA hr (fun H locs hw35 hr => ?_)
                clear hc34
                refine lv_if_ne (tgt := 206) F.1 F.2.1 dX19_arrive_193 (by decide) (fun c36 => ?_) (fun c36 => ?_)
                · replace h := zi_t c36 h
                  exact bX19_arrive_206 hst F hA E  x0 r3 hx0 hr (lv_sub hl [2, 1] rfl) h
                · replace h := zi_f (fun q => q c36) h
                  exact bX19_arrive_196 hst F hA E  x0 x1 r3 hx0 hx1 hr (lv_sub hl [2, 3, 1] rfl) h
        · replace h := zi_f c22 h
          exact bX19_arrive_147 hst F hA E  x0 x1 r3 hx0 hx1 hr (lv_sub hl [2, 3, 1] rfl) h
  · replace h := zi_f (fun q => q c1) h
    refine lv_iload F.1 F.2.1 dX19_arrive_73 (lv_at hl 5 rfl) ?_
    refine lv_aload_n F.1 F.2.1 dX19_arrive_75 rfl (lv_at hl 1 rfl) ?_
    replace h := zc_some h
    obtain ⟨r37, z38, hc39, h⟩ := h
    refine zr_calli (zrun_VN (As := []) (rest := [.int x5]) zn_2520 zq_2522 zs_X18_address zq_2523 zq_25 hdX18_address (by decide) (T := TX18) (N := 13) rfl (okX18_address l D cy B ids hst N x1 hx1 hr.2.2 hc39) F hr hx1 hl.1 rfl (Nat.le_of_ble_eq_true rfl) dX19_arrive_76 rfl rfl hroX19_arrive_X18_address ⟨Nat.zero_le _, Nat.zero_le _⟩) F hA hr (fun H locs hw40 hr => ?_)
    clear hc39
    refine lv_icmp_ne (tgt := 212) F.1 F.2.1 dX19_arrive_79 (by decide) (fun c41 => ?_) (fun c41 => ?_)
    · replace h := zi_t c41 h
      obtain ⟨rfl, rfl⟩ := zret h
      exact E _ _ _ _ dX19_arrive_212 trivial hr
    · replace h := zi_f (fun q => q c41) h
      refine lv_aload_n F.1 F.2.1 dX19_arrive_82 rfl (lv_at hl 0 rfl) ?_
      refine lv_aload_n F.1 F.2.1 dX19_arrive_83 rfl (lv_at hl 1 rfl) ?_
      refine lv_iload_n F.1 F.2.1 dX19_arrive_84 rfl (lv_at hl 2 rfl) ?_
      refine lv_iconst (v := (1 : Int32)) F.1 F.2.1 dX19_arrive_85 (by decide) ?_
      refine lv_iconst (v := (0 : Int32)) F.1 F.2.1 dX19_arrive_86 (by decide) ?_
      refine lv_iconst (v := (-1 : Int32)) F.1 F.2.1 dX19_arrive_87 (by decide) ?_
      replace h := zc_some h
      obtain ⟨r42, z43, hc44, h⟩ := h
      refine zr_callv (zrun_V (As := [.ref (B 18 x1), .int x2, .int (1 : Int32), .int (0 : Int32), .int (-1 : Int32)]) (rest := []) zq_2611 zq_2613 zs_X19_put zq_2614 zq_4 hdX19_put (by decide) (T := TX19) (N := 32) rfl (okX19_put l D cy B ids hst N x0 hx0 x1 hx1 x2  (1 : Int32)  (0 : Int32)  (-1 : Int32)  hr.2.2 hc44) F hr hx0 hl.1 rfl (by decide) dX19_arrive_88 rfl rfl hroX19_arrive_X19_put ⟨Nat.zero_le _, Nat.zero_le _⟩) F hA hr (fun H locs hw45 hr => ?_)
      clear hc44
      refine lv_goto (tgt := 212) F.1 F.2.1 dX19_arrive_91 (by decide) ?_
      obtain ⟨rfl, rfl⟩ := zret h
      exact E _ _ _ _ dX19_arrive_212 trivial hr
def fX19_arrive_37b (N : Nat) (K37 : Nat → Nat → Int32 → Int32 → Int32 → Int32 → Int32 → Int32 → St → Option (Int32 × St)) (x0 : Nat) (x1 : Nat) (x2 : Int32) (x3 : Int32) (x4 : Int32) (x5 : Int32) (x6 : Int32) (x8 : Int32) (z : St) : Option (Int32 × St) := if x8 = (-1 : Int32) then (fX19_arrive_68 N x0 x1 x2 x3 x4 x5 x6 z) else (zc (fX19_carry N x0 x1 x2 x8 z) fun _ z3 => zc (fX19_drop N x0 x8 z3) fun _ z7 => zc (fX19_firstWaiting N x0 x1 x2 z7) fun r10 z11 => K37 x0 x1 x2 x3 x4 x5 x6 r10 z11)
def fX19_arrive_37 (N : Nat)  : Nat → Nat → Nat → Int32 → Int32 → Int32 → Int32 → Int32 → Int32 → St → Option (Int32 × St)
  | 0 => fun _ _ _ _ _ _ _ _ _ => none
  | n + 1 => fX19_arrive_37b N (fX19_arrive_37 N  n)
set_option maxHeartbeats 4000000 in
set_option maxRecDepth 100000 in
theorem bX19_arrive_37 (hst : zSt B ids) (F : zFx p m c cX19_arrive 10 s args RX19 D cy B ids A) (hA : ∀ q : Nat, s.heap.size ≤ q → A q) {r : Int32} {z' : St} (E : zEnd p l e rmX19_arrive s m args below meth c cX19_arrive D cy B ids A Q none z' .return_ True) {N : Nat} {K37 : Nat → Nat → Int32 → Int32 → Int32 → Int32 → Int32 → Int32 → St → Option (Int32 × St)} (hK37 : ∀ (x0 : Nat) (x1 : Nat) (x2 : Int32) (x3 : Int32) (x4 : Int32) (x5 : Int32) (x6 : Int32) (x8 : Int32) (hx0 : (19, x0) ∈ ids) (hx1 : (18, x1) ∈ ids) {z : St} {H : Heap} {locs : List Loc} {ls : Array Slot} (hr : zRep D cy B ids A s.heap z H locs) (hl : lv_has ls 10 [(0, .ref (B 19 x0)), (1, .ref (B 18 x1)), (2, .int x2), (3, .int x3), (4, .int x4), (5, .int x5), (6, .int x6), (8, .int x8)]), K37 x0 x1 x2 x3 x4 x5 x6 x8 z = some (r, z') → W p l e rmX19_arrive s m args below meth c H locs 0 0 Q (F0 m 37 ls [])) (x0 : Nat) (x1 : Nat) (x2 : Int32) (x3 : Int32) (x4 : Int32) (x5 : Int32) (x6 : Int32) (x8 : Int32) (hx0 : (19, x0) ∈ ids) (hx1 : (18, x1) ∈ ids) {z : St} {H : Heap} {locs : List Loc} {ls : Array Slot} (hr : zRep D cy B ids A s.heap z H locs) (hl : lv_has ls 10 [(0, .ref (B 19 x0)), (1, .ref (B 18 x1)), (2, .int x2), (3, .int x3), (4, .int x4), (5, .int x5), (6, .int x6), (8, .int x8)]) (h : fX19_arrive_37b N K37 x0 x1 x2 x3 x4 x5 x6 x8 z = some (r, z')) : W p l e rmX19_arrive s m args below meth c H locs 0 0 Q (F0 m 37 ls []) := by
  unfold fX19_arrive_37b at h
  refine lv_iload F.1 F.2.1 dX19_arrive_37 (lv_at hl 7 rfl) ?_
  refine lv_iconst (v := (-1 : Int32)) F.1 F.2.1 dX19_arrive_39 (by decide) ?_
  refine lv_icmp_eq (tgt := 68) F.1 F.2.1 dX19_arrive_40 (by decide) (fun c1 => ?_) (fun c1 => ?_)
  · replace h := zi_t c1 h
    exact bX19_arrive_68 hst F hA E  x0 x1 x2 x3 x4 x5 x6 hx0 hx1 hr (lv_sub hl [0, 1, 2, 3, 4, 5, 6] rfl) h
  · replace h := zi_f c1 h
    refine lv_aload_n F.1 F.2.1 dX19_arrive_43 rfl (lv_at hl 0 rfl) ?_
    refine lv_aload_n F.1 F.2.1 dX19_arrive_44 rfl (lv_at hl 1 rfl) ?_
    refine lv_iload_n F.1 F.2.1 dX19_arrive_45 rfl (lv_at hl 2 rfl) ?_
    refine lv_iload F.1 F.2.1 dX19_arrive_46 (lv_at hl 7 rfl) ?_
    replace h := zc_some h
    obtain ⟨r2, z3, hc4, h⟩ := h
    refine zr_callv (zrun_V (As := [.ref (B 18 x1), .int x2, .int x8]) (rest := []) zq_2607 zq_2609 zs_X19_carry zq_2610 zq_4 hdX19_carry (by decide) (T := TX19) (N := 32) rfl (okX19_carry l D cy B ids hst N x0 hx0 x1 hx1 x2  x8  hr.2.2 hc4) F hr hx0 hl.1 rfl (by decide) dX19_arrive_48 rfl rfl hroX19_arrive_X19_carry ⟨Nat.zero_le _, Nat.zero_le _⟩) F hA hr (fun H locs hw5 hr => ?_)
    clear hc4
    refine lv_aload_n F.1 F.2.1 dX19_arrive_51 rfl (lv_at hl 0 rfl) ?_
    refine lv_iload F.1 F.2.1 dX19_arrive_52 (lv_at hl 7 rfl) ?_
    replace h := zc_some h
    obtain ⟨r6, z7, hc8, h⟩ := h
    refine zr_callv (zrun_V (As := [.int x8]) (rest := []) zq_2545 zq_2547 zs_X19_drop zq_2548 zq_4 hdX19_drop (by decide) (T := TX19) (N := 32) rfl (okX19_drop l D cy B ids hst N x0 hx0 x8  hr.2.2 hc8) F hr hx0 hl.1 rfl (by decide) dX19_arrive_54 rfl rfl hroX19_arrive_X19_drop ⟨Nat.zero_le _, Nat.zero_le _⟩) F hA hr (fun H locs hw9 hr => ?_)
    clear hc8
    refine lv_aload_n F.1 F.2.1 dX19_arrive_57 rfl (lv_at hl 0 rfl) ?_
    refine lv_aload_n F.1 F.2.1 dX19_arrive_58 rfl (lv_at hl 1 rfl) ?_
    refine lv_iload_n F.1 F.2.1 dX19_arrive_59 rfl (lv_at hl 2 rfl) ?_
    replace h := zc_some h
    obtain ⟨r10, z11, hc12, h⟩ := h
    refine zr_calli (zrun_V (As := [.ref (B 18 x1), .int x2]) (rest := []) zq_2599 zq_2601 zs_X19_firstWaiting zq_2602 zq_4 hdX19_firstWaiting (by decide) (T := TX19) (N := 32) rfl (okX19_firstWaiting l D cy B ids hst N x0 hx0 x1 hx1 x2  hr.2.2 hc12) F hr hx0 hl.1 rfl (by decide) dX19_arrive_60 rfl rfl hroX19_arrive_X19_firstWaiting ⟨Nat.zero_le _, Nat.zero_le _⟩) F hA hr (fun H locs hw13 hr => ?_)
    clear hc12
    refine lv_istore (lv' := [(8, .int r10), (0, .ref (B 19 x0)), (1, .ref (B 18 x1)), (2, .int x2), (3, .int x3), (4, .int x4), (5, .int x5), (6, .int x6)]) F.1 F.2.1 dX19_arrive_63 hl (by decide) rfl (fun ls hl => ?_)
    refine lv_goto (tgt := 37) F.1 F.2.1 dX19_arrive_65 (by decide) ?_
    exact hK37 x0 x1 x2 x3 x4 x5 x6 r10 hx0 hx1 hr (lv_sub hl [1, 2, 3, 4, 5, 6, 7, 0] rfl) h
theorem lX19_arrive_37 (hst : zSt B ids) (F : zFx p m c cX19_arrive 10 s args RX19 D cy B ids A) (hA : ∀ q : Nat, s.heap.size ≤ q → A q) {r : Int32} {z' : St} (E : zEnd p l e rmX19_arrive s m args below meth c cX19_arrive D cy B ids A Q none z' .return_ True) {N : Nat}  : ∀ (n : Nat) (x0 : Nat) (x1 : Nat) (x2 : Int32) (x3 : Int32) (x4 : Int32) (x5 : Int32) (x6 : Int32) (x8 : Int32) (hx0 : (19, x0) ∈ ids) (hx1 : (18, x1) ∈ ids) {z : St} {H : Heap} {locs : List Loc} {ls : Array Slot} (hr : zRep D cy B ids A s.heap z H locs) (hl : lv_has ls 10 [(0, .ref (B 19 x0)), (1, .ref (B 18 x1)), (2, .int x2), (3, .int x3), (4, .int x4), (5, .int x5), (6, .int x6), (8, .int x8)]), fX19_arrive_37 N  n x0 x1 x2 x3 x4 x5 x6 x8 z = some (r, z') → W p l e rmX19_arrive s m args below meth c H locs 0 0 Q (F0 m 37 ls []) := by
  intro n
  induction n with
  | zero => intro x0 x1 x2 x3 x4 x5 x6 x8 hx0 hx1 z H locs ls hr hl h; cases h
  | succ n ih => intro x0 x1 x2 x3 x4 x5 x6 x8 hx0 hx1 z H locs ls hr hl h; exact bX19_arrive_37 hst F hA E ih x0 x1 x2 x3 x4 x5 x6 x8 hx0 hx1 hr hl h
def fX19_arrive (N : Nat)  (x0 : Nat) (x1 : Nat) (x2 : Int32) (x3 : Int32) (x4 : Int32) (x5 : Int32) (x6 : Int32) (z : St) : Option (Int32 × St) := zk x2 8 <| zl (zsA z 167 x1 (Int32.toNatClampNeg x2) (zgI z 19 24 x0)) fun z2 => zc (fX18_askingOf N x1 x2 z2) fun r3 z4 => if r3 = (-1 : Int32) then (fX19_arrive_68 N x0 x1 x2 x3 x4 x5 x6 z4) else (zc (fX18_endAsking N x1 r3 z4) fun _ z9 => zc (fX19_firstWaiting N x0 x1 x2 z9) fun r12 z13 => fX19_arrive_37 N N x0 x1 x2 x3 x4 x5 x6 r12 z13)
set_option maxHeartbeats 4000000 in
set_option maxRecDepth 100000 in
theorem bX19_arrive_0 (hst : zSt B ids) (F : zFx p m c cX19_arrive 10 s args RX19 D cy B ids A) (hA : ∀ q : Nat, s.heap.size ≤ q → A q) {r : Int32} {z' : St} (E : zEnd p l e rmX19_arrive s m args below meth c cX19_arrive D cy B ids A Q none z' .return_ True) {N : Nat}  (x0 : Nat) (x1 : Nat) (x2 : Int32) (x3 : Int32) (x4 : Int32) (x5 : Int32) (x6 : Int32) (hx0 : (19, x0) ∈ ids) (hx1 : (18, x1) ∈ ids) {z : St} {H : Heap} {locs : List Loc} {ls : Array Slot} (hr : zRep D cy B ids A s.heap z H locs) (hl : lv_has ls 10 [(0, .ref (B 19 x0)), (1, .ref (B 18 x1)), (2, .int x2), (3, .int x3), (4, .int x4), (5, .int x5), (6, .int x6)]) (h : fX19_arrive N x0 x1 x2 x3 x4 x5 x6 z = some (r, z')) : W p l e rmX19_arrive s m args below meth c H locs 0 0 Q (F0 m 0 ls []) := by
  unfold fX19_arrive at h
  refine lv_aload_n F.1 F.2.1 dX19_arrive_0 rfl (lv_at hl 1 rfl) ?_
  refine gf19_207 F hx1 hr dX19_arrive_1 ?_
  refine lv_iload_n F.1 F.2.1 dX19_arrive_4 rfl (lv_at hl 2 rfl) ?_
  refine lv_aload_n F.1 F.2.1 dX19_arrive_5 rfl (lv_at hl 0 rfl) ?_
  refine gf19_143 F hx0 hr dX19_arrive_6 ?_
  replace h := zk_some h
  obtain ⟨c1, h⟩ := h
  refine zr_iast (k := 167) (by decide) rfl (by decide) F (zal_a F hx1 (j := 6) rfl) hr dX19_arrive_9 c1 (fun H locs z2 ez2 hr => ?_)
  replace h := zl_sub ez2 h
  clear ez2
  refine lv_aload_n F.1 F.2.1 dX19_arrive_10 rfl (lv_at hl 1 rfl) ?_
  refine lv_iload_n F.1 F.2.1 dX19_arrive_11 rfl (lv_at hl 2 rfl) ?_
  replace h := zc_some h
  obtain ⟨r3, z4, hc5, h⟩ := h
  refine zr_calli (zrun_VN (As := [.int x2]) (rest := []) zn_2591 zq_2593 zs_X18_askingOf zq_2594 zq_25 hdX18_askingOf (by decide) (T := TX18) (N := 13) rfl (okX18_askingOf l D cy B ids hst N x1 hx1 x2  hr.2.2 hc5) F hr hx1 hl.1 rfl (by decide) dX19_arrive_12 rfl rfl hroX19_arrive_X18_askingOf ⟨Nat.zero_le _, Nat.zero_le _⟩) F hA hr (fun H locs hw6 hr => ?_)
  clear hc5
  refine lv_istore (lv' := [(7, .int r3), (0, .ref (B 19 x0)), (1, .ref (B 18 x1)), (2, .int x2), (3, .int x3), (4, .int x4), (5, .int x5), (6, .int x6)]) F.1 F.2.1 dX19_arrive_15 hl (by decide) rfl (fun ls hl => ?_)
  refine lv_iload F.1 F.2.1 dX19_arrive_17 (lv_at hl 0 rfl) ?_
  refine lv_iconst (v := (-1 : Int32)) F.1 F.2.1 dX19_arrive_19 (by decide) ?_
  refine lv_icmp_eq (tgt := 68) F.1 F.2.1 dX19_arrive_20 (by decide) (fun c7 => ?_) (fun c7 => ?_)
  · replace h := zi_t c7 h
    exact bX19_arrive_68 hst F hA E  x0 x1 x2 x3 x4 x5 x6 hx0 hx1 hr (lv_sub hl [1, 2, 3, 4, 5, 6, 7] rfl) h
  · replace h := zi_f c7 h
    refine lv_aload_n F.1 F.2.1 dX19_arrive_23 rfl (lv_at hl 2 rfl) ?_
    refine lv_iload F.1 F.2.1 dX19_arrive_24 (lv_at hl 0 rfl) ?_
    replace h := zc_some h
    obtain ⟨r8, z9, hc10, h⟩ := h
    refine zr_callv (zrun_VN (As := [.int r3]) (rest := []) zn_2595 zq_2597 zs_X18_endAsking zq_2598 zq_25 hdX18_endAsking (by decide) (T := TX18) (N := 13) rfl (okX18_endAsking l D cy B ids hst N x1 hx1 r3  hr.2.2 hc10) F hr hx1 hl.1 rfl (by decide) dX19_arrive_26 rfl rfl hroX19_arrive_X18_endAsking ⟨Nat.zero_le _, Nat.zero_le _⟩) F hA hr (fun H locs hw11 hr => ?_)
    clear hc10
    refine lv_aload_n F.1 F.2.1 dX19_arrive_29 rfl (lv_at hl 1 rfl) ?_
    refine lv_aload_n F.1 F.2.1 dX19_arrive_30 rfl (lv_at hl 2 rfl) ?_
    refine lv_iload_n F.1 F.2.1 dX19_arrive_31 rfl (lv_at hl 3 rfl) ?_
    replace h := zc_some h
    obtain ⟨r12, z13, hc14, h⟩ := h
    refine zr_calli (zrun_V (As := [.ref (B 18 x1), .int x2]) (rest := []) zq_2599 zq_2601 zs_X19_firstWaiting zq_2602 zq_4 hdX19_firstWaiting (by decide) (T := TX19) (N := 32) rfl (okX19_firstWaiting l D cy B ids hst N x0 hx0 x1 hx1 x2  hr.2.2 hc14) F hr hx0 hl.1 rfl (by decide) dX19_arrive_32 rfl rfl hroX19_arrive_X19_firstWaiting ⟨Nat.zero_le _, Nat.zero_le _⟩) F hA hr (fun H locs hw15 hr => ?_)
    clear hc14
    refine lv_istore (lv' := [(8, .int r12), (7, .int r3), (0, .ref (B 19 x0)), (1, .ref (B 18 x1)), (2, .int x2), (3, .int x3), (4, .int x4), (5, .int x5), (6, .int x6)]) F.1 F.2.1 dX19_arrive_35 hl (by decide) rfl (fun ls hl => ?_)
    exact lX19_arrive_37 hst F hA E  _ x0 x1 x2 x3 x4 x5 x6 r12 hx0 hx1 hr (lv_sub hl [2, 3, 4, 5, 6, 7, 8, 0] rfl) h
end SX19_arrive
set_option maxRecDepth 100000 in
theorem okX19_arrive (l : Launch) (D : va_G) (cy : Nat → ClassId) (B : Nat → Nat → Nat) (ids : List (Nat × Nat)) (hst : zSt B ids) (N : Nat) (x0 : Nat) (hx0 : (19, x0) ∈ ids) (x1 : Nat) (hx1 : (18, x1) ∈ ids) (x2 : Int32) (x3 : Int32) (x4 : Int32) (x5 : Int32) (x6 : Int32) {z : St} {r : Int32} {z' : St} (hW : zWf ids z) (h : fX19_arrive N x0 x1 x2 x3 x4 x5 x6 z = some (r, z')) : zM l yX19_arrive (zws yX19_arrive cX19_arrive 10 none) rmX19_arrive D cy B ids [.ref (B 19 x0), .ref (B 18 x1), .int x2, .int x3, .int x4, .int x5, .int x6] none True z z' :=
  zM_of hst hW (by decide +kernel) (Nat.le_of_ble_eq_true rfl) (fun p e s m args below meth c A ls F hA hret hlocks hr hl => bX19_arrive_0 hst F hA (zEnd_v F hret hlocks) x0 x1 x2 x3 x4 x5 x6 hx0 hx1 hr hl h)
