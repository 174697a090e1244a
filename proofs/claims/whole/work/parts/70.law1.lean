section SLAW1
variable {p : Program} {l : Launch} {e : Env} {s : State} {m : MethodId} {args : Array Value} {below : List Frame} {meth : Method} {c : Code} {Q : State → Prop} {D : va_G} {cy : Nat → ClassId} {B : Nat → Nat → Nat} {ids : List (Nat × Nat)} {A : Nat → Prop} {b L : Nat} {xs : Nat → Int32}
noncomputable def fLaw_0 (N : Nat) (sc : Nat → Int32) (ids : List (Nat × Nat)) (cc ss : Nat) (z : St) : Option (St × List (Nat × Nat) × Nat × Nat) := if (sc 1) = 0 then (zqc ((cc + (rmL_box_0 (zcx1 (fX11_box_0 N 68 43303 0 ids z) 68 1) (zcx1 (fX11_box_0 N 68 43303 0 ids z) 43303 6)).cells) ≤ room_1.cells ∧ (ss + (rmL_box_0 (zcx1 (fX11_box_0 N 68 43303 0 ids z) 68 1) (zcx1 (fX11_box_0 N 68 43303 0 ids z) 43303 6)).slots) ≤ room_1.slots) <| zc3 (fL_box_0 N (zcx1 (fX11_box_0 N 68 43303 0 ids z) 68 1) (zcx1 (fX11_box_0 N 68 43303 0 ids z) 43303 6) 0 0 ids z) fun k2 z3 I6 => zqc (((cc + (rmL_box_0 (zcx1 (fX11_box_0 N 68 43303 0 ids z) 68 1) (zcx1 (fX11_box_0 N 68 43303 0 ids z) 43303 6)).cells) + (rmX19_box_0 (zcy1 (fX19_box_0 N 51 38360 0 I6 z3) 51) (zcy1 (fX19_box_0 N 51 38360 0 I6 z3) 38360)).cells) ≤ room_1.cells ∧ ((ss + (rmL_box_0 (zcx1 (fX11_box_0 N 68 43303 0 ids z) 68 1) (zcx1 (fX11_box_0 N 68 43303 0 ids z) 43303 6)).slots) + (rmX19_box_0 (zcy1 (fX19_box_0 N 51 38360 0 I6 z3) 51) (zcy1 (fX19_box_0 N 51 38360 0 I6 z3) 38360)).slots) ≤ room_1.slots) <| zc3 (fX19_box_0 N (zcy1 (fX19_box_0 N 51 38360 0 I6 z3) 51) (zcy1 (fX19_box_0 N 51 38360 0 I6 z3) 38360) 0 I6 z3) fun k7 z8 I11 => zc (fX19_thrown N 0 z8) fun r12 z13 => if r12 = k2 then (if ¬ k2 = 0 then (some (z13, I11, ((cc + (rmL_box_0 (zcx1 (fX11_box_0 N 68 43303 0 ids z) 68 1) (zcx1 (fX11_box_0 N 68 43303 0 ids z) 43303 6)).cells) + (rmX19_box_0 (zcy1 (fX19_box_0 N 51 38360 0 I6 z3) 51) (zcy1 (fX19_box_0 N 51 38360 0 I6 z3) 38360)).cells), ((ss + (rmL_box_0 (zcx1 (fX11_box_0 N 68 43303 0 ids z) 68 1) (zcx1 (fX11_box_0 N 68 43303 0 ids z) 43303 6)).slots) + (rmX19_box_0 (zcy1 (fX19_box_0 N 51 38360 0 I6 z3) 51) (zcy1 (fX19_box_0 N 51 38360 0 I6 z3) 38360)).slots))) else (if (lg_cmp (zgL z13 193 0 (Int32.toNatClampNeg (0 : Int32))) (Int32.toInt64 k7)) = 0 then (some (z13, I11, ((cc + (rmL_box_0 (zcx1 (fX11_box_0 N 68 43303 0 ids z) 68 1) (zcx1 (fX11_box_0 N 68 43303 0 ids z) 43303 6)).cells) + (rmX19_box_0 (zcy1 (fX19_box_0 N 51 38360 0 I6 z3) 51) (zcy1 (fX19_box_0 N 51 38360 0 I6 z3) 38360)).cells), ((ss + (rmL_box_0 (zcx1 (fX11_box_0 N 68 43303 0 ids z) 68 1) (zcx1 (fX11_box_0 N 68 43303 0 ids z) 43303 6)).slots) + (rmX19_box_0 (zcy1 (fX19_box_0 N 51 38360 0 I6 z3) 51) (zcy1 (fX19_box_0 N 51 38360 0 I6 z3) 38360)).slots))) else (none))) else (none)) else (zqc ((cc + (rmL_box_1 (zcx1 (fX11_box_1 N 152 8708 0 ids z) 152 1) (zcx1 (fX11_box_1 N 152 8708 0 ids z) 8708 6)).cells) ≤ room_1.cells ∧ (ss + (rmL_box_1 (zcx1 (fX11_box_1 N 152 8708 0 ids z) 152 1) (zcx1 (fX11_box_1 N 152 8708 0 ids z) 8708 6)).slots) ≤ room_1.slots) <| zc3 (fL_box_1 N (zcx1 (fX11_box_1 N 152 8708 0 ids z) 152 1) (zcx1 (fX11_box_1 N 152 8708 0 ids z) 8708 6) 0 0 ids z) fun k20 z21 I24 => zqc (((cc + (rmL_box_1 (zcx1 (fX11_box_1 N 152 8708 0 ids z) 152 1) (zcx1 (fX11_box_1 N 152 8708 0 ids z) 8708 6)).cells) + (rmX19_box_1 (zcy1 (fX19_box_1 N 69 1762 0 I24 z21) 69) (zcy1 (fX19_box_1 N 69 1762 0 I24 z21) 1762)).cells) ≤ room_1.cells ∧ ((ss + (rmL_box_1 (zcx1 (fX11_box_1 N 152 8708 0 ids z) 152 1) (zcx1 (fX11_box_1 N 152 8708 0 ids z) 8708 6)).slots) + (rmX19_box_1 (zcy1 (fX19_box_1 N 69 1762 0 I24 z21) 69) (zcy1 (fX19_box_1 N 69 1762 0 I24 z21) 1762)).slots) ≤ room_1.slots) <| zc3 (fX19_box_1 N (zcy1 (fX19_box_1 N 69 1762 0 I24 z21) 69) (zcy1 (fX19_box_1 N 69 1762 0 I24 z21) 1762) 0 I24 z21) fun k25 z26 I29 => zc (fX19_thrown N 0 z26) fun r30 z31 => if r30 = k20 then (if ¬ k20 = 0 then (some (z31, I29, ((cc + (rmL_box_1 (zcx1 (fX11_box_1 N 152 8708 0 ids z) 152 1) (zcx1 (fX11_box_1 N 152 8708 0 ids z) 8708 6)).cells) + (rmX19_box_1 (zcy1 (fX19_box_1 N 69 1762 0 I24 z21) 69) (zcy1 (fX19_box_1 N 69 1762 0 I24 z21) 1762)).cells), ((ss + (rmL_box_1 (zcx1 (fX11_box_1 N 152 8708 0 ids z) 152 1) (zcx1 (fX11_box_1 N 152 8708 0 ids z) 8708 6)).slots) + (rmX19_box_1 (zcy1 (fX19_box_1 N 69 1762 0 I24 z21) 69) (zcy1 (fX19_box_1 N 69 1762 0 I24 z21) 1762)).slots))) else (if (lg_cmp (zgL z31 193 0 (Int32.toNatClampNeg (0 : Int32))) (Int32.toInt64 k25)) = 0 then (some (z31, I29, ((cc + (rmL_box_1 (zcx1 (fX11_box_1 N 152 8708 0 ids z) 152 1) (zcx1 (fX11_box_1 N 152 8708 0 ids z) 8708 6)).cells) + (rmX19_box_1 (zcy1 (fX19_box_1 N 69 1762 0 I24 z21) 69) (zcy1 (fX19_box_1 N 69 1762 0 I24 z21) 1762)).cells), ((ss + (rmL_box_1 (zcx1 (fX11_box_1 N 152 8708 0 ids z) 152 1) (zcx1 (fX11_box_1 N 152 8708 0 ids z) 8708 6)).slots) + (rmX19_box_1 (zcy1 (fX19_box_1 N 69 1762 0 I24 z21) 69) (zcy1 (fX19_box_1 N 69 1762 0 I24 z21) 1762)).slots))) else (none))) else (none))
set_option maxHeartbeats 8000000 in
set_option maxRecDepth 100000 in
theorem cLaw_0 (hst : zSt B ids) (h9 : zI9 ids) (F : zFx p m c cL_law 7 s args RL D cy B ids A) (hA : ∀ q : Nat, s.heap.size ≤ q → A q) (hlf : l.stackTraces = false) (hXK : zXK A s s.heap) (hLK : zLK s) (hAO : zAO s) (hX : va_X b L xs s s.heap) (hbl : b < s.heap.size) (hbA : ¬ A b) (h11 : (11, 0) ∈ ids) (h19 : (19, 0) ∈ ids) (h193 : (193, 0) ∈ ids) {N : Nat} {sc : Nat → Int32} {x4 : Int32} (hin0 : vp_in x4 L) (hva0 : xs (Int32.toNatClampNeg x4) = sc 0) (hin1 : vp_in (x4 + (1 : Int32)) L) (hva1 : xs (Int32.toNatClampNeg (x4 + (1 : Int32))) = sc 1) (hin2 : vp_in (x4 + (2 : Int32)) L) (hva2 : xs (Int32.toNatClampNeg (x4 + (2 : Int32))) = sc 2) (hin3 : vp_in (x4 + (3 : Int32)) L) (hva3 : xs (Int32.toNatClampNeg (x4 + (3 : Int32))) = sc 3) (hin4 : vp_in (x4 + (4 : Int32)) L) (hva4 : xs (Int32.toNatClampNeg (x4 + (4 : Int32))) = sc 4) (hin5 : vp_in (x4 + (5 : Int32)) L) (hva5 : xs (Int32.toNatClampNeg (x4 + (5 : Int32))) = sc 5) {cc ss : Nat} (hcs : cc ≤ room_1.cells ∧ ss ≤ room_1.slots) {z z' : St} {I' : List (Nat × Nat)} {c' s' : Nat} {H : Heap} {locs : List Loc} {ls : Array Slot} (hr : zRep D cy B ids A s.heap z H locs) (hl : lv_has ls 7 [(0, .ref b), (1, .ref (B 11 0)), (2, .ref (B 19 0)), (3, .ref (B 193 0)), (4, .int x4)])
    (K : ∀ (B1 : Nat → Nat → Nat) (H : Heap) (locs : List Loc) (ls : Array Slot), zSt B1 I' → zI9 I' → zFx p m c cL_law 7 s args RL D cy B1 I' A → (11, 0) ∈ I' → (19, 0) ∈ I' → (193, 0) ∈ I' → c' ≤ room_1.cells ∧ s' ≤ room_1.slots → zRep D cy B1 I' A s.heap z' H locs → lv_has ls 7 [(0, .ref b), (1, .ref (B1 11 0)), (2, .ref (B1 19 0)), (3, .ref (B1 193 0)), (4, .int x4)] → W p l e room_1 s m args below meth c H locs c' s' Q (F0 m 2079 ls []))
    (h : fLaw_0 N sc ids cc ss z = some (z', I', c', s')) : W p l e room_1 s m args below meth c H locs cc ss Q (F0 m 172 ls []) := by
  unfold fLaw_0 at h
  refine lv_aload_n F.1 F.2.1 dL_law_172 rfl (lv_at hl 1 rfl) ?_
  refine lv_aload_n F.1 F.2.1 dL_law_173 rfl (lv_at hl 0 rfl) ?_
  refine lv_iload F.1 F.2.1 dL_law_174 (lv_at hl 4 rfl) ?_
  refine lv_iconst (v := (1 : Int32)) F.1 F.2.1 dL_law_176 (by decide) ?_
  refine lv_iadd F.1 F.2.1 dL_law_177 ?_
  refine va_sld F.1 F.2.1 hX hbl hbA hr.2.1 hin1 dL_law_178 ?_
  rw [hva1]
  refine lv_if_eq (tgt := 186) F.1 F.2.1 dL_law_179 (by decide) (fun c1 => ?_) (fun c1 => ?_)
  · replace h := zi_t c1 h
    refine lv_iconst (v := (0 : Int32)) F.1 F.2.1 dL_law_186 (by decide) ?_
    refine lv_aload_n F.1 F.2.1 dL_law_187 rfl (lv_at hl 3 rfl) ?_
    replace h := zqc_some h
    obtain ⟨hg4, h⟩ := h
    replace h := zc3_some h
    obtain ⟨k2, z3, I6, hc5, h⟩ := h
    refine zr_callMi (zrun_Lm hXK hLK hAO hA (As := [.ref (B 11 0), .int (0 : Int32), .ref (B 193 0)]) (rest := []) zq_327 zq_328 zq_329 zq_0 hdL_box (okL_box_0 l hlf D cy B ids hst N (zcx1 (fX11_box_0 N 68 43303 0 ids z) 68 1) (zcx1 (fX11_box_0 N 68 43303 0 ids z) 43303 6) h9 0 h11 0 h193 hr.2.2 hc5) F hr hl.1 rfl (by decide) dL_law_188 hroL_L_box_0 hg4) F hA hr (fun H locs Bm1 hxm1 hst h9 F hr => ?_)
    have hm1_1 := (hxm1 11 0 h11).1
    have hm1_2 := (hxm1 19 0 h19).1
    have hm1_3 := (hxm1 193 0 h193).1
    replace hl : lv_has ls 7 [(0, .ref b), (1, .ref (Bm1 11 0)), (2, .ref (Bm1 19 0)), (3, .ref (Bm1 193 0)), (4, .int x4)] := by
              rw [(hxm1 11 0 h11).2, (hxm1 19 0 h19).2, (hxm1 193 0 h193).2]; exact hl
    refine lv_istore (lv' := [(5, .int k2), (0, .ref b), (1, .ref (Bm1 11 0)), (2, .ref (Bm1 19 0)), (3, .ref (Bm1 193 0)), (4, .int x4)]) F.1 F.2.1 dL_law_191 hl (by decide) rfl (fun ls hl => ?_)
    refine lv_aload_n F.1 F.2.1 dL_law_193 rfl (lv_at hl 3 rfl) ?_
    refine lv_aload_n F.1 F.2.1 dL_law_194 rfl (lv_at hl 1 rfl) ?_
    refine lv_iload F.1 F.2.1 dL_law_195 (lv_at hl 5 rfl) ?_
    refine lv_iconst (v := (1 : Int32)) F.1 F.2.1 dL_law_197 (by decide) ?_
    refine lv_iadd F.1 F.2.1 dL_law_198 ?_
    refine va_sld F.1 F.2.1 hX hbl hbA hr.2.1 hin1 dL_law_199 ?_
    rw [hva1]
    refine lv_if_eq (tgt := 207) F.1 F.2.1 dL_law_200 (by decide) (fun _ => ?_) (fun hc => absurd c1 hc)
    refine lv_iconst (v := (0 : Int32)) F.1 F.2.1 dL_law_207 (by decide) ?_
    replace h := zqc_some h
    obtain ⟨hg9, h⟩ := h
    replace h := zc3_some h
    obtain ⟨k7, z8, I11, hc10, h⟩ := h
    refine zr_callMi (zrun_Vm hAO (As := [.int (0 : Int32)]) (rest := []) zq_1986 zq_1987 zs_X19_box zq_1989 zq_4 hdX19_box (by decide) (T := TX19) (N := 32) rfl (okX19_box_0 l D cy Bm1 I6 hst h9 N (zcy1 (fX19_box_0 N 51 38360 0 I6 z3) 51) (zcy1 (fX19_box_0 N 51 38360 0 I6 z3) 38360) 0 hm1_2  hr.2.2 hc10) F hr hm1_2 hl.1 rfl (by decide) dL_law_208 hroL_X19_box_0 hg9) F hA hr (fun H locs Bm2 hxm2 hst h9 F hr => ?_)
    have hm2_1 := (hxm2 11 0 hm1_1).1
    have hm2_2 := (hxm2 19 0 hm1_2).1
    have hm2_3 := (hxm2 193 0 hm1_3).1
    replace hl : lv_has ls 7 [(5, .int k2), (0, .ref b), (1, .ref (Bm2 11 0)), (2, .ref (Bm2 19 0)), (3, .ref (Bm2 193 0)), (4, .int x4)] := by
              rw [(hxm2 11 0 hm1_1).2, (hxm2 19 0 hm1_2).2, (hxm2 193 0 hm1_3).2]; exact hl
    refine lv_istore (lv' := [(6, .int k7), (5, .int k2), (0, .ref b), (1, .ref (Bm2 11 0)), (2, .ref (Bm2 19 0)), (3, .ref (Bm2 193 0)), (4, .int x4)]) F.1 F.2.1 dL_law_211 hl (by decide) rfl (fun ls hl => ?_)
    refine lv_aload_n F.1 F.2.1 dL_law_213 rfl (lv_at hl 4 rfl) ?_
    replace h := zc_some h
    obtain ⟨r12, z13, hc14, h⟩ := h
    refine zr_calli (zrun_V (As := []) (rest := []) zq_1982 zq_1983 zs_X19_thrown zq_1985 zq_4 hdX19_thrown (by decide) (T := TX19) (N := 32) rfl (okX19_thrown l D cy Bm2 I11 hst N 0 hm2_2 hr.2.2 hc14) F hr hm2_2 hl.1 rfl (by decide) dL_law_214 rfl rfl hroL_X19_thrown hg9) F hA hr (fun H locs hw15 hr => ?_)
    clear hc14
    refine lv_iload F.1 F.2.1 dL_law_217 (lv_at hl 1 rfl) ?_
    refine lv_icmp_eq (tgt := 224) F.1 F.2.1 dL_law_219 (by decide) (fun c16 => ?_) (fun c16 => ?_)
    · replace h := zi_t c16 h
      refine lv_iload F.1 F.2.1 dL_law_224 (lv_at hl 1 rfl) ?_
      refine lv_if_ne (tgt := 241) F.1 F.2.1 dL_law_226 (by decide) (fun c17 => ?_) (fun c17 => ?_)
      · replace h := zi_t c17 h
        refine lv_goto (tgt := 2079) F.1 F.2.1 dL_law_241 (by decide) ?_
        obtain ⟨rfl, rfl, rfl, rfl⟩ := zret4 h
        exact K _ H locs ls hst h9 F hm2_1 hm2_2 hm2_3 hg9 hr (lv_sub hl [2, 3, 4, 5, 6] rfl)
      · replace h := zi_f (fun q => q c17) h
        refine lv_aload_n F.1 F.2.1 dL_law_229 rfl (lv_at hl 5 rfl) ?_
        refine lv_iconst (v := (0 : Int32)) F.1 F.2.1 dL_law_230 (by decide) ?_
        refine zr_lald (k := 193) (by decide) rfl (by decide) F hm2_3 hr dL_law_231 (by unfold vp_in; decide) ?_
        refine lv_iload F.1 F.2.1 dL_law_232 (lv_at hl 0 rfl) ?_
        refine lv_i2l F.1 F.2.1 dL_law_234 rfl ?_
        refine W.lcmp F.1 F.2.1 dL_law_235 ?_
        refine lv_if_eq (tgt := 241) F.1 F.2.1 dL_law_236 (by decide) (fun c19 => ?_) (fun c19 => ?_)
        · replace h := zi_t c19 h
          refine lv_goto (tgt := 2079) F.1 F.2.1 dL_law_241 (by decide) ?_
          obtain ⟨rfl, rfl, rfl, rfl⟩ := zret4 h
          exact K _ H locs ls hst h9 F hm2_1 hm2_2 hm2_3 hg9 hr (lv_sub hl [2, 3, 4, 5, 6] rfl)
        · replace h := zi_f c19 h
          refine lv_iconst (v := (0 : Int32)) F.1 F.2.1 dL_law_239 (by decide) ?_
          cases h
    · replace h := zi_f c16 h
      refine lv_iconst (v := (0 : Int32)) F.1 F.2.1 dL_law_222 (by decide) ?_
      cases h
  · replace h := zi_f c1 h
    refine lv_iconst (v := (1 : Int32)) F.1 F.2.1 dL_law_182 (by decide) ?_
    refine lv_goto (tgt := 187) F.1 F.2.1 dL_law_183 (by decide) ?_
    refine lv_aload_n F.1 F.2.1 dL_law_187 rfl (lv_at hl 3 rfl) ?_
    replace h := zqc_some h
    obtain ⟨hg22, h⟩ := h
    replace h := zc3_some h
    obtain ⟨k20, z21, I24, hc23, h⟩ := h
    refine zr_callMi (zrun_Lm hXK hLK hAO hA (As := [.ref (B 11 0), .int (1 : Int32), .ref (B 193 0)]) (rest := []) zq_327 zq_328 zq_329 zq_0 hdL_box (okL_box_1 l hlf D cy B ids hst N (zcx1 (fX11_box_1 N 152 8708 0 ids z) 152 1) (zcx1 (fX11_box_1 N 152 8708 0 ids z) 8708 6) h9 0 h11 0 h193 hr.2.2 hc23) F hr hl.1 rfl (by decide) dL_law_188 hroL_L_box_1 hg22) F hA hr (fun H locs Bm3 hxm3 hst h9 F hr => ?_)
    have hm3_1 := (hxm3 11 0 h11).1
    have hm3_2 := (hxm3 19 0 h19).1
    have hm3_3 := (hxm3 193 0 h193).1
    replace hl : lv_has ls 7 [(0, .ref b), (1, .ref (Bm3 11 0)), (2, .ref (Bm3 19 0)), (3, .ref (Bm3 193 0)), (4, .int x4)] := by
              rw [(hxm3 11 0 h11).2, (hxm3 19 0 h19).2, (hxm3 193 0 h193).2]; exact hl
    refine lv_istore (lv' := [(5, .int k20), (0, .ref b), (1, .ref (Bm3 11 0)), (2, .ref (Bm3 19 0)), (3, .ref (Bm3 193 0)), (4, .int x4)]) F.1 F.2.1 dL_law_191 hl (by decide) rfl (fun ls hl => ?_)
    refine lv_aload_n F.1 F.2.1 dL_law_193 rfl (lv_at hl 3 rfl) ?_
    refine lv_aload_n F.1 F.2.1 dL_law_194 rfl (lv_at hl 1 rfl) ?_
    refine lv_iload F.1 F.2.1 dL_law_195 (lv_at hl 5 rfl) ?_
    refine lv_iconst (v := (1 : Int32)) F.1 F.2.1 dL_law_197 (by decide) ?_
    refine lv_iadd F.1 F.2.1 dL_law_198 ?_
    refine va_sld F.1 F.2.1 hX hbl hbA hr.2.1 hin1 dL_law_199 ?_
    rw [hva1]
    refine lv_if_eq (tgt := 207) F.1 F.2.1 dL_law_200 (by decide) (fun hc => absurd hc c1) (fun _ => ?_)
    refine lv_iconst (v := (1 : Int32)) F.1 F.2.1 dL_law_203 (by decide) ?_
    refine lv_goto (tgt := 208) F.1 F.2.1 dL_law_204 (by decide) ?_
    replace h := zqc_some h
    obtain ⟨hg27, h⟩ := h
    replace h := zc3_some h
    obtain ⟨k25, z26, I29, hc28, h⟩ := h
    refine zr_callMi (zrun_Vm hAO (As := [.int (1 : Int32)]) (rest := []) zq_1986 zq_1987 zs_X19_box zq_1989 zq_4 hdX19_box (by decide) (T := TX19) (N := 32) rfl (okX19_box_1 l D cy Bm3 I24 hst h9 N (zcy1 (fX19_box_1 N 69 1762 0 I24 z21) 69) (zcy1 (fX19_box_1 N 69 1762 0 I24 z21) 1762) 0 hm3_2  hr.2.2 hc28) F hr hm3_2 hl.1 rfl (by decide) dL_law_208 hroL_X19_box_1 hg27) F hA hr (fun H locs Bm4 hxm4 hst h9 F hr => ?_)
    have hm4_1 := (hxm4 11 0 hm3_1).1
    have hm4_2 := (hxm4 19 0 hm3_2).1
    have hm4_3 := (hxm4 193 0 hm3_3).1
    replace hl : lv_has ls 7 [(5, .int k20), (0, .ref b), (1, .ref (Bm4 11 0)), (2, .ref (Bm4 19 0)), (3, .ref (Bm4 193 0)), (4, .int x4)] := by
              rw [(hxm4 11 0 hm3_1).2, (hxm4 19 0 hm3_2).2, (hxm4 193 0 hm3_3).2]; exact hl
    refine lv_istore (lv' := [(6, .int k25), (5, .int k20), (0, .ref b), (1, .ref (Bm4 11 0)), (2, .ref (Bm4 19 0)), (3, .ref (Bm4 193 0)), (4, .int x4)]) F.1 F.2.1 dL_law_211 hl (by decide) rfl (fun ls hl => ?_)
    refine lv_aload_n F.1 F.2.1 dL_law_213 rfl (lv_at hl 4 rfl) ?_
    replace h := zc_some h
    obtain ⟨r30, z31, hc32, h⟩ := h
    refine zr_calli (zrun_V (As := []) (rest := []) zq_1982 zq_1983 zs_X19_thrown zq_1985 zq_4 hdX19_thrown (by decide) (T := TX19) (N := 32) rfl (okX19_thrown l D cy Bm4 I29 hst N 0 hm4_2 hr.2.2 hc32) F hr hm4_2 hl.1 rfl (by decide) dL_law_214 rfl rfl hroL_X19_thrown hg27) F hA hr (fun H locs hw33 hr => ?_)
    clear hc32
    refine lv_iload F.1 F.2.1 dL_law_217 (lv_at hl 1 rfl) ?_
    refine lv_icmp_eq (tgt := 224) F.1 F.2.1 dL_law_219 (by decide) (fun c34 => ?_) (fun c34 => ?_)
    · replace h := zi_t c34 h
      refine lv_iload F.1 F.2.1 dL_law_224 (lv_at hl 1 rfl) ?_
      refine lv_if_ne (tgt := 241) F.1 F.2.1 dL_law_226 (by decide) (fun c35 => ?_) (fun c35 => ?_)
      · replace h := zi_t c35 h
        refine lv_goto (tgt := 2079) F.1 F.2.1 dL_law_241 (by decide) ?_
        obtain ⟨rfl, rfl, rfl, rfl⟩ := zret4 h
        exact K _ H locs ls hst h9 F hm4_1 hm4_2 hm4_3 hg27 hr (lv_sub hl [2, 3, 4, 5, 6] rfl)
      · replace h := zi_f (fun q => q c35) h
        refine lv_aload_n F.1 F.2.1 dL_law_229 rfl (lv_at hl 5 rfl) ?_
        refine lv_iconst (v := (0 : Int32)) F.1 F.2.1 dL_law_230 (by decide) ?_
        refine zr_lald (k := 193) (by decide) rfl (by decide) F hm4_3 hr dL_law_231 (by unfold vp_in; decide) ?_
        refine lv_iload F.1 F.2.1 dL_law_232 (lv_at hl 0 rfl) ?_
        refine lv_i2l F.1 F.2.1 dL_law_234 rfl ?_
        refine W.lcmp F.1 F.2.1 dL_law_235 ?_
        refine lv_if_eq (tgt := 241) F.1 F.2.1 dL_law_236 (by decide) (fun c37 => ?_) (fun c37 => ?_)
        · replace h := zi_t c37 h
          refine lv_goto (tgt := 2079) F.1 F.2.1 dL_law_241 (by decide) ?_
          obtain ⟨rfl, rfl, rfl, rfl⟩ := zret4 h
          exact K _ H locs ls hst h9 F hm4_1 hm4_2 hm4_3 hg27 hr (lv_sub hl [2, 3, 4, 5, 6] rfl)
        · replace h := zi_f c37 h
          refine lv_iconst (v := (0 : Int32)) F.1 F.2.1 dL_law_239 (by decide) ?_
          cases h
    · replace h := zi_f c34 h
      refine lv_iconst (v := (0 : Int32)) F.1 F.2.1 dL_law_222 (by decide) ?_
      cases h
noncomputable def fLaw_1 (N : Nat) (sc : Nat → Int32) (ids : List (Nat × Nat)) (cc ss : Nat) (z : St) : Option (St × List (Nat × Nat) × Nat × Nat) := zqc ((cc + (rmL_net).cells) ≤ room_1.cells ∧ (ss + (rmL_net).slots) ≤ room_1.slots) <| zc (fL_net N 0 (sc 1) (sc 2) 0 z) fun k1 z2 => zqc (((cc + (rmL_net).cells) + (rmX19_net (zcy1 (fX19_net N 3 82 0 (sc 1) (sc 2) ids z2) 3) (zcy1 (fX19_net N 3 82 0 (sc 1) (sc 2) ids z2) 82)).cells) ≤ room_1.cells ∧ ((ss + (rmL_net).slots) + (rmX19_net (zcy1 (fX19_net N 3 82 0 (sc 1) (sc 2) ids z2) 3) (zcy1 (fX19_net N 3 82 0 (sc 1) (sc 2) ids z2) 82)).slots) ≤ room_1.slots) <| zc3 (fX19_net N (zcy1 (fX19_net N 3 82 0 (sc 1) (sc 2) ids z2) 3) (zcy1 (fX19_net N 3 82 0 (sc 1) (sc 2) ids z2) 82) 0 (sc 1) (sc 2) ids z2) fun k5 z6 I9 => zc (fX19_thrown N 0 z6) fun r10 z11 => if r10 = k1 then (if ¬ k1 = 0 then (some (z11, I9, ((cc + (rmL_net).cells) + (rmX19_net (zcy1 (fX19_net N 3 82 0 (sc 1) (sc 2) ids z2) 3) (zcy1 (fX19_net N 3 82 0 (sc 1) (sc 2) ids z2) 82)).cells), ((ss + (rmL_net).slots) + (rmX19_net (zcy1 (fX19_net N 3 82 0 (sc 1) (sc 2) ids z2) 3) (zcy1 (fX19_net N 3 82 0 (sc 1) (sc 2) ids z2) 82)).slots))) else (if (lg_cmp (zgL z11 193 0 (Int32.toNatClampNeg (0 : Int32))) (Int32.toInt64 k5)) = 0 then (some (z11, I9, ((cc + (rmL_net).cells) + (rmX19_net (zcy1 (fX19_net N 3 82 0 (sc 1) (sc 2) ids z2) 3) (zcy1 (fX19_net N 3 82 0 (sc 1) (sc 2) ids z2) 82)).cells), ((ss + (rmL_net).slots) + (rmX19_net (zcy1 (fX19_net N 3 82 0 (sc 1) (sc 2) ids z2) 3) (zcy1 (fX19_net N 3 82 0 (sc 1) (sc 2) ids z2) 82)).slots))) else (none))) else (none)
set_option maxHeartbeats 8000000 in
set_option maxRecDepth 100000 in
theorem cLaw_1 (hst : zSt B ids) (h9 : zI9 ids) (F : zFx p m c cL_law 7 s args RL D cy B ids A) (hA : ∀ q : Nat, s.heap.size ≤ q → A q) (hlf : l.stackTraces = false) (hXK : zXK A s s.heap) (hLK : zLK s) (hAO : zAO s) (hX : va_X b L xs s s.heap) (hbl : b < s.heap.size) (hbA : ¬ A b) (h11 : (11, 0) ∈ ids) (h19 : (19, 0) ∈ ids) (h193 : (193, 0) ∈ ids) {N : Nat} {sc : Nat → Int32} {x4 : Int32} (hin0 : vp_in x4 L) (hva0 : xs (Int32.toNatClampNeg x4) = sc 0) (hin1 : vp_in (x4 + (1 : Int32)) L) (hva1 : xs (Int32.toNatClampNeg (x4 + (1 : Int32))) = sc 1) (hin2 : vp_in (x4 + (2 : Int32)) L) (hva2 : xs (Int32.toNatClampNeg (x4 + (2 : Int32))) = sc 2) (hin3 : vp_in (x4 + (3 : Int32)) L) (hva3 : xs (Int32.toNatClampNeg (x4 + (3 : Int32))) = sc 3) (hin4 : vp_in (x4 + (4 : Int32)) L) (hva4 : xs (Int32.toNatClampNeg (x4 + (4 : Int32))) = sc 4) (hin5 : vp_in (x4 + (5 : Int32)) L) (hva5 : xs (Int32.toNatClampNeg (x4 + (5 : Int32))) = sc 5) {cc ss : Nat} (hcs : cc ≤ room_1.cells ∧ ss ≤ room_1.slots) {z z' : St} {I' : List (Nat × Nat)} {c' s' : Nat} {H : Heap} {locs : List Loc} {ls : Array Slot} (hr : zRep D cy B ids A s.heap z H locs) (hl : lv_has ls 7 [(0, .ref b), (1, .ref (B 11 0)), (2, .ref (B 19 0)), (3, .ref (B 193 0)), (4, .int x4)])
    (K : ∀ (B1 : Nat → Nat → Nat) (H : Heap) (locs : List Loc) (ls : Array Slot), zSt B1 I' → zI9 I' → zFx p m c cL_law 7 s args RL D cy B1 I' A → (11, 0) ∈ I' → (19, 0) ∈ I' → (193, 0) ∈ I' → c' ≤ room_1.cells ∧ s' ≤ room_1.slots → zRep D cy B1 I' A s.heap z' H locs → lv_has ls 7 [(0, .ref b), (1, .ref (B1 11 0)), (2, .ref (B1 19 0)), (3, .ref (B1 193 0)), (4, .int x4)] → W p l e room_1 s m args below meth c H locs c' s' Q (F0 m 2079 ls []))
    (h : fLaw_1 N sc ids cc ss z = some (z', I', c', s')) : W p l e room_1 s m args below meth c H locs cc ss Q (F0 m 244 ls []) := by
  unfold fLaw_1 at h
  refine lv_aload_n F.1 F.2.1 dL_law_244 rfl (lv_at hl 1 rfl) ?_
  refine lv_aload_n F.1 F.2.1 dL_law_245 rfl (lv_at hl 0 rfl) ?_
  refine lv_iload F.1 F.2.1 dL_law_246 (lv_at hl 4 rfl) ?_
  refine lv_iconst (v := (1 : Int32)) F.1 F.2.1 dL_law_248 (by decide) ?_
  refine lv_iadd F.1 F.2.1 dL_law_249 ?_
  refine va_sld F.1 F.2.1 hX hbl hbA hr.2.1 hin1 dL_law_250 ?_
  rw [hva1]
  refine lv_aload_n F.1 F.2.1 dL_law_251 rfl (lv_at hl 0 rfl) ?_
  refine lv_iload F.1 F.2.1 dL_law_252 (lv_at hl 4 rfl) ?_
  refine lv_iconst (v := (2 : Int32)) F.1 F.2.1 dL_law_254 (by decide) ?_
  refine lv_iadd F.1 F.2.1 dL_law_255 ?_
  refine va_sld F.1 F.2.1 hX hbl hbA hr.2.1 hin2 dL_law_256 ?_
  rw [hva2]
  refine lv_aload_n F.1 F.2.1 dL_law_257 rfl (lv_at hl 3 rfl) ?_
  replace h := zqc_some h
  obtain ⟨hg3, h⟩ := h
  replace h := zc_some h
  obtain ⟨k1, z2, hc4, h⟩ := h
  refine zr_callLi (zrun_L hXK hLK hA (As := [.ref (B 11 0), .int (sc 1), .int (sc 2), .ref (B 193 0)]) (rest := []) zq_862 zq_863 zq_864 zq_0 hdL_net (okL_net l hlf D cy B ids hst N 0 h11 (sc 1) (sc 2) 0 h193 hr.2.2 hc4) F hr hl.1 rfl (by decide) dL_law_258 hroL_L_net hg3) F hA hr (fun H locs hr => ?_)
  refine lv_istore (lv' := [(5, .int k1), (0, .ref b), (1, .ref (B 11 0)), (2, .ref (B 19 0)), (3, .ref (B 193 0)), (4, .int x4)]) F.1 F.2.1 dL_law_261 hl (by decide) rfl (fun ls hl => ?_)
  refine lv_aload_n F.1 F.2.1 dL_law_263 rfl (lv_at hl 3 rfl) ?_
  refine lv_aload_n F.1 F.2.1 dL_law_264 rfl (lv_at hl 1 rfl) ?_
  refine lv_iload F.1 F.2.1 dL_law_265 (lv_at hl 5 rfl) ?_
  refine lv_iconst (v := (1 : Int32)) F.1 F.2.1 dL_law_267 (by decide) ?_
  refine lv_iadd F.1 F.2.1 dL_law_268 ?_
  refine va_sld F.1 F.2.1 hX hbl hbA hr.2.1 hin1 dL_law_269 ?_
  rw [hva1]
  refine lv_aload_n F.1 F.2.1 dL_law_270 rfl (lv_at hl 1 rfl) ?_
  refine lv_iload F.1 F.2.1 dL_law_271 (lv_at hl 5 rfl) ?_
  refine lv_iconst (v := (2 : Int32)) F.1 F.2.1 dL_law_273 (by decide) ?_
  refine lv_iadd F.1 F.2.1 dL_law_274 ?_
  refine va_sld F.1 F.2.1 hX hbl hbA hr.2.1 hin2 dL_law_275 ?_
  rw [hva2]
  replace h := zqc_some h
  obtain ⟨hg7, h⟩ := h
  replace h := zc3_some h
  obtain ⟨k5, z6, I9, hc8, h⟩ := h
  refine zr_callMi (zrun_Vm hAO (As := [.int (sc 1), .int (sc 2)]) (rest := []) zq_2398 zq_2399 zs_X19_net zq_2401 zq_4 hdX19_net (by decide) (T := TX19) (N := 32) rfl (okX19_net l D cy B ids hst h9 N (zcy1 (fX19_net N 3 82 0 (sc 1) (sc 2) ids z2) 3) (zcy1 (fX19_net N 3 82 0 (sc 1) (sc 2) ids z2) 82) 0 h19 (sc 1) (sc 2) hr.2.2 hc8) F hr h19 hl.1 rfl (by decide) dL_law_276 hroL_X19_net hg7) F hA hr (fun H locs Bm1 hxm1 hst h9 F hr => ?_)
  have hm1_1 := (hxm1 11 0 h11).1
  have hm1_2 := (hxm1 19 0 h19).1
  have hm1_3 := (hxm1 193 0 h193).1
  replace hl : lv_has ls 7 [(5, .int k1), (0, .ref b), (1, .ref (Bm1 11 0)), (2, .ref (Bm1 19 0)), (3, .ref (Bm1 193 0)), (4, .int x4)] := by
              rw [(hxm1 11 0 h11).2, (hxm1 19 0 h19).2, (hxm1 193 0 h193).2]; exact hl
  refine lv_istore (lv' := [(6, .int k5), (5, .int k1), (0, .ref b), (1, .ref (Bm1 11 0)), (2, .ref (Bm1 19 0)), (3, .ref (Bm1 193 0)), (4, .int x4)]) F.1 F.2.1 dL_law_279 hl (by decide) rfl (fun ls hl => ?_)
  refine lv_aload_n F.1 F.2.1 dL_law_281 rfl (lv_at hl 4 rfl) ?_
  replace h := zc_some h
  obtain ⟨r10, z11, hc12, h⟩ := h
  refine zr_calli (zrun_V (As := []) (rest := []) zq_1982 zq_1983 zs_X19_thrown zq_1985 zq_4 hdX19_thrown (by decide) (T := TX19) (N := 32) rfl (okX19_thrown l D cy Bm1 I9 hst N 0 hm1_2 hr.2.2 hc12) F hr hm1_2 hl.1 rfl (by decide) dL_law_282 rfl rfl hroL_X19_thrown hg7) F hA hr (fun H locs hw13 hr => ?_)
  clear hc12
  refine lv_iload F.1 F.2.1 dL_law_285 (lv_at hl 1 rfl) ?_
  refine lv_icmp_eq (tgt := 292) F.1 F.2.1 dL_law_287 (by decide) (fun c14 => ?_) (fun c14 => ?_)
  · replace h := zi_t c14 h
    refine lv_iload F.1 F.2.1 dL_law_292 (lv_at hl 1 rfl) ?_
    refine lv_if_ne (tgt := 309) F.1 F.2.1 dL_law_294 (by decide) (fun c15 => ?_) (fun c15 => ?_)
    · replace h := zi_t c15 h
      refine lv_goto (tgt := 2079) F.1 F.2.1 dL_law_309 (by decide) ?_
      obtain ⟨rfl, rfl, rfl, rfl⟩ := zret4 h
      exact K _ H locs ls hst h9 F hm1_1 hm1_2 hm1_3 hg7 hr (lv_sub hl [2, 3, 4, 5, 6] rfl)
    · replace h := zi_f (fun q => q c15) h
      refine lv_aload_n F.1 F.2.1 dL_law_297 rfl (lv_at hl 5 rfl) ?_
      refine lv_iconst (v := (0 : Int32)) F.1 F.2.1 dL_law_298 (by decide) ?_
      refine zr_lald (k := 193) (by decide) rfl (by decide) F hm1_3 hr dL_law_299 (by unfold vp_in; decide) ?_
      refine lv_iload F.1 F.2.1 dL_law_300 (lv_at hl 0 rfl) ?_
      refine lv_i2l F.1 F.2.1 dL_law_302 rfl ?_
      refine W.lcmp F.1 F.2.1 dL_law_303 ?_
      refine lv_if_eq (tgt := 309) F.1 F.2.1 dL_law_304 (by decide) (fun c17 => ?_) (fun c17 => ?_)
      · replace h := zi_t c17 h
        refine lv_goto (tgt := 2079) F.1 F.2.1 dL_law_309 (by decide) ?_
        obtain ⟨rfl, rfl, rfl, rfl⟩ := zret4 h
        exact K _ H locs ls hst h9 F hm1_1 hm1_2 hm1_3 hg7 hr (lv_sub hl [2, 3, 4, 5, 6] rfl)
      · replace h := zi_f c17 h
        refine lv_iconst (v := (0 : Int32)) F.1 F.2.1 dL_law_307 (by decide) ?_
        cases h
  · replace h := zi_f c14 h
    refine lv_iconst (v := (0 : Int32)) F.1 F.2.1 dL_law_290 (by decide) ?_
    cases h
noncomputable def fLaw_2 (N : Nat) (sc : Nat → Int32) (ids : List (Nat × Nat)) (cc ss : Nat) (z : St) : Option (St × List (Nat × Nat) × Nat × Nat) := zqc ((cc + (rmL_join (zcx1 (fX11_join N 40 25562 0 (sc 1) (sc 2) ids z) 40 1) (zcx1 (fX11_join N 40 25562 0 (sc 1) (sc 2) ids z) 25562 6)).cells) ≤ room_1.cells ∧ (ss + (rmL_join (zcx1 (fX11_join N 40 25562 0 (sc 1) (sc 2) ids z) 40 1) (zcx1 (fX11_join N 40 25562 0 (sc 1) (sc 2) ids z) 25562 6)).slots) ≤ room_1.slots) <| zc3 (fL_join N (zcx1 (fX11_join N 40 25562 0 (sc 1) (sc 2) ids z) 40 1) (zcx1 (fX11_join N 40 25562 0 (sc 1) (sc 2) ids z) 25562 6) 0 (sc 1) (sc 2) 0 ids z) fun k1 z2 I5 => zqc (((cc + (rmL_join (zcx1 (fX11_join N 40 25562 0 (sc 1) (sc 2) ids z) 40 1) (zcx1 (fX11_join N 40 25562 0 (sc 1) (sc 2) ids z) 25562 6)).cells) + (rmX19_join (zcy1 (fX19_join N 6 71 0 (sc 1) (sc 2) I5 z2) 6) (zcy1 (fX19_join N 6 71 0 (sc 1) (sc 2) I5 z2) 71)).cells) ≤ room_1.cells ∧ ((ss + (rmL_join (zcx1 (fX11_join N 40 25562 0 (sc 1) (sc 2) ids z) 40 1) (zcx1 (fX11_join N 40 25562 0 (sc 1) (sc 2) ids z) 25562 6)).slots) + (rmX19_join (zcy1 (fX19_join N 6 71 0 (sc 1) (sc 2) I5 z2) 6) (zcy1 (fX19_join N 6 71 0 (sc 1) (sc 2) I5 z2) 71)).slots) ≤ room_1.slots) <| zc3 (fX19_join N (zcy1 (fX19_join N 6 71 0 (sc 1) (sc 2) I5 z2) 6) (zcy1 (fX19_join N 6 71 0 (sc 1) (sc 2) I5 z2) 71) 0 (sc 1) (sc 2) I5 z2) fun k6 z7 I10 => zc (fX19_thrown N 0 z7) fun r11 z12 => if r11 = k1 then (if ¬ k1 = 0 then (some (z12, I10, ((cc + (rmL_join (zcx1 (fX11_join N 40 25562 0 (sc 1) (sc 2) ids z) 40 1) (zcx1 (fX11_join N 40 25562 0 (sc 1) (sc 2) ids z) 25562 6)).cells) + (rmX19_join (zcy1 (fX19_join N 6 71 0 (sc 1) (sc 2) I5 z2) 6) (zcy1 (fX19_join N 6 71 0 (sc 1) (sc 2) I5 z2) 71)).cells), ((ss + (rmL_join (zcx1 (fX11_join N 40 25562 0 (sc 1) (sc 2) ids z) 40 1) (zcx1 (fX11_join N 40 25562 0 (sc 1) (sc 2) ids z) 25562 6)).slots) + (rmX19_join (zcy1 (fX19_join N 6 71 0 (sc 1) (sc 2) I5 z2) 6) (zcy1 (fX19_join N 6 71 0 (sc 1) (sc 2) I5 z2) 71)).slots))) else (if (lg_cmp (zgL z12 193 0 (Int32.toNatClampNeg (0 : Int32))) (Int32.toInt64 k6)) = 0 then (some (z12, I10, ((cc + (rmL_join (zcx1 (fX11_join N 40 25562 0 (sc 1) (sc 2) ids z) 40 1) (zcx1 (fX11_join N 40 25562 0 (sc 1) (sc 2) ids z) 25562 6)).cells) + (rmX19_join (zcy1 (fX19_join N 6 71 0 (sc 1) (sc 2) I5 z2) 6) (zcy1 (fX19_join N 6 71 0 (sc 1) (sc 2) I5 z2) 71)).cells), ((ss + (rmL_join (zcx1 (fX11_join N 40 25562 0 (sc 1) (sc 2) ids z) 40 1) (zcx1 (fX11_join N 40 25562 0 (sc 1) (sc 2) ids z) 25562 6)).slots) + (rmX19_join (zcy1 (fX19_join N 6 71 0 (sc 1) (sc 2) I5 z2) 6) (zcy1 (fX19_join N 6 71 0 (sc 1) (sc 2) I5 z2) 71)).slots))) else (none))) else (none)
set_option maxHeartbeats 8000000 in
set_option maxRecDepth 100000 in
theorem cLaw_2 (hst : zSt B ids) (h9 : zI9 ids) (F : zFx p m c cL_law 7 s args RL D cy B ids A) (hA : ∀ q : Nat, s.heap.size ≤ q → A q) (hlf : l.stackTraces = false) (hXK : zXK A s s.heap) (hLK : zLK s) (hAO : zAO s) (hX : va_X b L xs s s.heap) (hbl : b < s.heap.size) (hbA : ¬ A b) (h11 : (11, 0) ∈ ids) (h19 : (19, 0) ∈ ids) (h193 : (193, 0) ∈ ids) {N : Nat} {sc : Nat → Int32} {x4 : Int32} (hin0 : vp_in x4 L) (hva0 : xs (Int32.toNatClampNeg x4) = sc 0) (hin1 : vp_in (x4 + (1 : Int32)) L) (hva1 : xs (Int32.toNatClampNeg (x4 + (1 : Int32))) = sc 1) (hin2 : vp_in (x4 + (2 : Int32)) L) (hva2 : xs (Int32.toNatClampNeg (x4 + (2 : Int32))) = sc 2) (hin3 : vp_in (x4 + (3 : Int32)) L) (hva3 : xs (Int32.toNatClampNeg (x4 + (3 : Int32))) = sc 3) (hin4 : vp_in (x4 + (4 : Int32)) L) (hva4 : xs (Int32.toNatClampNeg (x4 + (4 : Int32))) = sc 4) (hin5 : vp_in (x4 + (5 : Int32)) L) (hva5 : xs (Int32.toNatClampNeg (x4 + (5 : Int32))) = sc 5) {cc ss : Nat} (hcs : cc ≤ room_1.cells ∧ ss ≤ room_1.slots) {z z' : St} {I' : List (Nat × Nat)} {c' s' : Nat} {H : Heap} {locs : List Loc} {ls : Array Slot} (hr : zRep D cy B ids A s.heap z H locs) (hl : lv_has ls 7 [(0, .ref b), (1, .ref (B 11 0)), (2, .ref (B 19 0)), (3, .ref (B 193 0)), (4, .int x4)])
    (K : ∀ (B1 : Nat → Nat → Nat) (H : Heap) (locs : List Loc) (ls : Array Slot), zSt B1 I' → zI9 I' → zFx p m c cL_law 7 s args RL D cy B1 I' A → (11, 0) ∈ I' → (19, 0) ∈ I' → (193, 0) ∈ I' → c' ≤ room_1.cells ∧ s' ≤ room_1.slots → zRep D cy B1 I' A s.heap z' H locs → lv_has ls 7 [(0, .ref b), (1, .ref (B1 11 0)), (2, .ref (B1 19 0)), (3, .ref (B1 193 0)), (4, .int x4)] → W p l e room_1 s m args below meth c H locs c' s' Q (F0 m 2079 ls []))
    (h : fLaw_2 N sc ids cc ss z = some (z', I', c', s')) : W p l e room_1 s m args below meth c H locs cc ss Q (F0 m 312 ls []) := by
  unfold fLaw_2 at h
  refine lv_aload_n F.1 F.2.1 dL_law_312 rfl (lv_at hl 1 rfl) ?_
  refine lv_aload_n F.1 F.2.1 dL_law_313 rfl (lv_at hl 0 rfl) ?_
  refine lv_iload F.1 F.2.1 dL_law_314 (lv_at hl 4 rfl) ?_
  refine lv_iconst (v := (1 : Int32)) F.1 F.2.1 dL_law_316 (by decide) ?_
  refine lv_iadd F.1 F.2.1 dL_law_317 ?_
  refine va_sld F.1 F.2.1 hX hbl hbA hr.2.1 hin1 dL_law_318 ?_
  rw [hva1]
  refine lv_aload_n F.1 F.2.1 dL_law_319 rfl (lv_at hl 0 rfl) ?_
  refine lv_iload F.1 F.2.1 dL_law_320 (lv_at hl 4 rfl) ?_
  refine lv_iconst (v := (2 : Int32)) F.1 F.2.1 dL_law_322 (by decide) ?_
  refine lv_iadd F.1 F.2.1 dL_law_323 ?_
  refine va_sld F.1 F.2.1 hX hbl hbA hr.2.1 hin2 dL_law_324 ?_
  rw [hva2]
  refine lv_aload_n F.1 F.2.1 dL_law_325 rfl (lv_at hl 3 rfl) ?_
  replace h := zqc_some h
  obtain ⟨hg3, h⟩ := h
  replace h := zc3_some h
  obtain ⟨k1, z2, I5, hc4, h⟩ := h
  refine zr_callMi (zrun_Lm hXK hLK hAO hA (As := [.ref (B 11 0), .int (sc 1), .int (sc 2), .ref (B 193 0)]) (rest := []) zq_892 zq_893 zq_894 zq_0 hdL_join (okL_join l hlf D cy B ids hst N (zcx1 (fX11_join N 40 25562 0 (sc 1) (sc 2) ids z) 40 1) (zcx1 (fX11_join N 40 25562 0 (sc 1) (sc 2) ids z) 25562 6) h9 0 h11 (sc 1) (sc 2) 0 h193 hr.2.2 hc4) F hr hl.1 rfl (by decide) dL_law_326 hroL_L_join hg3) F hA hr (fun H locs Bm1 hxm1 hst h9 F hr => ?_)
  have hm1_1 := (hxm1 11 0 h11).1
  have hm1_2 := (hxm1 19 0 h19).1
  have hm1_3 := (hxm1 193 0 h193).1
  replace hl : lv_has ls 7 [(0, .ref b), (1, .ref (Bm1 11 0)), (2, .ref (Bm1 19 0)), (3, .ref (Bm1 193 0)), (4, .int x4)] := by
              rw [(hxm1 11 0 h11).2, (hxm1 19 0 h19).2, (hxm1 193 0 h193).2]; exact hl
  refine lv_istore (lv' := [(5, .int k1), (0, .ref b), (1, .ref (Bm1 11 0)), (2, .ref (Bm1 19 0)), (3, .ref (Bm1 193 0)), (4, .int x4)]) F.1 F.2.1 dL_law_329 hl (by decide) rfl (fun ls hl => ?_)
  refine lv_aload_n F.1 F.2.1 dL_law_331 rfl (lv_at hl 3 rfl) ?_
  refine lv_aload_n F.1 F.2.1 dL_law_332 rfl (lv_at hl 1 rfl) ?_
  refine lv_iload F.1 F.2.1 dL_law_333 (lv_at hl 5 rfl) ?_
  refine lv_iconst (v := (1 : Int32)) F.1 F.2.1 dL_law_335 (by decide) ?_
  refine lv_iadd F.1 F.2.1 dL_law_336 ?_
  refine va_sld F.1 F.2.1 hX hbl hbA hr.2.1 hin1 dL_law_337 ?_
  rw [hva1]
  refine lv_aload_n F.1 F.2.1 dL_law_338 rfl (lv_at hl 1 rfl) ?_
  refine lv_iload F.1 F.2.1 dL_law_339 (lv_at hl 5 rfl) ?_
  refine lv_iconst (v := (2 : Int32)) F.1 F.2.1 dL_law_341 (by decide) ?_
  refine lv_iadd F.1 F.2.1 dL_law_342 ?_
  refine va_sld F.1 F.2.1 hX hbl hbA hr.2.1 hin2 dL_law_343 ?_
  rw [hva2]
  replace h := zqc_some h
  obtain ⟨hg8, h⟩ := h
  replace h := zc3_some h
  obtain ⟨k6, z7, I10, hc9, h⟩ := h
  refine zr_callMi (zrun_Vm hAO (As := [.int (sc 1), .int (sc 2)]) (rest := []) zq_2447 zq_2448 zs_X19_join zq_2450 zq_4 hdX19_join (by decide) (T := TX19) (N := 32) rfl (okX19_join l D cy Bm1 I5 hst h9 N (zcy1 (fX19_join N 6 71 0 (sc 1) (sc 2) I5 z2) 6) (zcy1 (fX19_join N 6 71 0 (sc 1) (sc 2) I5 z2) 71) 0 hm1_2 (sc 1) (sc 2) hr.2.2 hc9) F hr hm1_2 hl.1 rfl (by decide) dL_law_344 hroL_X19_join hg8) F hA hr (fun H locs Bm2 hxm2 hst h9 F hr => ?_)
  have hm2_1 := (hxm2 11 0 hm1_1).1
  have hm2_2 := (hxm2 19 0 hm1_2).1
  have hm2_3 := (hxm2 193 0 hm1_3).1
  replace hl : lv_has ls 7 [(5, .int k1), (0, .ref b), (1, .ref (Bm2 11 0)), (2, .ref (Bm2 19 0)), (3, .ref (Bm2 193 0)), (4, .int x4)] := by
              rw [(hxm2 11 0 hm1_1).2, (hxm2 19 0 hm1_2).2, (hxm2 193 0 hm1_3).2]; exact hl
  refine lv_istore (lv' := [(6, .int k6), (5, .int k1), (0, .ref b), (1, .ref (Bm2 11 0)), (2, .ref (Bm2 19 0)), (3, .ref (Bm2 193 0)), (4, .int x4)]) F.1 F.2.1 dL_law_347 hl (by decide) rfl (fun ls hl => ?_)
  refine lv_aload_n F.1 F.2.1 dL_law_349 rfl (lv_at hl 4 rfl) ?_
  replace h := zc_some h
  obtain ⟨r11, z12, hc13, h⟩ := h
  refine zr_calli (zrun_V (As := []) (rest := []) zq_1982 zq_1983 zs_X19_thrown zq_1985 zq_4 hdX19_thrown (by decide) (T := TX19) (N := 32) rfl (okX19_thrown l D cy Bm2 I10 hst N 0 hm2_2 hr.2.2 hc13) F hr hm2_2 hl.1 rfl (by decide) dL_law_350 rfl rfl hroL_X19_thrown hg8) F hA hr (fun H locs hw14 hr => ?_)
  clear hc13
  refine lv_iload F.1 F.2.1 dL_law_353 (lv_at hl 1 rfl) ?_
  refine lv_icmp_eq (tgt := 360) F.1 F.2.1 dL_law_355 (by decide) (fun c15 => ?_) (fun c15 => ?_)
  · replace h := zi_t c15 h
    refine lv_iload F.1 F.2.1 dL_law_360 (lv_at hl 1 rfl) ?_
    refine lv_if_ne (tgt := 377) F.1 F.2.1 dL_law_362 (by decide) (fun c16 => ?_) (fun c16 => ?_)
    · replace h := zi_t c16 h
      refine lv_goto (tgt := 2079) F.1 F.2.1 dL_law_377 (by decide) ?_
      obtain ⟨rfl, rfl, rfl, rfl⟩ := zret4 h
      exact K _ H locs ls hst h9 F hm2_1 hm2_2 hm2_3 hg8 hr (lv_sub hl [2, 3, 4, 5, 6] rfl)
    · replace h := zi_f (fun q => q c16) h
      refine lv_aload_n F.1 F.2.1 dL_law_365 rfl (lv_at hl 5 rfl) ?_
      refine lv_iconst (v := (0 : Int32)) F.1 F.2.1 dL_law_366 (by decide) ?_
      refine zr_lald (k := 193) (by decide) rfl (by decide) F hm2_3 hr dL_law_367 (by unfold vp_in; decide) ?_
      refine lv_iload F.1 F.2.1 dL_law_368 (lv_at hl 0 rfl) ?_
      refine lv_i2l F.1 F.2.1 dL_law_370 rfl ?_
      refine W.lcmp F.1 F.2.1 dL_law_371 ?_
      refine lv_if_eq (tgt := 377) F.1 F.2.1 dL_law_372 (by decide) (fun c18 => ?_) (fun c18 => ?_)
      · replace h := zi_t c18 h
        refine lv_goto (tgt := 2079) F.1 F.2.1 dL_law_377 (by decide) ?_
        obtain ⟨rfl, rfl, rfl, rfl⟩ := zret4 h
        exact K _ H locs ls hst h9 F hm2_1 hm2_2 hm2_3 hg8 hr (lv_sub hl [2, 3, 4, 5, 6] rfl)
      · replace h := zi_f c18 h
        refine lv_iconst (v := (0 : Int32)) F.1 F.2.1 dL_law_375 (by decide) ?_
        cases h
  · replace h := zi_f c15 h
    refine lv_iconst (v := (0 : Int32)) F.1 F.2.1 dL_law_358 (by decide) ?_
    cases h
noncomputable def fLaw_3 (N : Nat) (sc : Nat → Int32) (ids : List (Nat × Nat)) (cc ss : Nat) (z : St) : Option (St × List (Nat × Nat) × Nat × Nat) := zqc ((cc + (rmL_cost).cells) ≤ room_1.cells ∧ (ss + (rmL_cost).slots) ≤ room_1.slots) <| zc (fL_cost N 0 (sc 1) (sc 2) (sc 3) 0 z) fun k1 z2 => zc (fX19_cost N 0 (sc 1) (sc 2) (sc 3) z2) fun r5 z6 => zc (fX19_thrown N 0 z6) fun r9 z10 => if r9 = k1 then (if ¬ k1 = 0 then (some (z10, ids, (cc + (rmL_cost).cells), (ss + (rmL_cost).slots))) else (if (lg_cmp (zgL z10 193 0 (Int32.toNatClampNeg (0 : Int32))) (Int32.toInt64 r5)) = 0 then (some (z10, ids, (cc + (rmL_cost).cells), (ss + (rmL_cost).slots))) else (none))) else (none)
set_option maxHeartbeats 8000000 in
set_option maxRecDepth 100000 in
theorem cLaw_3 (hst : zSt B ids) (h9 : zI9 ids) (F : zFx p m c cL_law 7 s args RL D cy B ids A) (hA : ∀ q : Nat, s.heap.size ≤ q → A q) (hlf : l.stackTraces = false) (hXK : zXK A s s.heap) (hLK : zLK s) (hAO : zAO s) (hX : va_X b L xs s s.heap) (hbl : b < s.heap.size) (hbA : ¬ A b) (h11 : (11, 0) ∈ ids) (h19 : (19, 0) ∈ ids) (h193 : (193, 0) ∈ ids) {N : Nat} {sc : Nat → Int32} {x4 : Int32} (hin0 : vp_in x4 L) (hva0 : xs (Int32.toNatClampNeg x4) = sc 0) (hin1 : vp_in (x4 + (1 : Int32)) L) (hva1 : xs (Int32.toNatClampNeg (x4 + (1 : Int32))) = sc 1) (hin2 : vp_in (x4 + (2 : Int32)) L) (hva2 : xs (Int32.toNatClampNeg (x4 + (2 : Int32))) = sc 2) (hin3 : vp_in (x4 + (3 : Int32)) L) (hva3 : xs (Int32.toNatClampNeg (x4 + (3 : Int32))) = sc 3) (hin4 : vp_in (x4 + (4 : Int32)) L) (hva4 : xs (Int32.toNatClampNeg (x4 + (4 : Int32))) = sc 4) (hin5 : vp_in (x4 + (5 : Int32)) L) (hva5 : xs (Int32.toNatClampNeg (x4 + (5 : Int32))) = sc 5) {cc ss : Nat} (hcs : cc ≤ room_1.cells ∧ ss ≤ room_1.slots) {z z' : St} {I' : List (Nat × Nat)} {c' s' : Nat} {H : Heap} {locs : List Loc} {ls : Array Slot} (hr : zRep D cy B ids A s.heap z H locs) (hl : lv_has ls 7 [(0, .ref b), (1, .ref (B 11 0)), (2, .ref (B 19 0)), (3, .ref (B 193 0)), (4, .int x4)])
    (K : ∀ (B1 : Nat → Nat → Nat) (H : Heap) (locs : List Loc) (ls : Array Slot), zSt B1 I' → zI9 I' → zFx p m c cL_law 7 s args RL D cy B1 I' A → (11, 0) ∈ I' → (19, 0) ∈ I' → (193, 0) ∈ I' → c' ≤ room_1.cells ∧ s' ≤ room_1.slots → zRep D cy B1 I' A s.heap z' H locs → lv_has ls 7 [(0, .ref b), (1, .ref (B1 11 0)), (2, .ref (B1 19 0)), (3, .ref (B1 193 0)), (4, .int x4)] → W p l e room_1 s m args below meth c H locs c' s' Q (F0 m 2079 ls []))
    (h : fLaw_3 N sc ids cc ss z = some (z', I', c', s')) : W p l e room_1 s m args below meth c H locs cc ss Q (F0 m 380 ls []) := by
  unfold fLaw_3 at h
  refine lv_aload_n F.1 F.2.1 dL_law_380 rfl (lv_at hl 1 rfl) ?_
  refine lv_aload_n F.1 F.2.1 dL_law_381 rfl (lv_at hl 0 rfl) ?_
  refine lv_iload F.1 F.2.1 dL_law_382 (lv_at hl 4 rfl) ?_
  refine lv_iconst (v := (1 : Int32)) F.1 F.2.1 dL_law_384 (by decide) ?_
  refine lv_iadd F.1 F.2.1 dL_law_385 ?_
  refine va_sld F.1 F.2.1 hX hbl hbA hr.2.1 hin1 dL_law_386 ?_
  rw [hva1]
  refine lv_aload_n F.1 F.2.1 dL_law_387 rfl (lv_at hl 0 rfl) ?_
  refine lv_iload F.1 F.2.1 dL_law_388 (lv_at hl 4 rfl) ?_
  refine lv_iconst (v := (2 : Int32)) F.1 F.2.1 dL_law_390 (by decide) ?_
  refine lv_iadd F.1 F.2.1 dL_law_391 ?_
  refine va_sld F.1 F.2.1 hX hbl hbA hr.2.1 hin2 dL_law_392 ?_
  rw [hva2]
  refine lv_aload_n F.1 F.2.1 dL_law_393 rfl (lv_at hl 0 rfl) ?_
  refine lv_iload F.1 F.2.1 dL_law_394 (lv_at hl 4 rfl) ?_
  refine lv_iconst (v := (3 : Int32)) F.1 F.2.1 dL_law_396 (by decide) ?_
  refine lv_iadd F.1 F.2.1 dL_law_397 ?_
  refine va_sld F.1 F.2.1 hX hbl hbA hr.2.1 hin3 dL_law_398 ?_
  rw [hva3]
  refine lv_aload_n F.1 F.2.1 dL_law_399 rfl (lv_at hl 3 rfl) ?_
  replace h := zqc_some h
  obtain ⟨hg3, h⟩ := h
  replace h := zc_some h
  obtain ⟨k1, z2, hc4, h⟩ := h
  refine zr_callLi (zrun_L hXK hLK hA (As := [.ref (B 11 0), .int (sc 1), .int (sc 2), .int (sc 3), .ref (B 193 0)]) (rest := []) zq_978 zq_979 zq_980 zq_0 hdL_cost (okL_cost l hlf D cy B ids hst N 0 h11 (sc 1) (sc 2) (sc 3) 0 h193 hr.2.2 hc4) F hr hl.1 rfl (by decide) dL_law_400 hroL_L_cost hg3) F hA hr (fun H locs hr => ?_)
  refine lv_istore (lv' := [(5, .int k1), (0, .ref b), (1, .ref (B 11 0)), (2, .ref (B 19 0)), (3, .ref (B 193 0)), (4, .int x4)]) F.1 F.2.1 dL_law_403 hl (by decide) rfl (fun ls hl => ?_)
  refine lv_aload_n F.1 F.2.1 dL_law_405 rfl (lv_at hl 3 rfl) ?_
  refine lv_aload_n F.1 F.2.1 dL_law_406 rfl (lv_at hl 1 rfl) ?_
  refine lv_iload F.1 F.2.1 dL_law_407 (lv_at hl 5 rfl) ?_
  refine lv_iconst (v := (1 : Int32)) F.1 F.2.1 dL_law_409 (by decide) ?_
  refine lv_iadd F.1 F.2.1 dL_law_410 ?_
  refine va_sld F.1 F.2.1 hX hbl hbA hr.2.1 hin1 dL_law_411 ?_
  rw [hva1]
  refine lv_aload_n F.1 F.2.1 dL_law_412 rfl (lv_at hl 1 rfl) ?_
  refine lv_iload F.1 F.2.1 dL_law_413 (lv_at hl 5 rfl) ?_
  refine lv_iconst (v := (2 : Int32)) F.1 F.2.1 dL_law_415 (by decide) ?_
  refine lv_iadd F.1 F.2.1 dL_law_416 ?_
  refine va_sld F.1 F.2.1 hX hbl hbA hr.2.1 hin2 dL_law_417 ?_
  rw [hva2]
  refine lv_aload_n F.1 F.2.1 dL_law_418 rfl (lv_at hl 1 rfl) ?_
  refine lv_iload F.1 F.2.1 dL_law_419 (lv_at hl 5 rfl) ?_
  refine lv_iconst (v := (3 : Int32)) F.1 F.2.1 dL_law_421 (by decide) ?_
  refine lv_iadd F.1 F.2.1 dL_law_422 ?_
  refine va_sld F.1 F.2.1 hX hbl hbA hr.2.1 hin3 dL_law_423 ?_
  rw [hva3]
  replace h := zc_some h
  obtain ⟨r5, z6, hc7, h⟩ := h
  refine zr_calli (zrun_V (As := [.int (sc 1), .int (sc 2), .int (sc 3)]) (rest := []) zq_2525 zq_2526 zs_X19_cost zq_2528 zq_4 hdX19_cost (by decide) (T := TX19) (N := 32) rfl (okX19_cost l D cy B ids hst N 0 h19 (sc 1)  (sc 2)  (sc 3)  hr.2.2 hc7) F hr h19 hl.1 rfl (by decide) dL_law_424 rfl rfl hroL_X19_cost hg3) F hA hr (fun H locs hw8 hr => ?_)
  clear hc7
  refine lv_istore (lv' := [(6, .int r5), (5, .int k1), (0, .ref b), (1, .ref (B 11 0)), (2, .ref (B 19 0)), (3, .ref (B 193 0)), (4, .int x4)]) F.1 F.2.1 dL_law_427 hl (by decide) rfl (fun ls hl => ?_)
  refine lv_aload_n F.1 F.2.1 dL_law_429 rfl (lv_at hl 4 rfl) ?_
  replace h := zc_some h
  obtain ⟨r9, z10, hc11, h⟩ := h
  refine zr_calli (zrun_V (As := []) (rest := []) zq_1982 zq_1983 zs_X19_thrown zq_1985 zq_4 hdX19_thrown (by decide) (T := TX19) (N := 32) rfl (okX19_thrown l D cy B ids hst N 0 h19 hr.2.2 hc11) F hr h19 hl.1 rfl (by decide) dL_law_430 rfl rfl hroL_X19_thrown hg3) F hA hr (fun H locs hw12 hr => ?_)
  clear hc11
  refine lv_iload F.1 F.2.1 dL_law_433 (lv_at hl 1 rfl) ?_
  refine lv_icmp_eq (tgt := 440) F.1 F.2.1 dL_law_435 (by decide) (fun c13 => ?_) (fun c13 => ?_)
  · replace h := zi_t c13 h
    refine lv_iload F.1 F.2.1 dL_law_440 (lv_at hl 1 rfl) ?_
    refine lv_if_ne (tgt := 457) F.1 F.2.1 dL_law_442 (by decide) (fun c14 => ?_) (fun c14 => ?_)
    · replace h := zi_t c14 h
      refine lv_goto (tgt := 2079) F.1 F.2.1 dL_law_457 (by decide) ?_
      obtain ⟨rfl, rfl, rfl, rfl⟩ := zret4 h
      exact K _ H locs ls hst h9 F h11 h19 h193 hg3 hr (lv_sub hl [2, 3, 4, 5, 6] rfl)
    · replace h := zi_f (fun q => q c14) h
      refine lv_aload_n F.1 F.2.1 dL_law_445 rfl (lv_at hl 5 rfl) ?_
      refine lv_iconst (v := (0 : Int32)) F.1 F.2.1 dL_law_446 (by decide) ?_
      refine zr_lald (k := 193) (by decide) rfl (by decide) F h193 hr dL_law_447 (by unfold vp_in; decide) ?_
      refine lv_iload F.1 F.2.1 dL_law_448 (lv_at hl 0 rfl) ?_
      refine lv_i2l F.1 F.2.1 dL_law_450 rfl ?_
      refine W.lcmp F.1 F.2.1 dL_law_451 ?_
      refine lv_if_eq (tgt := 457) F.1 F.2.1 dL_law_452 (by decide) (fun c16 => ?_) (fun c16 => ?_)
      · replace h := zi_t c16 h
        refine lv_goto (tgt := 2079) F.1 F.2.1 dL_law_457 (by decide) ?_
        obtain ⟨rfl, rfl, rfl, rfl⟩ := zret4 h
        exact K _ H locs ls hst h9 F h11 h19 h193 hg3 hr (lv_sub hl [2, 3, 4, 5, 6] rfl)
      · replace h := zi_f c16 h
        refine lv_iconst (v := (0 : Int32)) F.1 F.2.1 dL_law_455 (by decide) ?_
        cases h
  · replace h := zi_f c13 h
    refine lv_iconst (v := (0 : Int32)) F.1 F.2.1 dL_law_438 (by decide) ?_
    cases h
noncomputable def fLaw_4 (N : Nat) (sc : Nat → Int32) (ids : List (Nat × Nat)) (cc ss : Nat) (z : St) : Option (St × List (Nat × Nat) × Nat × Nat) := if (sc 2) = 0 then (zqc ((cc + (rmL_link).cells) ≤ room_1.cells ∧ (ss + (rmL_link).slots) ≤ room_1.slots) <| zc (fL_link N 0 (sc 1) (0 : Int32) 0 z) fun k2 z3 => zc (fX19_link N 0 (sc 1) (0 : Int32) z3) fun r6 z7 => zc (fX19_thrown N 0 z7) fun r10 z11 => if r10 = k2 then (if ¬ k2 = 0 then (some (z11, ids, (cc + (rmL_link).cells), (ss + (rmL_link).slots))) else (if r6 = 0 then (if (lg_cmp (zgL z11 193 0 (Int32.toNatClampNeg (0 : Int32))) (0 : Int64)) = 0 then (some (z11, ids, (cc + (rmL_link).cells), (ss + (rmL_link).slots))) else (none)) else (if (lg_cmp (zgL z11 193 0 (Int32.toNatClampNeg (0 : Int32))) (1 : Int64)) = 0 then (some (z11, ids, (cc + (rmL_link).cells), (ss + (rmL_link).slots))) else (none)))) else (none)) else (zqc ((cc + (rmL_link).cells) ≤ room_1.cells ∧ (ss + (rmL_link).slots) ≤ room_1.slots) <| zc (fL_link N 0 (sc 1) (1 : Int32) 0 z) fun k20 z21 => zc (fX19_link N 0 (sc 1) (1 : Int32) z21) fun r24 z25 => zc (fX19_thrown N 0 z25) fun r28 z29 => if r28 = k20 then (if ¬ k20 = 0 then (some (z29, ids, (cc + (rmL_link).cells), (ss + (rmL_link).slots))) else (if r24 = 0 then (if (lg_cmp (zgL z29 193 0 (Int32.toNatClampNeg (0 : Int32))) (0 : Int64)) = 0 then (some (z29, ids, (cc + (rmL_link).cells), (ss + (rmL_link).slots))) else (none)) else (if (lg_cmp (zgL z29 193 0 (Int32.toNatClampNeg (0 : Int32))) (1 : Int64)) = 0 then (some (z29, ids, (cc + (rmL_link).cells), (ss + (rmL_link).slots))) else (none)))) else (none))
set_option maxHeartbeats 8000000 in
set_option maxRecDepth 100000 in
theorem cLaw_4 (hst : zSt B ids) (h9 : zI9 ids) (F : zFx p m c cL_law 7 s args RL D cy B ids A) (hA : ∀ q : Nat, s.heap.size ≤ q → A q) (hlf : l.stackTraces = false) (hXK : zXK A s s.heap) (hLK : zLK s) (hAO : zAO s) (hX : va_X b L xs s s.heap) (hbl : b < s.heap.size) (hbA : ¬ A b) (h11 : (11, 0) ∈ ids) (h19 : (19, 0) ∈ ids) (h193 : (193, 0) ∈ ids) {N : Nat} {sc : Nat → Int32} {x4 : Int32} (hin0 : vp_in x4 L) (hva0 : xs (Int32.toNatClampNeg x4) = sc 0) (hin1 : vp_in (x4 + (1 : Int32)) L) (hva1 : xs (Int32.toNatClampNeg (x4 + (1 : Int32))) = sc 1) (hin2 : vp_in (x4 + (2 : Int32)) L) (hva2 : xs (Int32.toNatClampNeg (x4 + (2 : Int32))) = sc 2) (hin3 : vp_in (x4 + (3 : Int32)) L) (hva3 : xs (Int32.toNatClampNeg (x4 + (3 : Int32))) = sc 3) (hin4 : vp_in (x4 + (4 : Int32)) L) (hva4 : xs (Int32.toNatClampNeg (x4 + (4 : Int32))) = sc 4) (hin5 : vp_in (x4 + (5 : Int32)) L) (hva5 : xs (Int32.toNatClampNeg (x4 + (5 : Int32))) = sc 5) {cc ss : Nat} (hcs : cc ≤ room_1.cells ∧ ss ≤ room_1.slots) {z z' : St} {I' : List (Nat × Nat)} {c' s' : Nat} {H : Heap} {locs : List Loc} {ls : Array Slot} (hr : zRep D cy B ids A s.heap z H locs) (hl : lv_has ls 7 [(0, .ref b), (1, .ref (B 11 0)), (2, .ref (B 19 0)), (3, .ref (B 193 0)), (4, .int x4)])
    (K : ∀ (B1 : Nat → Nat → Nat) (H : Heap) (locs : List Loc) (ls : Array Slot), zSt B1 I' → zI9 I' → zFx p m c cL_law 7 s args RL D cy B1 I' A → (11, 0) ∈ I' → (19, 0) ∈ I' → (193, 0) ∈ I' → c' ≤ room_1.cells ∧ s' ≤ room_1.slots → zRep D cy B1 I' A s.heap z' H locs → lv_has ls 7 [(0, .ref b), (1, .ref (B1 11 0)), (2, .ref (B1 19 0)), (3, .ref (B1 193 0)), (4, .int x4)] → W p l e room_1 s m args below meth c H locs c' s' Q (F0 m 2079 ls []))
    (h : fLaw_4 N sc ids cc ss z = some (z', I', c', s')) : W p l e room_1 s m args below meth c H locs cc ss Q (F0 m 460 ls []) := by
  unfold fLaw_4 at h
  refine lv_aload_n F.1 F.2.1 dL_law_460 rfl (lv_at hl 1 rfl) ?_
  refine lv_aload_n F.1 F.2.1 dL_law_461 rfl (lv_at hl 0 rfl) ?_
  refine lv_iload F.1 F.2.1 dL_law_462 (lv_at hl 4 rfl) ?_
  refine lv_iconst (v := (1 : Int32)) F.1 F.2.1 dL_law_464 (by decide) ?_
  refine lv_iadd F.1 F.2.1 dL_law_465 ?_
  refine va_sld F.1 F.2.1 hX hbl hbA hr.2.1 hin1 dL_law_466 ?_
  rw [hva1]
  refine lv_aload_n F.1 F.2.1 dL_law_467 rfl (lv_at hl 0 rfl) ?_
  refine lv_iload F.1 F.2.1 dL_law_468 (lv_at hl 4 rfl) ?_
  refine lv_iconst (v := (2 : Int32)) F.1 F.2.1 dL_law_470 (by decide) ?_
  refine lv_iadd F.1 F.2.1 dL_law_471 ?_
  refine va_sld F.1 F.2.1 hX hbl hbA hr.2.1 hin2 dL_law_472 ?_
  rw [hva2]
  refine lv_if_eq (tgt := 480) F.1 F.2.1 dL_law_473 (by decide) (fun c1 => ?_) (fun c1 => ?_)
  · replace h := zi_t c1 h
    refine lv_iconst (v := (0 : Int32)) F.1 F.2.1 dL_law_480 (by decide) ?_
    refine lv_aload_n F.1 F.2.1 dL_law_481 rfl (lv_at hl 3 rfl) ?_
    replace h := zqc_some h
    obtain ⟨hg4, h⟩ := h
    replace h := zc_some h
    obtain ⟨k2, z3, hc5, h⟩ := h
    refine zr_callLi (zrun_L hXK hLK hA (As := [.ref (B 11 0), .int (sc 1), .int (0 : Int32), .ref (B 193 0)]) (rest := []) zq_992 zq_993 zq_994 zq_0 hdL_link (okL_link l hlf D cy B ids hst N 0 h11 (sc 1) (0 : Int32) 0 h193 hr.2.2 hc5) F hr hl.1 rfl (by decide) dL_law_482 hroL_L_link hg4) F hA hr (fun H locs hr => ?_)
    refine lv_istore (lv' := [(5, .int k2), (0, .ref b), (1, .ref (B 11 0)), (2, .ref (B 19 0)), (3, .ref (B 193 0)), (4, .int x4)]) F.1 F.2.1 dL_law_485 hl (by decide) rfl (fun ls hl => ?_)
    refine lv_aload_n F.1 F.2.1 dL_law_487 rfl (lv_at hl 3 rfl) ?_
    refine lv_aload_n F.1 F.2.1 dL_law_488 rfl (lv_at hl 1 rfl) ?_
    refine lv_iload F.1 F.2.1 dL_law_489 (lv_at hl 5 rfl) ?_
    refine lv_iconst (v := (1 : Int32)) F.1 F.2.1 dL_law_491 (by decide) ?_
    refine lv_iadd F.1 F.2.1 dL_law_492 ?_
    refine va_sld F.1 F.2.1 hX hbl hbA hr.2.1 hin1 dL_law_493 ?_
    rw [hva1]
    refine lv_aload_n F.1 F.2.1 dL_law_494 rfl (lv_at hl 1 rfl) ?_
    refine lv_iload F.1 F.2.1 dL_law_495 (lv_at hl 5 rfl) ?_
    refine lv_iconst (v := (2 : Int32)) F.1 F.2.1 dL_law_497 (by decide) ?_
    refine lv_iadd F.1 F.2.1 dL_law_498 ?_
    refine va_sld F.1 F.2.1 hX hbl hbA hr.2.1 hin2 dL_law_499 ?_
    rw [hva2]
    refine lv_if_eq (tgt := 507) F.1 F.2.1 dL_law_500 (by decide) (fun _ => ?_) (fun hc => absurd c1 hc)
    refine lv_iconst (v := (0 : Int32)) F.1 F.2.1 dL_law_507 (by decide) ?_
    replace h := zc_some h
    obtain ⟨r6, z7, hc8, h⟩ := h
    refine zr_calli (zrun_V (As := [.int (sc 1), .int (0 : Int32)]) (rest := []) zq_2537 zq_2538 zs_X19_link zq_2540 zq_4 hdX19_link (by decide) (T := TX19) (N := 32) rfl (okX19_link l D cy B ids hst N 0 h19 (sc 1)  (0 : Int32)  hr.2.2 hc8) F hr h19 hl.1 rfl (by decide) dL_law_508 rfl rfl hroL_X19_link hg4) F hA hr (fun H locs hw9 hr => ?_)
    clear hc8
    refine lv_istore (lv' := [(6, .int r6), (5, .int k2), (0, .ref b), (1, .ref (B 11 0)), (2, .ref (B 19 0)), (3, .ref (B 193 0)), (4, .int x4)]) F.1 F.2.1 dL_law_511 hl (by decide) rfl (fun ls hl => ?_)
    refine lv_aload_n F.1 F.2.1 dL_law_513 rfl (lv_at hl 4 rfl) ?_
    replace h := zc_some h
    obtain ⟨r10, z11, hc12, h⟩ := h
    refine zr_calli (zrun_V (As := []) (rest := []) zq_1982 zq_1983 zs_X19_thrown zq_1985 zq_4 hdX19_thrown (by decide) (T := TX19) (N := 32) rfl (okX19_thrown l D cy B ids hst N 0 h19 hr.2.2 hc12) F hr h19 hl.1 rfl (by decide) dL_law_514 rfl rfl hroL_X19_thrown hg4) F hA hr (fun H locs hw13 hr => ?_)
    clear hc12
    refine lv_iload F.1 F.2.1 dL_law_517 (lv_at hl 1 rfl) ?_
    refine lv_icmp_eq (tgt := 524) F.1 F.2.1 dL_law_519 (by decide) (fun c14 => ?_) (fun c14 => ?_)
    · replace h := zi_t c14 h
      refine lv_iload F.1 F.2.1 dL_law_524 (lv_at hl 1 rfl) ?_
      refine lv_if_ne (tgt := 548) F.1 F.2.1 dL_law_526 (by decide) (fun c15 => ?_) (fun c15 => ?_)
      · replace h := zi_t c15 h
        refine lv_goto (tgt := 2079) F.1 F.2.1 dL_law_548 (by decide) ?_
        obtain ⟨rfl, rfl, rfl, rfl⟩ := zret4 h
        exact K _ H locs ls hst h9 F h11 h19 h193 hg4 hr (lv_sub hl [2, 3, 4, 5, 6] rfl)
      · replace h := zi_f (fun q => q c15) h
        refine lv_aload_n F.1 F.2.1 dL_law_529 rfl (lv_at hl 5 rfl) ?_
        refine lv_iconst (v := (0 : Int32)) F.1 F.2.1 dL_law_530 (by decide) ?_
        refine zr_lald (k := 193) (by decide) rfl (by decide) F h193 hr dL_law_531 (by unfold vp_in; decide) ?_
        refine lv_iload F.1 F.2.1 dL_law_532 (lv_at hl 0 rfl) ?_
        refine lv_if_eq (tgt := 541) F.1 F.2.1 dL_law_534 (by decide) (fun c17 => ?_) (fun c17 => ?_)
        · replace h := zi_t c17 h
          refine lv_lconst (v := (0 : Int64)) F.1 F.2.1 dL_law_541 (by decide) ?_
          refine W.lcmp F.1 F.2.1 dL_law_542 ?_
          refine lv_if_eq (tgt := 548) F.1 F.2.1 dL_law_543 (by decide) (fun c18 => ?_) (fun c18 => ?_)
          · replace h := zi_t c18 h
            refine lv_goto (tgt := 2079) F.1 F.2.1 dL_law_548 (by decide) ?_
            obtain ⟨rfl, rfl, rfl, rfl⟩ := zret4 h
            exact K _ H locs ls hst h9 F h11 h19 h193 hg4 hr (lv_sub hl [2, 3, 4, 5, 6] rfl)
          · replace h := zi_f c18 h
            refine lv_iconst (v := (0 : Int32)) F.1 F.2.1 dL_law_546 (by decide) ?_
            cases h
        · replace h := zi_f c17 h
          refine lv_lconst (v := (1 : Int64)) F.1 F.2.1 dL_law_537 (by decide) ?_
          refine lv_goto (tgt := 542) F.1 F.2.1 dL_law_538 (by decide) ?_
          refine W.lcmp F.1 F.2.1 dL_law_542 ?_
          refine lv_if_eq (tgt := 548) F.1 F.2.1 dL_law_543 (by decide) (fun c19 => ?_) (fun c19 => ?_)
          · replace h := zi_t c19 h
            refine lv_goto (tgt := 2079) F.1 F.2.1 dL_law_548 (by decide) ?_
            obtain ⟨rfl, rfl, rfl, rfl⟩ := zret4 h
            exact K _ H locs ls hst h9 F h11 h19 h193 hg4 hr (lv_sub hl [2, 3, 4, 5, 6] rfl)
          · replace h := zi_f c19 h
            refine lv_iconst (v := (0 : Int32)) F.1 F.2.1 dL_law_546 (by decide) ?_
            cases h
    · replace h := zi_f c14 h
      refine lv_iconst (v := (0 : Int32)) F.1 F.2.1 dL_law_522 (by decide) ?_
      cases h
  · replace h := zi_f c1 h
    refine lv_iconst (v := (1 : Int32)) F.1 F.2.1 dL_law_476 (by decide) ?_
    refine lv_goto (tgt := 481) F.1 F.2.1 dL_law_477 (by decide) ?_
    refine lv_aload_n F.1 F.2.1 dL_law_481 rfl (lv_at hl 3 rfl) ?_
    replace h := zqc_some h
    obtain ⟨hg22, h⟩ := h
    replace h := zc_some h
    obtain ⟨k20, z21, hc23, h⟩ := h
    refine zr_callLi (zrun_L hXK hLK hA (As := [.ref (B 11 0), .int (sc 1), .int (1 : Int32), .ref (B 193 0)]) (rest := []) zq_992 zq_993 zq_994 zq_0 hdL_link (okL_link l hlf D cy B ids hst N 0 h11 (sc 1) (1 : Int32) 0 h193 hr.2.2 hc23) F hr hl.1 rfl (by decide) dL_law_482 hroL_L_link hg22) F hA hr (fun H locs hr => ?_)
    refine lv_istore (lv' := [(5, .int k20), (0, .ref b), (1, .ref (B 11 0)), (2, .ref (B 19 0)), (3, .ref (B 193 0)), (4, .int x4)]) F.1 F.2.1 dL_law_485 hl (by decide) rfl (fun ls hl => ?_)
    refine lv_aload_n F.1 F.2.1 dL_law_487 rfl (lv_at hl 3 rfl) ?_
    refine lv_aload_n F.1 F.2.1 dL_law_488 rfl (lv_at hl 1 rfl) ?_
    refine lv_iload F.1 F.2.1 dL_law_489 (lv_at hl 5 rfl) ?_
    refine lv_iconst (v := (1 : Int32)) F.1 F.2.1 dL_law_491 (by decide) ?_
    refine lv_iadd F.1 F.2.1 dL_law_492 ?_
    refine va_sld F.1 F.2.1 hX hbl hbA hr.2.1 hin1 dL_law_493 ?_
    rw [hva1]
    refine lv_aload_n F.1 F.2.1 dL_law_494 rfl (lv_at hl 1 rfl) ?_
    refine lv_iload F.1 F.2.1 dL_law_495 (lv_at hl 5 rfl) ?_
    refine lv_iconst (v := (2 : Int32)) F.1 F.2.1 dL_law_497 (by decide) ?_
    refine lv_iadd F.1 F.2.1 dL_law_498 ?_
    refine va_sld F.1 F.2.1 hX hbl hbA hr.2.1 hin2 dL_law_499 ?_
    rw [hva2]
    refine lv_if_eq (tgt := 507) F.1 F.2.1 dL_law_500 (by decide) (fun hc => absurd hc c1) (fun _ => ?_)
    refine lv_iconst (v := (1 : Int32)) F.1 F.2.1 dL_law_503 (by decide) ?_
    refine lv_goto (tgt := 508) F.1 F.2.1 dL_law_504 (by decide) ?_
    replace h := zc_some h
    obtain ⟨r24, z25, hc26, h⟩ := h
    refine zr_calli (zrun_V (As := [.int (sc 1), .int (1 : Int32)]) (rest := []) zq_2537 zq_2538 zs_X19_link zq_2540 zq_4 hdX19_link (by decide) (T := TX19) (N := 32) rfl (okX19_link l D cy B ids hst N 0 h19 (sc 1)  (1 : Int32)  hr.2.2 hc26) F hr h19 hl.1 rfl (by decide) dL_law_508 rfl rfl hroL_X19_link hg22) F hA hr (fun H locs hw27 hr => ?_)
    clear hc26
    refine lv_istore (lv' := [(6, .int r24), (5, .int k20), (0, .ref b), (1, .ref (B 11 0)), (2, .ref (B 19 0)), (3, .ref (B 193 0)), (4, .int x4)]) F.1 F.2.1 dL_law_511 hl (by decide) rfl (fun ls hl => ?_)
    refine lv_aload_n F.1 F.2.1 dL_law_513 rfl (lv_at hl 4 rfl) ?_
    replace h := zc_some h
    obtain ⟨r28, z29, hc30, h⟩ := h
    refine zr_calli (zrun_V (As := []) (rest := []) zq_1982 zq_1983 zs_X19_thrown zq_1985 zq_4 hdX19_thrown (by decide) (T := TX19) (N := 32) rfl (okX19_thrown l D cy B ids hst N 0 h19 hr.2.2 hc30) F hr h19 hl.1 rfl (by decide) dL_law_514 rfl rfl hroL_X19_thrown hg22) F hA hr (fun H locs hw31 hr => ?_)
    clear hc30
    refine lv_iload F.1 F.2.1 dL_law_517 (lv_at hl 1 rfl) ?_
    refine lv_icmp_eq (tgt := 524) F.1 F.2.1 dL_law_519 (by decide) (fun c32 => ?_) (fun c32 => ?_)
    · replace h := zi_t c32 h
      refine lv_iload F.1 F.2.1 dL_law_524 (lv_at hl 1 rfl) ?_
      refine lv_if_ne (tgt := 548) F.1 F.2.1 dL_law_526 (by decide) (fun c33 => ?_) (fun c33 => ?_)
      · replace h := zi_t c33 h
        refine lv_goto (tgt := 2079) F.1 F.2.1 dL_law_548 (by decide) ?_
        obtain ⟨rfl, rfl, rfl, rfl⟩ := zret4 h
        exact K _ H locs ls hst h9 F h11 h19 h193 hg22 hr (lv_sub hl [2, 3, 4, 5, 6] rfl)
      · replace h := zi_f (fun q => q c33) h
        refine lv_aload_n F.1 F.2.1 dL_law_529 rfl (lv_at hl 5 rfl) ?_
        refine lv_iconst (v := (0 : Int32)) F.1 F.2.1 dL_law_530 (by decide) ?_
        refine zr_lald (k := 193) (by decide) rfl (by decide) F h193 hr dL_law_531 (by unfold vp_in; decide) ?_
        refine lv_iload F.1 F.2.1 dL_law_532 (lv_at hl 0 rfl) ?_
        refine lv_if_eq (tgt := 541) F.1 F.2.1 dL_law_534 (by decide) (fun c35 => ?_) (fun c35 => ?_)
        · replace h := zi_t c35 h
          refine lv_lconst (v := (0 : Int64)) F.1 F.2.1 dL_law_541 (by decide) ?_
          refine W.lcmp F.1 F.2.1 dL_law_542 ?_
          refine lv_if_eq (tgt := 548) F.1 F.2.1 dL_law_543 (by decide) (fun c36 => ?_) (fun c36 => ?_)
          · replace h := zi_t c36 h
            refine lv_goto (tgt := 2079) F.1 F.2.1 dL_law_548 (by decide) ?_
            obtain ⟨rfl, rfl, rfl, rfl⟩ := zret4 h
            exact K _ H locs ls hst h9 F h11 h19 h193 hg22 hr (lv_sub hl [2, 3, 4, 5, 6] rfl)
          · replace h := zi_f c36 h
            refine lv_iconst (v := (0 : Int32)) F.1 F.2.1 dL_law_546 (by decide) ?_
            cases h
        · replace h := zi_f c35 h
          refine lv_lconst (v := (1 : Int64)) F.1 F.2.1 dL_law_537 (by decide) ?_
          refine lv_goto (tgt := 542) F.1 F.2.1 dL_law_538 (by decide) ?_
          refine W.lcmp F.1 F.2.1 dL_law_542 ?_
          refine lv_if_eq (tgt := 548) F.1 F.2.1 dL_law_543 (by decide) (fun c37 => ?_) (fun c37 => ?_)
          · replace h := zi_t c37 h
            refine lv_goto (tgt := 2079) F.1 F.2.1 dL_law_548 (by decide) ?_
            obtain ⟨rfl, rfl, rfl, rfl⟩ := zret4 h
            exact K _ H locs ls hst h9 F h11 h19 h193 hg22 hr (lv_sub hl [2, 3, 4, 5, 6] rfl)
          · replace h := zi_f c37 h
            refine lv_iconst (v := (0 : Int32)) F.1 F.2.1 dL_law_546 (by decide) ?_
            cases h
    · replace h := zi_f c32 h
      refine lv_iconst (v := (0 : Int32)) F.1 F.2.1 dL_law_522 (by decide) ?_
      cases h
noncomputable def fLaw_5 (N : Nat) (sc : Nat → Int32) (ids : List (Nat × Nat)) (cc ss : Nat) (z : St) : Option (St × List (Nat × Nat) × Nat × Nat) := zqc ((cc + (rmL_fates).cells) ≤ room_1.cells ∧ (ss + (rmL_fates).slots) ≤ room_1.slots) <| zc (fL_fates N 0 (sc 1) (((Int32.toInt64 (sc 2)) <<< (((32 : Int32)).toInt64 &&& 63)) ||| ((Int32.toInt64 (sc 3)) &&& (4294967295 : Int64))) (sc 4) 0 z) fun k1 z2 => zc (fX19_fates N 0 (sc 1) (((Int32.toInt64 (sc 2)) <<< (((32 : Int32)).toInt64 &&& 63)) ||| ((Int32.toInt64 (sc 3)) &&& (4294967295 : Int64))) (sc 4) z2) fun r5 z6 => zc (fX19_thrown N 0 z6) fun r9 z10 => if r9 = k1 then (if ¬ k1 = 0 then (some (z10, ids, (cc + (rmL_fates).cells), (ss + (rmL_fates).slots))) else (if (lg_cmp (zgL z10 193 0 (Int32.toNatClampNeg (0 : Int32))) (Int32.toInt64 r5)) = 0 then (some (z10, ids, (cc + (rmL_fates).cells), (ss + (rmL_fates).slots))) else (none))) else (none)
set_option maxHeartbeats 8000000 in
set_option maxRecDepth 100000 in
theorem cLaw_5 (hst : zSt B ids) (h9 : zI9 ids) (F : zFx p m c cL_law 7 s args RL D cy B ids A) (hA : ∀ q : Nat, s.heap.size ≤ q → A q) (hlf : l.stackTraces = false) (hXK : zXK A s s.heap) (hLK : zLK s) (hAO : zAO s) (hX : va_X b L xs s s.heap) (hbl : b < s.heap.size) (hbA : ¬ A b) (h11 : (11, 0) ∈ ids) (h19 : (19, 0) ∈ ids) (h193 : (193, 0) ∈ ids) {N : Nat} {sc : Nat → Int32} {x4 : Int32} (hin0 : vp_in x4 L) (hva0 : xs (Int32.toNatClampNeg x4) = sc 0) (hin1 : vp_in (x4 + (1 : Int32)) L) (hva1 : xs (Int32.toNatClampNeg (x4 + (1 : Int32))) = sc 1) (hin2 : vp_in (x4 + (2 : Int32)) L) (hva2 : xs (Int32.toNatClampNeg (x4 + (2 : Int32))) = sc 2) (hin3 : vp_in (x4 + (3 : Int32)) L) (hva3 : xs (Int32.toNatClampNeg (x4 + (3 : Int32))) = sc 3) (hin4 : vp_in (x4 + (4 : Int32)) L) (hva4 : xs (Int32.toNatClampNeg (x4 + (4 : Int32))) = sc 4) (hin5 : vp_in (x4 + (5 : Int32)) L) (hva5 : xs (Int32.toNatClampNeg (x4 + (5 : Int32))) = sc 5) {cc ss : Nat} (hcs : cc ≤ room_1.cells ∧ ss ≤ room_1.slots) {z z' : St} {I' : List (Nat × Nat)} {c' s' : Nat} {H : Heap} {locs : List Loc} {ls : Array Slot} (hr : zRep D cy B ids A s.heap z H locs) (hl : lv_has ls 7 [(0, .ref b), (1, .ref (B 11 0)), (2, .ref (B 19 0)), (3, .ref (B 193 0)), (4, .int x4)])
    (K : ∀ (B1 : Nat → Nat → Nat) (H : Heap) (locs : List Loc) (ls : Array Slot), zSt B1 I' → zI9 I' → zFx p m c cL_law 7 s args RL D cy B1 I' A → (11, 0) ∈ I' → (19, 0) ∈ I' → (193, 0) ∈ I' → c' ≤ room_1.cells ∧ s' ≤ room_1.slots → zRep D cy B1 I' A s.heap z' H locs → lv_has ls 7 [(0, .ref b), (1, .ref (B1 11 0)), (2, .ref (B1 19 0)), (3, .ref (B1 193 0)), (4, .int x4)] → W p l e room_1 s m args below meth c H locs c' s' Q (F0 m 2079 ls []))
    (h : fLaw_5 N sc ids cc ss z = some (z', I', c', s')) : W p l e room_1 s m args below meth c H locs cc ss Q (F0 m 551 ls []) := by
  unfold fLaw_5 at h
  refine lv_aload_n F.1 F.2.1 dL_law_551 rfl (lv_at hl 1 rfl) ?_
  refine lv_aload_n F.1 F.2.1 dL_law_552 rfl (lv_at hl 0 rfl) ?_
  refine lv_iload F.1 F.2.1 dL_law_553 (lv_at hl 4 rfl) ?_
  refine lv_iconst (v := (1 : Int32)) F.1 F.2.1 dL_law_555 (by decide) ?_
  refine lv_iadd F.1 F.2.1 dL_law_556 ?_
  refine va_sld F.1 F.2.1 hX hbl hbA hr.2.1 hin1 dL_law_557 ?_
  rw [hva1]
  refine lv_aload_n F.1 F.2.1 dL_law_558 rfl (lv_at hl 0 rfl) ?_
  refine lv_iload F.1 F.2.1 dL_law_559 (lv_at hl 4 rfl) ?_
  refine lv_iconst (v := (2 : Int32)) F.1 F.2.1 dL_law_561 (by decide) ?_
  refine lv_iadd F.1 F.2.1 dL_law_562 ?_
  refine va_sld F.1 F.2.1 hX hbl hbA hr.2.1 hin2 dL_law_563 ?_
  rw [hva2]
  refine lv_i2l F.1 F.2.1 dL_law_564 rfl ?_
  refine lv_bipush (v := (32 : Int32)) F.1 F.2.1 dL_law_565 (by decide) ?_
  refine lv_lshl F.1 F.2.1 dL_law_567 rfl ?_
  refine lv_aload_n F.1 F.2.1 dL_law_568 rfl (lv_at hl 0 rfl) ?_
  refine lv_iload F.1 F.2.1 dL_law_569 (lv_at hl 4 rfl) ?_
  refine lv_iconst (v := (3 : Int32)) F.1 F.2.1 dL_law_571 (by decide) ?_
  refine lv_iadd F.1 F.2.1 dL_law_572 ?_
  refine va_sld F.1 F.2.1 hX hbl hbA hr.2.1 hin3 dL_law_573 ?_
  rw [hva3]
  refine lv_i2l F.1 F.2.1 dL_law_574 rfl ?_
  refine lv_ldc2 (v := (4294967295)) F.1 F.2.1 F.2.2.2.1 (F.2.2.2.2.1 _ zq_3153) dL_law_575 ?_
  refine lv_land F.1 F.2.1 dL_law_578 ?_
  refine lv_lor F.1 F.2.1 dL_law_579 ?_
  refine lv_aload_n F.1 F.2.1 dL_law_580 rfl (lv_at hl 0 rfl) ?_
  refine lv_iload F.1 F.2.1 dL_law_581 (lv_at hl 4 rfl) ?_
  refine lv_iconst (v := (4 : Int32)) F.1 F.2.1 dL_law_583 (by decide) ?_
  refine lv_iadd F.1 F.2.1 dL_law_584 ?_
  refine va_sld F.1 F.2.1 hX hbl hbA hr.2.1 hin4 dL_law_585 ?_
  rw [hva4]
  refine lv_aload_n F.1 F.2.1 dL_law_586 rfl (lv_at hl 3 rfl) ?_
  replace h := zqc_some h
  obtain ⟨hg3, h⟩ := h
  replace h := zc_some h
  obtain ⟨k1, z2, hc4, h⟩ := h
  refine zr_callLi (zrun_L hXK hLK hA (As := [.ref (B 11 0), .int (sc 1), .long (((Int32.toInt64 (sc 2)) <<< (((32 : Int32)).toInt64 &&& 63)) ||| ((Int32.toInt64 (sc 3)) &&& (4294967295 : Int64))), .int (sc 4), .ref (B 193 0)]) (rest := []) zq_1012 zq_1013 zq_1014 zq_0 hdL_fates (okL_fates l hlf D cy B ids hst N 0 h11 (sc 1) (((Int32.toInt64 (sc 2)) <<< (((32 : Int32)).toInt64 &&& 63)) ||| ((Int32.toInt64 (sc 3)) &&& (4294967295 : Int64))) (sc 4) 0 h193 hr.2.2 hc4) F hr hl.1 rfl (by decide) dL_law_587 hroL_L_fates hg3) F hA hr (fun H locs hr => ?_)
  refine lv_istore (lv' := [(5, .int k1), (0, .ref b), (1, .ref (B 11 0)), (2, .ref (B 19 0)), (3, .ref (B 193 0)), (4, .int x4)]) F.1 F.2.1 dL_law_590 hl (by decide) rfl (fun ls hl => ?_)
  refine lv_aload_n F.1 F.2.1 dL_law_592 rfl (lv_at hl 3 rfl) ?_
  refine lv_aload_n F.1 F.2.1 dL_law_593 rfl (lv_at hl 1 rfl) ?_
  refine lv_iload F.1 F.2.1 dL_law_594 (lv_at hl 5 rfl) ?_
  refine lv_iconst (v := (1 : Int32)) F.1 F.2.1 dL_law_596 (by decide) ?_
  refine lv_iadd F.1 F.2.1 dL_law_597 ?_
  refine va_sld F.1 F.2.1 hX hbl hbA hr.2.1 hin1 dL_law_598 ?_
  rw [hva1]
  refine lv_aload_n F.1 F.2.1 dL_law_599 rfl (lv_at hl 1 rfl) ?_
  refine lv_iload F.1 F.2.1 dL_law_600 (lv_at hl 5 rfl) ?_
  refine lv_iconst (v := (2 : Int32)) F.1 F.2.1 dL_law_602 (by decide) ?_
  refine lv_iadd F.1 F.2.1 dL_law_603 ?_
  refine va_sld F.1 F.2.1 hX hbl hbA hr.2.1 hin2 dL_law_604 ?_
  rw [hva2]
  refine lv_i2l F.1 F.2.1 dL_law_605 rfl ?_
  refine lv_bipush (v := (32 : Int32)) F.1 F.2.1 dL_law_606 (by decide) ?_
  refine lv_lshl F.1 F.2.1 dL_law_608 rfl ?_
  refine lv_aload_n F.1 F.2.1 dL_law_609 rfl (lv_at hl 1 rfl) ?_
  refine lv_iload F.1 F.2.1 dL_law_610 (lv_at hl 5 rfl) ?_
  refine lv_iconst (v := (3 : Int32)) F.1 F.2.1 dL_law_612 (by decide) ?_
  refine lv_iadd F.1 F.2.1 dL_law_613 ?_
  refine va_sld F.1 F.2.1 hX hbl hbA hr.2.1 hin3 dL_law_614 ?_
  rw [hva3]
  refine lv_i2l F.1 F.2.1 dL_law_615 rfl ?_
  refine lv_ldc2 (v := (4294967295)) F.1 F.2.1 F.2.2.2.1 (F.2.2.2.2.1 _ zq_3153) dL_law_616 ?_
  refine lv_land F.1 F.2.1 dL_law_619 ?_
  refine lv_lor F.1 F.2.1 dL_law_620 ?_
  refine lv_aload_n F.1 F.2.1 dL_law_621 rfl (lv_at hl 1 rfl) ?_
  refine lv_iload F.1 F.2.1 dL_law_622 (lv_at hl 5 rfl) ?_
  refine lv_iconst (v := (4 : Int32)) F.1 F.2.1 dL_law_624 (by decide) ?_
  refine lv_iadd F.1 F.2.1 dL_law_625 ?_
  refine va_sld F.1 F.2.1 hX hbl hbA hr.2.1 hin4 dL_law_626 ?_
  rw [hva4]
  replace h := zc_some h
  obtain ⟨r5, z6, hc7, h⟩ := h
  refine zr_calli (zrun_V (As := [.int (sc 1), .long (((Int32.toInt64 (sc 2)) <<< (((32 : Int32)).toInt64 &&& 63)) ||| ((Int32.toInt64 (sc 3)) &&& (4294967295 : Int64))), .int (sc 4)]) (rest := []) zq_2569 zq_2570 zs_X19_fates zq_2572 zq_4 hdX19_fates (by decide) (T := TX19) (N := 32) rfl (okX19_fates l D cy B ids hst N 0 h19 (sc 1)  (((Int32.toInt64 (sc 2)) <<< (((32 : Int32)).toInt64 &&& 63)) ||| ((Int32.toInt64 (sc 3)) &&& (4294967295 : Int64)))  (sc 4)  hr.2.2 hc7) F hr h19 hl.1 rfl (by decide) dL_law_627 rfl rfl hroL_X19_fates hg3) F hA hr (fun H locs hw8 hr => ?_)
  clear hc7
  refine lv_istore (lv' := [(6, .int r5), (5, .int k1), (0, .ref b), (1, .ref (B 11 0)), (2, .ref (B 19 0)), (3, .ref (B 193 0)), (4, .int x4)]) F.1 F.2.1 dL_law_630 hl (by decide) rfl (fun ls hl => ?_)
  refine lv_aload_n F.1 F.2.1 dL_law_632 rfl (lv_at hl 4 rfl) ?_
  replace h := zc_some h
  obtain ⟨r9, z10, hc11, h⟩ := h
  refine zr_calli (zrun_V (As := []) (rest := []) zq_1982 zq_1983 zs_X19_thrown zq_1985 zq_4 hdX19_thrown (by decide) (T := TX19) (N := 32) rfl (okX19_thrown l D cy B ids hst N 0 h19 hr.2.2 hc11) F hr h19 hl.1 rfl (by decide) dL_law_633 rfl rfl hroL_X19_thrown hg3) F hA hr (fun H locs hw12 hr => ?_)
  clear hc11
  refine lv_iload F.1 F.2.1 dL_law_636 (lv_at hl 1 rfl) ?_
  refine lv_icmp_eq (tgt := 643) F.1 F.2.1 dL_law_638 (by decide) (fun c13 => ?_) (fun c13 => ?_)
  · replace h := zi_t c13 h
    refine lv_iload F.1 F.2.1 dL_law_643 (lv_at hl 1 rfl) ?_
    refine lv_if_ne (tgt := 660) F.1 F.2.1 dL_law_645 (by decide) (fun c14 => ?_) (fun c14 => ?_)
    · replace h := zi_t c14 h
      refine lv_goto (tgt := 2079) F.1 F.2.1 dL_law_660 (by decide) ?_
      obtain ⟨rfl, rfl, rfl, rfl⟩ := zret4 h
      exact K _ H locs ls hst h9 F h11 h19 h193 hg3 hr (lv_sub hl [2, 3, 4, 5, 6] rfl)
    · replace h := zi_f (fun q => q c14) h
      refine lv_aload_n F.1 F.2.1 dL_law_648 rfl (lv_at hl 5 rfl) ?_
      refine lv_iconst (v := (0 : Int32)) F.1 F.2.1 dL_law_649 (by decide) ?_
      refine zr_lald (k := 193) (by decide) rfl (by decide) F h193 hr dL_law_650 (by unfold vp_in; decide) ?_
      refine lv_iload F.1 F.2.1 dL_law_651 (lv_at hl 0 rfl) ?_
      refine lv_i2l F.1 F.2.1 dL_law_653 rfl ?_
      refine W.lcmp F.1 F.2.1 dL_law_654 ?_
      refine lv_if_eq (tgt := 660) F.1 F.2.1 dL_law_655 (by decide) (fun c16 => ?_) (fun c16 => ?_)
      · replace h := zi_t c16 h
        refine lv_goto (tgt := 2079) F.1 F.2.1 dL_law_660 (by decide) ?_
        obtain ⟨rfl, rfl, rfl, rfl⟩ := zret4 h
        exact K _ H locs ls hst h9 F h11 h19 h193 hg3 hr (lv_sub hl [2, 3, 4, 5, 6] rfl)
      · replace h := zi_f c16 h
        refine lv_iconst (v := (0 : Int32)) F.1 F.2.1 dL_law_658 (by decide) ?_
        cases h
  · replace h := zi_f c13 h
    refine lv_iconst (v := (0 : Int32)) F.1 F.2.1 dL_law_641 (by decide) ?_
    cases h
noncomputable def fLaw_6 (N : Nat) (sc : Nat → Int32) (ids : List (Nat × Nat)) (cc ss : Nat) (z : St) : Option (St × List (Nat × Nat) × Nat × Nat) := zqc ((cc + (rmL_run).cells) ≤ room_1.cells ∧ (ss + (rmL_run).slots) ≤ room_1.slots) <| zc (fL_run N 0 (sc 1) 0 z) fun k1 z2 => zc (fX19_run N 0 (sc 1) z2) fun r5 z6 => zc (fX19_thrown N 0 z6) fun r9 z10 => if r9 = k1 then (if ¬ k1 = 0 then (some (z10, ids, (cc + (rmL_run).cells), (ss + (rmL_run).slots))) else (if (lg_cmp (zgL z10 193 0 (Int32.toNatClampNeg (0 : Int32))) (Int32.toInt64 r5)) = 0 then (some (z10, ids, (cc + (rmL_run).cells), (ss + (rmL_run).slots))) else (none))) else (none)
set_option maxHeartbeats 8000000 in
set_option maxRecDepth 100000 in
theorem cLaw_6 (hst : zSt B ids) (h9 : zI9 ids) (F : zFx p m c cL_law 7 s args RL D cy B ids A) (hA : ∀ q : Nat, s.heap.size ≤ q → A q) (hlf : l.stackTraces = false) (hXK : zXK A s s.heap) (hLK : zLK s) (hAO : zAO s) (hX : va_X b L xs s s.heap) (hbl : b < s.heap.size) (hbA : ¬ A b) (h11 : (11, 0) ∈ ids) (h19 : (19, 0) ∈ ids) (h193 : (193, 0) ∈ ids) {N : Nat} {sc : Nat → Int32} {x4 : Int32} (hin0 : vp_in x4 L) (hva0 : xs (Int32.toNatClampNeg x4) = sc 0) (hin1 : vp_in (x4 + (1 : Int32)) L) (hva1 : xs (Int32.toNatClampNeg (x4 + (1 : Int32))) = sc 1) (hin2 : vp_in (x4 + (2 : Int32)) L) (hva2 : xs (Int32.toNatClampNeg (x4 + (2 : Int32))) = sc 2) (hin3 : vp_in (x4 + (3 : Int32)) L) (hva3 : xs (Int32.toNatClampNeg (x4 + (3 : Int32))) = sc 3) (hin4 : vp_in (x4 + (4 : Int32)) L) (hva4 : xs (Int32.toNatClampNeg (x4 + (4 : Int32))) = sc 4) (hin5 : vp_in (x4 + (5 : Int32)) L) (hva5 : xs (Int32.toNatClampNeg (x4 + (5 : Int32))) = sc 5) {cc ss : Nat} (hcs : cc ≤ room_1.cells ∧ ss ≤ room_1.slots) {z z' : St} {I' : List (Nat × Nat)} {c' s' : Nat} {H : Heap} {locs : List Loc} {ls : Array Slot} (hr : zRep D cy B ids A s.heap z H locs) (hl : lv_has ls 7 [(0, .ref b), (1, .ref (B 11 0)), (2, .ref (B 19 0)), (3, .ref (B 193 0)), (4, .int x4)])
    (K : ∀ (B1 : Nat → Nat → Nat) (H : Heap) (locs : List Loc) (ls : Array Slot), zSt B1 I' → zI9 I' → zFx p m c cL_law 7 s args RL D cy B1 I' A → (11, 0) ∈ I' → (19, 0) ∈ I' → (193, 0) ∈ I' → c' ≤ room_1.cells ∧ s' ≤ room_1.slots → zRep D cy B1 I' A s.heap z' H locs → lv_has ls 7 [(0, .ref b), (1, .ref (B1 11 0)), (2, .ref (B1 19 0)), (3, .ref (B1 193 0)), (4, .int x4)] → W p l e room_1 s m args below meth c H locs c' s' Q (F0 m 2079 ls []))
    (h : fLaw_6 N sc ids cc ss z = some (z', I', c', s')) : W p l e room_1 s m args below meth c H locs cc ss Q (F0 m 663 ls []) := by
  unfold fLaw_6 at h
  refine lv_aload_n F.1 F.2.1 dL_law_663 rfl (lv_at hl 1 rfl) ?_
  refine lv_aload_n F.1 F.2.1 dL_law_664 rfl (lv_at hl 0 rfl) ?_
  refine lv_iload F.1 F.2.1 dL_law_665 (lv_at hl 4 rfl) ?_
  refine lv_iconst (v := (1 : Int32)) F.1 F.2.1 dL_law_667 (by decide) ?_
  refine lv_iadd F.1 F.2.1 dL_law_668 ?_
  refine va_sld F.1 F.2.1 hX hbl hbA hr.2.1 hin1 dL_law_669 ?_
  rw [hva1]
  refine lv_aload_n F.1 F.2.1 dL_law_670 rfl (lv_at hl 3 rfl) ?_
  replace h := zqc_some h
  obtain ⟨hg3, h⟩ := h
  replace h := zc_some h
  obtain ⟨k1, z2, hc4, h⟩ := h
  refine zr_callLi (zrun_L hXK hLK hA (As := [.ref (B 11 0), .int (sc 1), .ref (B 193 0)]) (rest := []) zq_1025 zq_1026 zq_1027 zq_0 hdL_run (okL_run l hlf D cy B ids hst N 0 h11 (sc 1) 0 h193 hr.2.2 hc4) F hr hl.1 rfl (by decide) dL_law_671 hroL_L_run hg3) F hA hr (fun H locs hr => ?_)
  refine lv_istore (lv' := [(5, .int k1), (0, .ref b), (1, .ref (B 11 0)), (2, .ref (B 19 0)), (3, .ref (B 193 0)), (4, .int x4)]) F.1 F.2.1 dL_law_674 hl (by decide) rfl (fun ls hl => ?_)
  refine lv_aload_n F.1 F.2.1 dL_law_676 rfl (lv_at hl 3 rfl) ?_
  refine lv_aload_n F.1 F.2.1 dL_law_677 rfl (lv_at hl 1 rfl) ?_
  refine lv_iload F.1 F.2.1 dL_law_678 (lv_at hl 5 rfl) ?_
  refine lv_iconst (v := (1 : Int32)) F.1 F.2.1 dL_law_680 (by decide) ?_
  refine lv_iadd F.1 F.2.1 dL_law_681 ?_
  refine va_sld F.1 F.2.1 hX hbl hbA hr.2.1 hin1 dL_law_682 ?_
  rw [hva1]
  replace h := zc_some h
  obtain ⟨r5, z6, hc7, h⟩ := h
  refine zr_calli (zrun_V (As := [.int (sc 1)]) (rest := []) zq_2574 zq_2575 zs_X19_run zq_2577 zq_4 hdX19_run (by decide) (T := TX19) (N := 32) rfl (okX19_run l D cy B ids hst N 0 h19 (sc 1)  hr.2.2 hc7) F hr h19 hl.1 rfl (by decide) dL_law_683 rfl rfl hroL_X19_run hg3) F hA hr (fun H locs hw8 hr => ?_)
  clear hc7
  refine lv_istore (lv' := [(6, .int r5), (5, .int k1), (0, .ref b), (1, .ref (B 11 0)), (2, .ref (B 19 0)), (3, .ref (B 193 0)), (4, .int x4)]) F.1 F.2.1 dL_law_686 hl (by decide) rfl (fun ls hl => ?_)
  refine lv_aload_n F.1 F.2.1 dL_law_688 rfl (lv_at hl 4 rfl) ?_
  replace h := zc_some h
  obtain ⟨r9, z10, hc11, h⟩ := h
  refine zr_calli (zrun_V (As := []) (rest := []) zq_1982 zq_1983 zs_X19_thrown zq_1985 zq_4 hdX19_thrown (by decide) (T := TX19) (N := 32) rfl (okX19_thrown l D cy B ids hst N 0 h19 hr.2.2 hc11) F hr h19 hl.1 rfl (by decide) dL_law_689 rfl rfl hroL_X19_thrown hg3) F hA hr (fun H locs hw12 hr => ?_)
  clear hc11
  refine lv_iload F.1 F.2.1 dL_law_692 (lv_at hl 1 rfl) ?_
  refine lv_icmp_eq (tgt := 699) F.1 F.2.1 dL_law_694 (by decide) (fun c13 => ?_) (fun c13 => ?_)
  · replace h := zi_t c13 h
    refine lv_iload F.1 F.2.1 dL_law_699 (lv_at hl 1 rfl) ?_
    refine lv_if_ne (tgt := 716) F.1 F.2.1 dL_law_701 (by decide) (fun c14 => ?_) (fun c14 => ?_)
    · replace h := zi_t c14 h
      refine lv_goto (tgt := 2079) F.1 F.2.1 dL_law_716 (by decide) ?_
      obtain ⟨rfl, rfl, rfl, rfl⟩ := zret4 h
      exact K _ H locs ls hst h9 F h11 h19 h193 hg3 hr (lv_sub hl [2, 3, 4, 5, 6] rfl)
    · replace h := zi_f (fun q => q c14) h
      refine lv_aload_n F.1 F.2.1 dL_law_704 rfl (lv_at hl 5 rfl) ?_
      refine lv_iconst (v := (0 : Int32)) F.1 F.2.1 dL_law_705 (by decide) ?_
      refine zr_lald (k := 193) (by decide) rfl (by decide) F h193 hr dL_law_706 (by unfold vp_in; decide) ?_
      refine lv_iload F.1 F.2.1 dL_law_707 (lv_at hl 0 rfl) ?_
      refine lv_i2l F.1 F.2.1 dL_law_709 rfl ?_
      refine W.lcmp F.1 F.2.1 dL_law_710 ?_
      refine lv_if_eq (tgt := 716) F.1 F.2.1 dL_law_711 (by decide) (fun c16 => ?_) (fun c16 => ?_)
      · replace h := zi_t c16 h
        refine lv_goto (tgt := 2079) F.1 F.2.1 dL_law_716 (by decide) ?_
        obtain ⟨rfl, rfl, rfl, rfl⟩ := zret4 h
        exact K _ H locs ls hst h9 F h11 h19 h193 hg3 hr (lv_sub hl [2, 3, 4, 5, 6] rfl)
      · replace h := zi_f c16 h
        refine lv_iconst (v := (0 : Int32)) F.1 F.2.1 dL_law_714 (by decide) ?_
        cases h
  · replace h := zi_f c13 h
    refine lv_iconst (v := (0 : Int32)) F.1 F.2.1 dL_law_697 (by decide) ?_
    cases h
noncomputable def fLaw_7 (N : Nat) (sc : Nat → Int32) (ids : List (Nat × Nat)) (cc ss : Nat) (z : St) : Option (St × List (Nat × Nat) × Nat × Nat) := zqc ((cc + (rmL_listen).cells) ≤ room_1.cells ∧ (ss + (rmL_listen).slots) ≤ room_1.slots) <| zc (fL_listen N 0 (sc 1) (sc 2) (sc 3) 0 z) fun k1 z2 => zc (fX19_listen N 0 (sc 1) (sc 2) (sc 3) z2) fun r5 z6 => zc (fX19_thrown N 0 z6) fun r9 z10 => if r9 = k1 then (if ¬ k1 = 0 then (some (z10, ids, (cc + (rmL_listen).cells), (ss + (rmL_listen).slots))) else (if (lg_cmp (zgL z10 193 0 (Int32.toNatClampNeg (0 : Int32))) (Int32.toInt64 r5)) = 0 then (some (z10, ids, (cc + (rmL_listen).cells), (ss + (rmL_listen).slots))) else (none))) else (none)
set_option maxHeartbeats 8000000 in
set_option maxRecDepth 100000 in
theorem cLaw_7 (hst : zSt B ids) (h9 : zI9 ids) (F : zFx p m c cL_law 7 s args RL D cy B ids A) (hA : ∀ q : Nat, s.heap.size ≤ q → A q) (hlf : l.stackTraces = false) (hXK : zXK A s s.heap) (hLK : zLK s) (hAO : zAO s) (hX : va_X b L xs s s.heap) (hbl : b < s.heap.size) (hbA : ¬ A b) (h11 : (11, 0) ∈ ids) (h19 : (19, 0) ∈ ids) (h193 : (193, 0) ∈ ids) {N : Nat} {sc : Nat → Int32} {x4 : Int32} (hin0 : vp_in x4 L) (hva0 : xs (Int32.toNatClampNeg x4) = sc 0) (hin1 : vp_in (x4 + (1 : Int32)) L) (hva1 : xs (Int32.toNatClampNeg (x4 + (1 : Int32))) = sc 1) (hin2 : vp_in (x4 + (2 : Int32)) L) (hva2 : xs (Int32.toNatClampNeg (x4 + (2 : Int32))) = sc 2) (hin3 : vp_in (x4 + (3 : Int32)) L) (hva3 : xs (Int32.toNatClampNeg (x4 + (3 : Int32))) = sc 3) (hin4 : vp_in (x4 + (4 : Int32)) L) (hva4 : xs (Int32.toNatClampNeg (x4 + (4 : Int32))) = sc 4) (hin5 : vp_in (x4 + (5 : Int32)) L) (hva5 : xs (Int32.toNatClampNeg (x4 + (5 : Int32))) = sc 5) {cc ss : Nat} (hcs : cc ≤ room_1.cells ∧ ss ≤ room_1.slots) {z z' : St} {I' : List (Nat × Nat)} {c' s' : Nat} {H : Heap} {locs : List Loc} {ls : Array Slot} (hr : zRep D cy B ids A s.heap z H locs) (hl : lv_has ls 7 [(0, .ref b), (1, .ref (B 11 0)), (2, .ref (B 19 0)), (3, .ref (B 193 0)), (4, .int x4)])
    (K : ∀ (B1 : Nat → Nat → Nat) (H : Heap) (locs : List Loc) (ls : Array Slot), zSt B1 I' → zI9 I' → zFx p m c cL_law 7 s args RL D cy B1 I' A → (11, 0) ∈ I' → (19, 0) ∈ I' → (193, 0) ∈ I' → c' ≤ room_1.cells ∧ s' ≤ room_1.slots → zRep D cy B1 I' A s.heap z' H locs → lv_has ls 7 [(0, .ref b), (1, .ref (B1 11 0)), (2, .ref (B1 19 0)), (3, .ref (B1 193 0)), (4, .int x4)] → W p l e room_1 s m args below meth c H locs c' s' Q (F0 m 2079 ls []))
    (h : fLaw_7 N sc ids cc ss z = some (z', I', c', s')) : W p l e room_1 s m args below meth c H locs cc ss Q (F0 m 719 ls []) := by
  unfold fLaw_7 at h
  refine lv_aload_n F.1 F.2.1 dL_law_719 rfl (lv_at hl 1 rfl) ?_
  refine lv_aload_n F.1 F.2.1 dL_law_720 rfl (lv_at hl 0 rfl) ?_
  refine lv_iload F.1 F.2.1 dL_law_721 (lv_at hl 4 rfl) ?_
  refine lv_iconst (v := (1 : Int32)) F.1 F.2.1 dL_law_723 (by decide) ?_
  refine lv_iadd F.1 F.2.1 dL_law_724 ?_
  refine va_sld F.1 F.2.1 hX hbl hbA hr.2.1 hin1 dL_law_725 ?_
  rw [hva1]
  refine lv_aload_n F.1 F.2.1 dL_law_726 rfl (lv_at hl 0 rfl) ?_
  refine lv_iload F.1 F.2.1 dL_law_727 (lv_at hl 4 rfl) ?_
  refine lv_iconst (v := (2 : Int32)) F.1 F.2.1 dL_law_729 (by decide) ?_
  refine lv_iadd F.1 F.2.1 dL_law_730 ?_
  refine va_sld F.1 F.2.1 hX hbl hbA hr.2.1 hin2 dL_law_731 ?_
  rw [hva2]
  refine lv_aload_n F.1 F.2.1 dL_law_732 rfl (lv_at hl 0 rfl) ?_
  refine lv_iload F.1 F.2.1 dL_law_733 (lv_at hl 4 rfl) ?_
  refine lv_iconst (v := (3 : Int32)) F.1 F.2.1 dL_law_735 (by decide) ?_
  refine lv_iadd F.1 F.2.1 dL_law_736 ?_
  refine va_sld F.1 F.2.1 hX hbl hbA hr.2.1 hin3 dL_law_737 ?_
  rw [hva3]
  refine lv_aload_n F.1 F.2.1 dL_law_738 rfl (lv_at hl 3 rfl) ?_
  replace h := zqc_some h
  obtain ⟨hg3, h⟩ := h
  replace h := zc_some h
  obtain ⟨k1, z2, hc4, h⟩ := h
  refine zr_callLi (zrun_L hXK hLK hA (As := [.ref (B 11 0), .int (sc 1), .int (sc 2), .int (sc 3), .ref (B 193 0)]) (rest := []) zq_1677 zq_1678 zq_1679 zq_0 hdL_listen (okL_listen l hlf D cy B ids hst N 0 h11 (sc 1) (sc 2) (sc 3) 0 h193 hr.2.2 hc4) F hr hl.1 rfl (by decide) dL_law_739 hroL_L_listen hg3) F hA hr (fun H locs hr => ?_)
  refine lv_istore (lv' := [(5, .int k1), (0, .ref b), (1, .ref (B 11 0)), (2, .ref (B 19 0)), (3, .ref (B 193 0)), (4, .int x4)]) F.1 F.2.1 dL_law_742 hl (by decide) rfl (fun ls hl => ?_)
  refine lv_aload_n F.1 F.2.1 dL_law_744 rfl (lv_at hl 3 rfl) ?_
  refine lv_aload_n F.1 F.2.1 dL_law_745 rfl (lv_at hl 1 rfl) ?_
  refine lv_iload F.1 F.2.1 dL_law_746 (lv_at hl 5 rfl) ?_
  refine lv_iconst (v := (1 : Int32)) F.1 F.2.1 dL_law_748 (by decide) ?_
  refine lv_iadd F.1 F.2.1 dL_law_749 ?_
  refine va_sld F.1 F.2.1 hX hbl hbA hr.2.1 hin1 dL_law_750 ?_
  rw [hva1]
  refine lv_aload_n F.1 F.2.1 dL_law_751 rfl (lv_at hl 1 rfl) ?_
  refine lv_iload F.1 F.2.1 dL_law_752 (lv_at hl 5 rfl) ?_
  refine lv_iconst (v := (2 : Int32)) F.1 F.2.1 dL_law_754 (by decide) ?_
  refine lv_iadd F.1 F.2.1 dL_law_755 ?_
  refine va_sld F.1 F.2.1 hX hbl hbA hr.2.1 hin2 dL_law_756 ?_
  rw [hva2]
  refine lv_aload_n F.1 F.2.1 dL_law_757 rfl (lv_at hl 1 rfl) ?_
  refine lv_iload F.1 F.2.1 dL_law_758 (lv_at hl 5 rfl) ?_
  refine lv_iconst (v := (3 : Int32)) F.1 F.2.1 dL_law_760 (by decide) ?_
  refine lv_iadd F.1 F.2.1 dL_law_761 ?_
  refine va_sld F.1 F.2.1 hX hbl hbA hr.2.1 hin3 dL_law_762 ?_
  rw [hva3]
  replace h := zc_some h
  obtain ⟨r5, z6, hc7, h⟩ := h
  refine zr_calli (zrun_V (As := [.int (sc 1), .int (sc 2), .int (sc 3)]) (rest := []) zq_2994 zq_2995 zs_X19_listen zq_2997 zq_4 hdX19_listen (by decide) (T := TX19) (N := 32) rfl (okX19_listen l D cy B ids hst N 0 h19 (sc 1)  (sc 2)  (sc 3)  hr.2.2 hc7) F hr h19 hl.1 rfl (by decide) dL_law_763 rfl rfl hroL_X19_listen hg3) F hA hr (fun H locs hw8 hr => ?_)
  clear hc7
  refine lv_istore (lv' := [(6, .int r5), (5, .int k1), (0, .ref b), (1, .ref (B 11 0)), (2, .ref (B 19 0)), (3, .ref (B 193 0)), (4, .int x4)]) F.1 F.2.1 dL_law_766 hl (by decide) rfl (fun ls hl => ?_)
  refine lv_aload_n F.1 F.2.1 dL_law_768 rfl (lv_at hl 4 rfl) ?_
  replace h := zc_some h
  obtain ⟨r9, z10, hc11, h⟩ := h
  refine zr_calli (zrun_V (As := []) (rest := []) zq_1982 zq_1983 zs_X19_thrown zq_1985 zq_4 hdX19_thrown (by decide) (T := TX19) (N := 32) rfl (okX19_thrown l D cy B ids hst N 0 h19 hr.2.2 hc11) F hr h19 hl.1 rfl (by decide) dL_law_769 rfl rfl hroL_X19_thrown hg3) F hA hr (fun H locs hw12 hr => ?_)
  clear hc11
  refine lv_iload F.1 F.2.1 dL_law_772 (lv_at hl 1 rfl) ?_
  refine lv_icmp_eq (tgt := 779) F.1 F.2.1 dL_law_774 (by decide) (fun c13 => ?_) (fun c13 => ?_)
  · replace h := zi_t c13 h
    refine lv_iload F.1 F.2.1 dL_law_779 (lv_at hl 1 rfl) ?_
    refine lv_if_ne (tgt := 796) F.1 F.2.1 dL_law_781 (by decide) (fun c14 => ?_) (fun c14 => ?_)
    · replace h := zi_t c14 h
      refine lv_goto (tgt := 2079) F.1 F.2.1 dL_law_796 (by decide) ?_
      obtain ⟨rfl, rfl, rfl, rfl⟩ := zret4 h
      exact K _ H locs ls hst h9 F h11 h19 h193 hg3 hr (lv_sub hl [2, 3, 4, 5, 6] rfl)
    · replace h := zi_f (fun q => q c14) h
      refine lv_aload_n F.1 F.2.1 dL_law_784 rfl (lv_at hl 5 rfl) ?_
      refine lv_iconst (v := (0 : Int32)) F.1 F.2.1 dL_law_785 (by decide) ?_
      refine zr_lald (k := 193) (by decide) rfl (by decide) F h193 hr dL_law_786 (by unfold vp_in; decide) ?_
      refine lv_iload F.1 F.2.1 dL_law_787 (lv_at hl 0 rfl) ?_
      refine lv_i2l F.1 F.2.1 dL_law_789 rfl ?_
      refine W.lcmp F.1 F.2.1 dL_law_790 ?_
      refine lv_if_eq (tgt := 796) F.1 F.2.1 dL_law_791 (by decide) (fun c16 => ?_) (fun c16 => ?_)
      · replace h := zi_t c16 h
        refine lv_goto (tgt := 2079) F.1 F.2.1 dL_law_796 (by decide) ?_
        obtain ⟨rfl, rfl, rfl, rfl⟩ := zret4 h
        exact K _ H locs ls hst h9 F h11 h19 h193 hg3 hr (lv_sub hl [2, 3, 4, 5, 6] rfl)
      · replace h := zi_f c16 h
        refine lv_iconst (v := (0 : Int32)) F.1 F.2.1 dL_law_794 (by decide) ?_
        cases h
  · replace h := zi_f c13 h
    refine lv_iconst (v := (0 : Int32)) F.1 F.2.1 dL_law_777 (by decide) ?_
    cases h
noncomputable def fLaw_8 (N : Nat) (sc : Nat → Int32) (ids : List (Nat × Nat)) (cc ss : Nat) (z : St) : Option (St × List (Nat × Nat) × Nat × Nat) := zqc ((cc + (rmL_open).cells) ≤ room_1.cells ∧ (ss + (rmL_open).slots) ≤ room_1.slots) <| zc (fL_open N 0 (sc 1) (sc 2) (sc 3) 0 z) fun k1 z2 => zc (fX19_open N 0 (sc 1) (sc 2) (sc 3) z2) fun r5 z6 => zc (fX19_thrown N 0 z6) fun r9 z10 => if r9 = k1 then (if ¬ k1 = 0 then (some (z10, ids, (cc + (rmL_open).cells), (ss + (rmL_open).slots))) else (if (lg_cmp (zgL z10 193 0 (Int32.toNatClampNeg (0 : Int32))) (Int32.toInt64 r5)) = 0 then (some (z10, ids, (cc + (rmL_open).cells), (ss + (rmL_open).slots))) else (none))) else (none)
set_option maxHeartbeats 8000000 in
set_option maxRecDepth 100000 in
theorem cLaw_8 (hst : zSt B ids) (h9 : zI9 ids) (F : zFx p m c cL_law 7 s args RL D cy B ids A) (hA : ∀ q : Nat, s.heap.size ≤ q → A q) (hlf : l.stackTraces = false) (hXK : zXK A s s.heap) (hLK : zLK s) (hAO : zAO s) (hX : va_X b L xs s s.heap) (hbl : b < s.heap.size) (hbA : ¬ A b) (h11 : (11, 0) ∈ ids) (h19 : (19, 0) ∈ ids) (h193 : (193, 0) ∈ ids) {N : Nat} {sc : Nat → Int32} {x4 : Int32} (hin0 : vp_in x4 L) (hva0 : xs (Int32.toNatClampNeg x4) = sc 0) (hin1 : vp_in (x4 + (1 : Int32)) L) (hva1 : xs (Int32.toNatClampNeg (x4 + (1 : Int32))) = sc 1) (hin2 : vp_in (x4 + (2 : Int32)) L) (hva2 : xs (Int32.toNatClampNeg (x4 + (2 : Int32))) = sc 2) (hin3 : vp_in (x4 + (3 : Int32)) L) (hva3 : xs (Int32.toNatClampNeg (x4 + (3 : Int32))) = sc 3) (hin4 : vp_in (x4 + (4 : Int32)) L) (hva4 : xs (Int32.toNatClampNeg (x4 + (4 : Int32))) = sc 4) (hin5 : vp_in (x4 + (5 : Int32)) L) (hva5 : xs (Int32.toNatClampNeg (x4 + (5 : Int32))) = sc 5) {cc ss : Nat} (hcs : cc ≤ room_1.cells ∧ ss ≤ room_1.slots) {z z' : St} {I' : List (Nat × Nat)} {c' s' : Nat} {H : Heap} {locs : List Loc} {ls : Array Slot} (hr : zRep D cy B ids A s.heap z H locs) (hl : lv_has ls 7 [(0, .ref b), (1, .ref (B 11 0)), (2, .ref (B 19 0)), (3, .ref (B 193 0)), (4, .int x4)])
    (K : ∀ (B1 : Nat → Nat → Nat) (H : Heap) (locs : List Loc) (ls : Array Slot), zSt B1 I' → zI9 I' → zFx p m c cL_law 7 s args RL D cy B1 I' A → (11, 0) ∈ I' → (19, 0) ∈ I' → (193, 0) ∈ I' → c' ≤ room_1.cells ∧ s' ≤ room_1.slots → zRep D cy B1 I' A s.heap z' H locs → lv_has ls 7 [(0, .ref b), (1, .ref (B1 11 0)), (2, .ref (B1 19 0)), (3, .ref (B1 193 0)), (4, .int x4)] → W p l e room_1 s m args below meth c H locs c' s' Q (F0 m 2079 ls []))
    (h : fLaw_8 N sc ids cc ss z = some (z', I', c', s')) : W p l e room_1 s m args below meth c H locs cc ss Q (F0 m 799 ls []) := by
  unfold fLaw_8 at h
  refine lv_aload_n F.1 F.2.1 dL_law_799 rfl (lv_at hl 1 rfl) ?_
  refine lv_aload_n F.1 F.2.1 dL_law_800 rfl (lv_at hl 0 rfl) ?_
  refine lv_iload F.1 F.2.1 dL_law_801 (lv_at hl 4 rfl) ?_
  refine lv_iconst (v := (1 : Int32)) F.1 F.2.1 dL_law_803 (by decide) ?_
  refine lv_iadd F.1 F.2.1 dL_law_804 ?_
  refine va_sld F.1 F.2.1 hX hbl hbA hr.2.1 hin1 dL_law_805 ?_
  rw [hva1]
  refine lv_aload_n F.1 F.2.1 dL_law_806 rfl (lv_at hl 0 rfl) ?_
  refine lv_iload F.1 F.2.1 dL_law_807 (lv_at hl 4 rfl) ?_
  refine lv_iconst (v := (2 : Int32)) F.1 F.2.1 dL_law_809 (by decide) ?_
  refine lv_iadd F.1 F.2.1 dL_law_810 ?_
  refine va_sld F.1 F.2.1 hX hbl hbA hr.2.1 hin2 dL_law_811 ?_
  rw [hva2]
  refine lv_aload_n F.1 F.2.1 dL_law_812 rfl (lv_at hl 0 rfl) ?_
  refine lv_iload F.1 F.2.1 dL_law_813 (lv_at hl 4 rfl) ?_
  refine lv_iconst (v := (3 : Int32)) F.1 F.2.1 dL_law_815 (by decide) ?_
  refine lv_iadd F.1 F.2.1 dL_law_816 ?_
  refine va_sld F.1 F.2.1 hX hbl hbA hr.2.1 hin3 dL_law_817 ?_
  rw [hva3]
  refine lv_aload_n F.1 F.2.1 dL_law_818 rfl (lv_at hl 3 rfl) ?_
  replace h := zqc_some h
  obtain ⟨hg3, h⟩ := h
  replace h := zc_some h
  obtain ⟨k1, z2, hc4, h⟩ := h
  refine zr_callLi (zrun_L hXK hLK hA (As := [.ref (B 11 0), .int (sc 1), .int (sc 2), .int (sc 3), .ref (B 193 0)]) (rest := []) zq_1699 zq_1700 zq_1701 zq_0 hdL_open (okL_open l hlf D cy B ids hst N 0 h11 (sc 1) (sc 2) (sc 3) 0 h193 hr.2.2 hc4) F hr hl.1 rfl (by decide) dL_law_819 hroL_L_open hg3) F hA hr (fun H locs hr => ?_)
  refine lv_istore (lv' := [(5, .int k1), (0, .ref b), (1, .ref (B 11 0)), (2, .ref (B 19 0)), (3, .ref (B 193 0)), (4, .int x4)]) F.1 F.2.1 dL_law_822 hl (by decide) rfl (fun ls hl => ?_)
  refine lv_aload_n F.1 F.2.1 dL_law_824 rfl (lv_at hl 3 rfl) ?_
  refine lv_aload_n F.1 F.2.1 dL_law_825 rfl (lv_at hl 1 rfl) ?_
  refine lv_iload F.1 F.2.1 dL_law_826 (lv_at hl 5 rfl) ?_
  refine lv_iconst (v := (1 : Int32)) F.1 F.2.1 dL_law_828 (by decide) ?_
  refine lv_iadd F.1 F.2.1 dL_law_829 ?_
  refine va_sld F.1 F.2.1 hX hbl hbA hr.2.1 hin1 dL_law_830 ?_
  rw [hva1]
  refine lv_aload_n F.1 F.2.1 dL_law_831 rfl (lv_at hl 1 rfl) ?_
  refine lv_iload F.1 F.2.1 dL_law_832 (lv_at hl 5 rfl) ?_
  refine lv_iconst (v := (2 : Int32)) F.1 F.2.1 dL_law_834 (by decide) ?_
  refine lv_iadd F.1 F.2.1 dL_law_835 ?_
  refine va_sld F.1 F.2.1 hX hbl hbA hr.2.1 hin2 dL_law_836 ?_
  rw [hva2]
  refine lv_aload_n F.1 F.2.1 dL_law_837 rfl (lv_at hl 1 rfl) ?_
  refine lv_iload F.1 F.2.1 dL_law_838 (lv_at hl 5 rfl) ?_
  refine lv_iconst (v := (3 : Int32)) F.1 F.2.1 dL_law_840 (by decide) ?_
  refine lv_iadd F.1 F.2.1 dL_law_841 ?_
  refine va_sld F.1 F.2.1 hX hbl hbA hr.2.1 hin3 dL_law_842 ?_
  rw [hva3]
  replace h := zc_some h
  obtain ⟨r5, z6, hc7, h⟩ := h
  refine zr_calli (zrun_V (As := [.int (sc 1), .int (sc 2), .int (sc 3)]) (rest := []) zq_3003 zq_3004 zs_X19_open zq_3006 zq_4 hdX19_open (by decide) (T := TX19) (N := 32) rfl (okX19_open l D cy B ids hst N 0 h19 (sc 1)  (sc 2)  (sc 3)  hr.2.2 hc7) F hr h19 hl.1 rfl (by decide) dL_law_843 rfl rfl hroL_X19_open hg3) F hA hr (fun H locs hw8 hr => ?_)
  clear hc7
  refine lv_istore (lv' := [(6, .int r5), (5, .int k1), (0, .ref b), (1, .ref (B 11 0)), (2, .ref (B 19 0)), (3, .ref (B 193 0)), (4, .int x4)]) F.1 F.2.1 dL_law_846 hl (by decide) rfl (fun ls hl => ?_)
  refine lv_aload_n F.1 F.2.1 dL_law_848 rfl (lv_at hl 4 rfl) ?_
  replace h := zc_some h
  obtain ⟨r9, z10, hc11, h⟩ := h
  refine zr_calli (zrun_V (As := []) (rest := []) zq_1982 zq_1983 zs_X19_thrown zq_1985 zq_4 hdX19_thrown (by decide) (T := TX19) (N := 32) rfl (okX19_thrown l D cy B ids hst N 0 h19 hr.2.2 hc11) F hr h19 hl.1 rfl (by decide) dL_law_849 rfl rfl hroL_X19_thrown hg3) F hA hr (fun H locs hw12 hr => ?_)
  clear hc11
  refine lv_iload F.1 F.2.1 dL_law_852 (lv_at hl 1 rfl) ?_
  refine lv_icmp_eq (tgt := 859) F.1 F.2.1 dL_law_854 (by decide) (fun c13 => ?_) (fun c13 => ?_)
  · replace h := zi_t c13 h
    refine lv_iload F.1 F.2.1 dL_law_859 (lv_at hl 1 rfl) ?_
    refine lv_if_ne (tgt := 876) F.1 F.2.1 dL_law_861 (by decide) (fun c14 => ?_) (fun c14 => ?_)
    · replace h := zi_t c14 h
      refine lv_goto (tgt := 2079) F.1 F.2.1 dL_law_876 (by decide) ?_
      obtain ⟨rfl, rfl, rfl, rfl⟩ := zret4 h
      exact K _ H locs ls hst h9 F h11 h19 h193 hg3 hr (lv_sub hl [2, 3, 4, 5, 6] rfl)
    · replace h := zi_f (fun q => q c14) h
      refine lv_aload_n F.1 F.2.1 dL_law_864 rfl (lv_at hl 5 rfl) ?_
      refine lv_iconst (v := (0 : Int32)) F.1 F.2.1 dL_law_865 (by decide) ?_
      refine zr_lald (k := 193) (by decide) rfl (by decide) F h193 hr dL_law_866 (by unfold vp_in; decide) ?_
      refine lv_iload F.1 F.2.1 dL_law_867 (lv_at hl 0 rfl) ?_
      refine lv_i2l F.1 F.2.1 dL_law_869 rfl ?_
      refine W.lcmp F.1 F.2.1 dL_law_870 ?_
      refine lv_if_eq (tgt := 876) F.1 F.2.1 dL_law_871 (by decide) (fun c16 => ?_) (fun c16 => ?_)
      · replace h := zi_t c16 h
        refine lv_goto (tgt := 2079) F.1 F.2.1 dL_law_876 (by decide) ?_
        obtain ⟨rfl, rfl, rfl, rfl⟩ := zret4 h
        exact K _ H locs ls hst h9 F h11 h19 h193 hg3 hr (lv_sub hl [2, 3, 4, 5, 6] rfl)
      · replace h := zi_f c16 h
        refine lv_iconst (v := (0 : Int32)) F.1 F.2.1 dL_law_874 (by decide) ?_
        cases h
  · replace h := zi_f c13 h
    refine lv_iconst (v := (0 : Int32)) F.1 F.2.1 dL_law_857 (by decide) ?_
    cases h
noncomputable def fLaw_9 (N : Nat) (sc : Nat → Int32) (ids : List (Nat × Nat)) (cc ss : Nat) (z : St) : Option (St × List (Nat × Nat) × Nat × Nat) := zqc ((cc + (rmL_accept).cells) ≤ room_1.cells ∧ (ss + (rmL_accept).slots) ≤ room_1.slots) <| zc (fL_accept N 0 (sc 1) (sc 2) 0 z) fun k1 z2 => zc (fX19_accept N 0 (sc 1) (sc 2) z2) fun r5 z6 => zc (fX19_thrown N 0 z6) fun r9 z10 => if r9 = k1 then (if ¬ k1 = 0 then (some (z10, ids, (cc + (rmL_accept).cells), (ss + (rmL_accept).slots))) else (if (lg_cmp (zgL z10 193 0 (Int32.toNatClampNeg (0 : Int32))) (Int32.toInt64 r5)) = 0 then (some (z10, ids, (cc + (rmL_accept).cells), (ss + (rmL_accept).slots))) else (none))) else (none)
set_option maxHeartbeats 8000000 in
set_option maxRecDepth 100000 in
theorem cLaw_9 (hst : zSt B ids) (h9 : zI9 ids) (F : zFx p m c cL_law 7 s args RL D cy B ids A) (hA : ∀ q : Nat, s.heap.size ≤ q → A q) (hlf : l.stackTraces = false) (hXK : zXK A s s.heap) (hLK : zLK s) (hAO : zAO s) (hX : va_X b L xs s s.heap) (hbl : b < s.heap.size) (hbA : ¬ A b) (h11 : (11, 0) ∈ ids) (h19 : (19, 0) ∈ ids) (h193 : (193, 0) ∈ ids) {N : Nat} {sc : Nat → Int32} {x4 : Int32} (hin0 : vp_in x4 L) (hva0 : xs (Int32.toNatClampNeg x4) = sc 0) (hin1 : vp_in (x4 + (1 : Int32)) L) (hva1 : xs (Int32.toNatClampNeg (x4 + (1 : Int32))) = sc 1) (hin2 : vp_in (x4 + (2 : Int32)) L) (hva2 : xs (Int32.toNatClampNeg (x4 + (2 : Int32))) = sc 2) (hin3 : vp_in (x4 + (3 : Int32)) L) (hva3 : xs (Int32.toNatClampNeg (x4 + (3 : Int32))) = sc 3) (hin4 : vp_in (x4 + (4 : Int32)) L) (hva4 : xs (Int32.toNatClampNeg (x4 + (4 : Int32))) = sc 4) (hin5 : vp_in (x4 + (5 : Int32)) L) (hva5 : xs (Int32.toNatClampNeg (x4 + (5 : Int32))) = sc 5) {cc ss : Nat} (hcs : cc ≤ room_1.cells ∧ ss ≤ room_1.slots) {z z' : St} {I' : List (Nat × Nat)} {c' s' : Nat} {H : Heap} {locs : List Loc} {ls : Array Slot} (hr : zRep D cy B ids A s.heap z H locs) (hl : lv_has ls 7 [(0, .ref b), (1, .ref (B 11 0)), (2, .ref (B 19 0)), (3, .ref (B 193 0)), (4, .int x4)])
    (K : ∀ (B1 : Nat → Nat → Nat) (H : Heap) (locs : List Loc) (ls : Array Slot), zSt B1 I' → zI9 I' → zFx p m c cL_law 7 s args RL D cy B1 I' A → (11, 0) ∈ I' → (19, 0) ∈ I' → (193, 0) ∈ I' → c' ≤ room_1.cells ∧ s' ≤ room_1.slots → zRep D cy B1 I' A s.heap z' H locs → lv_has ls 7 [(0, .ref b), (1, .ref (B1 11 0)), (2, .ref (B1 19 0)), (3, .ref (B1 193 0)), (4, .int x4)] → W p l e room_1 s m args below meth c H locs c' s' Q (F0 m 2079 ls []))
    (h : fLaw_9 N sc ids cc ss z = some (z', I', c', s')) : W p l e room_1 s m args below meth c H locs cc ss Q (F0 m 879 ls []) := by
  unfold fLaw_9 at h
  refine lv_aload_n F.1 F.2.1 dL_law_879 rfl (lv_at hl 1 rfl) ?_
  refine lv_aload_n F.1 F.2.1 dL_law_880 rfl (lv_at hl 0 rfl) ?_
  refine lv_iload F.1 F.2.1 dL_law_881 (lv_at hl 4 rfl) ?_
  refine lv_iconst (v := (1 : Int32)) F.1 F.2.1 dL_law_883 (by decide) ?_
  refine lv_iadd F.1 F.2.1 dL_law_884 ?_
  refine va_sld F.1 F.2.1 hX hbl hbA hr.2.1 hin1 dL_law_885 ?_
  rw [hva1]
  refine lv_aload_n F.1 F.2.1 dL_law_886 rfl (lv_at hl 0 rfl) ?_
  refine lv_iload F.1 F.2.1 dL_law_887 (lv_at hl 4 rfl) ?_
  refine lv_iconst (v := (2 : Int32)) F.1 F.2.1 dL_law_889 (by decide) ?_
  refine lv_iadd F.1 F.2.1 dL_law_890 ?_
  refine va_sld F.1 F.2.1 hX hbl hbA hr.2.1 hin2 dL_law_891 ?_
  rw [hva2]
  refine lv_aload_n F.1 F.2.1 dL_law_892 rfl (lv_at hl 3 rfl) ?_
  replace h := zqc_some h
  obtain ⟨hg3, h⟩ := h
  replace h := zc_some h
  obtain ⟨k1, z2, hc4, h⟩ := h
  refine zr_callLi (zrun_L hXK hLK hA (As := [.ref (B 11 0), .int (sc 1), .int (sc 2), .ref (B 193 0)]) (rest := []) zq_1714 zq_1715 zq_1716 zq_0 hdL_accept (okL_accept l hlf D cy B ids hst N 0 h11 (sc 1) (sc 2) 0 h193 hr.2.2 hc4) F hr hl.1 rfl (by decide) dL_law_893 hroL_L_accept hg3) F hA hr (fun H locs hr => ?_)
  refine lv_istore (lv' := [(5, .int k1), (0, .ref b), (1, .ref (B 11 0)), (2, .ref (B 19 0)), (3, .ref (B 193 0)), (4, .int x4)]) F.1 F.2.1 dL_law_896 hl (by decide) rfl (fun ls hl => ?_)
  refine lv_aload_n F.1 F.2.1 dL_law_898 rfl (lv_at hl 3 rfl) ?_
  refine lv_aload_n F.1 F.2.1 dL_law_899 rfl (lv_at hl 1 rfl) ?_
  refine lv_iload F.1 F.2.1 dL_law_900 (lv_at hl 5 rfl) ?_
  refine lv_iconst (v := (1 : Int32)) F.1 F.2.1 dL_law_902 (by decide) ?_
  refine lv_iadd F.1 F.2.1 dL_law_903 ?_
  refine va_sld F.1 F.2.1 hX hbl hbA hr.2.1 hin1 dL_law_904 ?_
  rw [hva1]
  refine lv_aload_n F.1 F.2.1 dL_law_905 rfl (lv_at hl 1 rfl) ?_
  refine lv_iload F.1 F.2.1 dL_law_906 (lv_at hl 5 rfl) ?_
  refine lv_iconst (v := (2 : Int32)) F.1 F.2.1 dL_law_908 (by decide) ?_
  refine lv_iadd F.1 F.2.1 dL_law_909 ?_
  refine va_sld F.1 F.2.1 hX hbl hbA hr.2.1 hin2 dL_law_910 ?_
  rw [hva2]
  replace h := zc_some h
  obtain ⟨r5, z6, hc7, h⟩ := h
  refine zr_calli (zrun_V (As := [.int (sc 1), .int (sc 2)]) (rest := []) zq_3008 zq_3009 zs_X19_accept zq_3011 zq_4 hdX19_accept (by decide) (T := TX19) (N := 32) rfl (okX19_accept l D cy B ids hst N 0 h19 (sc 1)  (sc 2)  hr.2.2 hc7) F hr h19 hl.1 rfl (by decide) dL_law_911 rfl rfl hroL_X19_accept hg3) F hA hr (fun H locs hw8 hr => ?_)
  clear hc7
  refine lv_istore (lv' := [(6, .int r5), (5, .int k1), (0, .ref b), (1, .ref (B 11 0)), (2, .ref (B 19 0)), (3, .ref (B 193 0)), (4, .int x4)]) F.1 F.2.1 dL_law_914 hl (by decide) rfl (fun ls hl => ?_)
  refine lv_aload_n F.1 F.2.1 dL_law_916 rfl (lv_at hl 4 rfl) ?_
  replace h := zc_some h
  obtain ⟨r9, z10, hc11, h⟩ := h
  refine zr_calli (zrun_V (As := []) (rest := []) zq_1982 zq_1983 zs_X19_thrown zq_1985 zq_4 hdX19_thrown (by decide) (T := TX19) (N := 32) rfl (okX19_thrown l D cy B ids hst N 0 h19 hr.2.2 hc11) F hr h19 hl.1 rfl (by decide) dL_law_917 rfl rfl hroL_X19_thrown hg3) F hA hr (fun H locs hw12 hr => ?_)
  clear hc11
  refine lv_iload F.1 F.2.1 dL_law_920 (lv_at hl 1 rfl) ?_
  refine lv_icmp_eq (tgt := 927) F.1 F.2.1 dL_law_922 (by decide) (fun c13 => ?_) (fun c13 => ?_)
  · replace h := zi_t c13 h
    refine lv_iload F.1 F.2.1 dL_law_927 (lv_at hl 1 rfl) ?_
    refine lv_if_ne (tgt := 944) F.1 F.2.1 dL_law_929 (by decide) (fun c14 => ?_) (fun c14 => ?_)
    · replace h := zi_t c14 h
      refine lv_goto (tgt := 2079) F.1 F.2.1 dL_law_944 (by decide) ?_
      obtain ⟨rfl, rfl, rfl, rfl⟩ := zret4 h
      exact K _ H locs ls hst h9 F h11 h19 h193 hg3 hr (lv_sub hl [2, 3, 4, 5, 6] rfl)
    · replace h := zi_f (fun q => q c14) h
      refine lv_aload_n F.1 F.2.1 dL_law_932 rfl (lv_at hl 5 rfl) ?_
      refine lv_iconst (v := (0 : Int32)) F.1 F.2.1 dL_law_933 (by decide) ?_
      refine zr_lald (k := 193) (by decide) rfl (by decide) F h193 hr dL_law_934 (by unfold vp_in; decide) ?_
      refine lv_iload F.1 F.2.1 dL_law_935 (lv_at hl 0 rfl) ?_
      refine lv_i2l F.1 F.2.1 dL_law_937 rfl ?_
      refine W.lcmp F.1 F.2.1 dL_law_938 ?_
      refine lv_if_eq (tgt := 944) F.1 F.2.1 dL_law_939 (by decide) (fun c16 => ?_) (fun c16 => ?_)
      · replace h := zi_t c16 h
        refine lv_goto (tgt := 2079) F.1 F.2.1 dL_law_944 (by decide) ?_
        obtain ⟨rfl, rfl, rfl, rfl⟩ := zret4 h
        exact K _ H locs ls hst h9 F h11 h19 h193 hg3 hr (lv_sub hl [2, 3, 4, 5, 6] rfl)
      · replace h := zi_f c16 h
        refine lv_iconst (v := (0 : Int32)) F.1 F.2.1 dL_law_942 (by decide) ?_
        cases h
  · replace h := zi_f c13 h
    refine lv_iconst (v := (0 : Int32)) F.1 F.2.1 dL_law_925 (by decide) ?_
    cases h
noncomputable def fLaw_10 (N : Nat) (sc : Nat → Int32) (ids : List (Nat × Nat)) (cc ss : Nat) (z : St) : Option (St × List (Nat × Nat) × Nat × Nat) := zqc ((cc + (rmL_write).cells) ≤ room_1.cells ∧ (ss + (rmL_write).slots) ≤ room_1.slots) <| zc (fL_write N 0 (sc 1) (sc 2) (((Int32.toInt64 (sc 3)) <<< (((32 : Int32)).toInt64 &&& 63)) ||| ((Int32.toInt64 (sc 4)) &&& (4294967295 : Int64))) (sc 5) 0 z) fun k1 z2 => zc (fX19_write N 0 (sc 1) (sc 2) (((Int32.toInt64 (sc 3)) <<< (((32 : Int32)).toInt64 &&& 63)) ||| ((Int32.toInt64 (sc 4)) &&& (4294967295 : Int64))) (sc 5) z2) fun r5 z6 => zc (fX19_thrown N 0 z6) fun r9 z10 => if r9 = k1 then (if ¬ k1 = 0 then (some (z10, ids, (cc + (rmL_write).cells), (ss + (rmL_write).slots))) else (if (lg_cmp (zgL z10 193 0 (Int32.toNatClampNeg (0 : Int32))) (Int32.toInt64 r5)) = 0 then (some (z10, ids, (cc + (rmL_write).cells), (ss + (rmL_write).slots))) else (none))) else (none)
set_option maxHeartbeats 8000000 in
set_option maxRecDepth 100000 in
theorem cLaw_10 (hst : zSt B ids) (h9 : zI9 ids) (F : zFx p m c cL_law 7 s args RL D cy B ids A) (hA : ∀ q : Nat, s.heap.size ≤ q → A q) (hlf : l.stackTraces = false) (hXK : zXK A s s.heap) (hLK : zLK s) (hAO : zAO s) (hX : va_X b L xs s s.heap) (hbl : b < s.heap.size) (hbA : ¬ A b) (h11 : (11, 0) ∈ ids) (h19 : (19, 0) ∈ ids) (h193 : (193, 0) ∈ ids) {N : Nat} {sc : Nat → Int32} {x4 : Int32} (hin0 : vp_in x4 L) (hva0 : xs (Int32.toNatClampNeg x4) = sc 0) (hin1 : vp_in (x4 + (1 : Int32)) L) (hva1 : xs (Int32.toNatClampNeg (x4 + (1 : Int32))) = sc 1) (hin2 : vp_in (x4 + (2 : Int32)) L) (hva2 : xs (Int32.toNatClampNeg (x4 + (2 : Int32))) = sc 2) (hin3 : vp_in (x4 + (3 : Int32)) L) (hva3 : xs (Int32.toNatClampNeg (x4 + (3 : Int32))) = sc 3) (hin4 : vp_in (x4 + (4 : Int32)) L) (hva4 : xs (Int32.toNatClampNeg (x4 + (4 : Int32))) = sc 4) (hin5 : vp_in (x4 + (5 : Int32)) L) (hva5 : xs (Int32.toNatClampNeg (x4 + (5 : Int32))) = sc 5) {cc ss : Nat} (hcs : cc ≤ room_1.cells ∧ ss ≤ room_1.slots) {z z' : St} {I' : List (Nat × Nat)} {c' s' : Nat} {H : Heap} {locs : List Loc} {ls : Array Slot} (hr : zRep D cy B ids A s.heap z H locs) (hl : lv_has ls 7 [(0, .ref b), (1, .ref (B 11 0)), (2, .ref (B 19 0)), (3, .ref (B 193 0)), (4, .int x4)])
    (K : ∀ (B1 : Nat → Nat → Nat) (H : Heap) (locs : List Loc) (ls : Array Slot), zSt B1 I' → zI9 I' → zFx p m c cL_law 7 s args RL D cy B1 I' A → (11, 0) ∈ I' → (19, 0) ∈ I' → (193, 0) ∈ I' → c' ≤ room_1.cells ∧ s' ≤ room_1.slots → zRep D cy B1 I' A s.heap z' H locs → lv_has ls 7 [(0, .ref b), (1, .ref (B1 11 0)), (2, .ref (B1 19 0)), (3, .ref (B1 193 0)), (4, .int x4)] → W p l e room_1 s m args below meth c H locs c' s' Q (F0 m 2079 ls []))
    (h : fLaw_10 N sc ids cc ss z = some (z', I', c', s')) : W p l e room_1 s m args below meth c H locs cc ss Q (F0 m 947 ls []) := by
  unfold fLaw_10 at h
  refine lv_aload_n F.1 F.2.1 dL_law_947 rfl (lv_at hl 1 rfl) ?_
  refine lv_aload_n F.1 F.2.1 dL_law_948 rfl (lv_at hl 0 rfl) ?_
  refine lv_iload F.1 F.2.1 dL_law_949 (lv_at hl 4 rfl) ?_
  refine lv_iconst (v := (1 : Int32)) F.1 F.2.1 dL_law_951 (by decide) ?_
  refine lv_iadd F.1 F.2.1 dL_law_952 ?_
  refine va_sld F.1 F.2.1 hX hbl hbA hr.2.1 hin1 dL_law_953 ?_
  rw [hva1]
  refine lv_aload_n F.1 F.2.1 dL_law_954 rfl (lv_at hl 0 rfl) ?_
  refine lv_iload F.1 F.2.1 dL_law_955 (lv_at hl 4 rfl) ?_
  refine lv_iconst (v := (2 : Int32)) F.1 F.2.1 dL_law_957 (by decide) ?_
  refine lv_iadd F.1 F.2.1 dL_law_958 ?_
  refine va_sld F.1 F.2.1 hX hbl hbA hr.2.1 hin2 dL_law_959 ?_
  rw [hva2]
  refine lv_aload_n F.1 F.2.1 dL_law_960 rfl (lv_at hl 0 rfl) ?_
  refine lv_iload F.1 F.2.1 dL_law_961 (lv_at hl 4 rfl) ?_
  refine lv_iconst (v := (3 : Int32)) F.1 F.2.1 dL_law_963 (by decide) ?_
  refine lv_iadd F.1 F.2.1 dL_law_964 ?_
  refine va_sld F.1 F.2.1 hX hbl hbA hr.2.1 hin3 dL_law_965 ?_
  rw [hva3]
  refine lv_i2l F.1 F.2.1 dL_law_966 rfl ?_
  refine lv_bipush (v := (32 : Int32)) F.1 F.2.1 dL_law_967 (by decide) ?_
  refine lv_lshl F.1 F.2.1 dL_law_969 rfl ?_
  refine lv_aload_n F.1 F.2.1 dL_law_970 rfl (lv_at hl 0 rfl) ?_
  refine lv_iload F.1 F.2.1 dL_law_971 (lv_at hl 4 rfl) ?_
  refine lv_iconst (v := (4 : Int32)) F.1 F.2.1 dL_law_973 (by decide) ?_
  refine lv_iadd F.1 F.2.1 dL_law_974 ?_
  refine va_sld F.1 F.2.1 hX hbl hbA hr.2.1 hin4 dL_law_975 ?_
  rw [hva4]
  refine lv_i2l F.1 F.2.1 dL_law_976 rfl ?_
  refine lv_ldc2 (v := (4294967295)) F.1 F.2.1 F.2.2.2.1 (F.2.2.2.2.1 _ zq_3153) dL_law_977 ?_
  refine lv_land F.1 F.2.1 dL_law_980 ?_
  refine lv_lor F.1 F.2.1 dL_law_981 ?_
  refine lv_aload_n F.1 F.2.1 dL_law_982 rfl (lv_at hl 0 rfl) ?_
  refine lv_iload F.1 F.2.1 dL_law_983 (lv_at hl 4 rfl) ?_
  refine lv_iconst (v := (5 : Int32)) F.1 F.2.1 dL_law_985 (by decide) ?_
  refine lv_iadd F.1 F.2.1 dL_law_986 ?_
  refine va_sld F.1 F.2.1 hX hbl hbA hr.2.1 hin5 dL_law_987 ?_
  rw [hva5]
  refine lv_aload_n F.1 F.2.1 dL_law_988 rfl (lv_at hl 3 rfl) ?_
  replace h := zqc_some h
  obtain ⟨hg3, h⟩ := h
  replace h := zc_some h
  obtain ⟨k1, z2, hc4, h⟩ := h
  refine zr_callLi (zrun_L hXK hLK hA (As := [.ref (B 11 0), .int (sc 1), .int (sc 2), .long (((Int32.toInt64 (sc 3)) <<< (((32 : Int32)).toInt64 &&& 63)) ||| ((Int32.toInt64 (sc 4)) &&& (4294967295 : Int64))), .int (sc 5), .ref (B 193 0)]) (rest := []) zq_1727 zq_1728 zq_1729 zq_0 hdL_write (okL_write l hlf D cy B ids hst N 0 h11 (sc 1) (sc 2) (((Int32.toInt64 (sc 3)) <<< (((32 : Int32)).toInt64 &&& 63)) ||| ((Int32.toInt64 (sc 4)) &&& (4294967295 : Int64))) (sc 5) 0 h193 hr.2.2 hc4) F hr hl.1 rfl (by decide) dL_law_989 hroL_L_write hg3) F hA hr (fun H locs hr => ?_)
  refine lv_istore (lv' := [(5, .int k1), (0, .ref b), (1, .ref (B 11 0)), (2, .ref (B 19 0)), (3, .ref (B 193 0)), (4, .int x4)]) F.1 F.2.1 dL_law_992 hl (by decide) rfl (fun ls hl => ?_)
  refine lv_aload_n F.1 F.2.1 dL_law_994 rfl (lv_at hl 3 rfl) ?_
  refine lv_aload_n F.1 F.2.1 dL_law_995 rfl (lv_at hl 1 rfl) ?_
  refine lv_iload F.1 F.2.1 dL_law_996 (lv_at hl 5 rfl) ?_
  refine lv_iconst (v := (1 : Int32)) F.1 F.2.1 dL_law_998 (by decide) ?_
  refine lv_iadd F.1 F.2.1 dL_law_999 ?_
  refine va_sld F.1 F.2.1 hX hbl hbA hr.2.1 hin1 dL_law_1000 ?_
  rw [hva1]
  refine lv_aload_n F.1 F.2.1 dL_law_1001 rfl (lv_at hl 1 rfl) ?_
  refine lv_iload F.1 F.2.1 dL_law_1002 (lv_at hl 5 rfl) ?_
  refine lv_iconst (v := (2 : Int32)) F.1 F.2.1 dL_law_1004 (by decide) ?_
  refine lv_iadd F.1 F.2.1 dL_law_1005 ?_
  refine va_sld F.1 F.2.1 hX hbl hbA hr.2.1 hin2 dL_law_1006 ?_
  rw [hva2]
  refine lv_aload_n F.1 F.2.1 dL_law_1007 rfl (lv_at hl 1 rfl) ?_
  refine lv_iload F.1 F.2.1 dL_law_1008 (lv_at hl 5 rfl) ?_
  refine lv_iconst (v := (3 : Int32)) F.1 F.2.1 dL_law_1010 (by decide) ?_
  refine lv_iadd F.1 F.2.1 dL_law_1011 ?_
  refine va_sld F.1 F.2.1 hX hbl hbA hr.2.1 hin3 dL_law_1012 ?_
  rw [hva3]
  refine lv_i2l F.1 F.2.1 dL_law_1013 rfl ?_
  refine lv_bipush (v := (32 : Int32)) F.1 F.2.1 dL_law_1014 (by decide) ?_
  refine lv_lshl F.1 F.2.1 dL_law_1016 rfl ?_
  refine lv_aload_n F.1 F.2.1 dL_law_1017 rfl (lv_at hl 1 rfl) ?_
  refine lv_iload F.1 F.2.1 dL_law_1018 (lv_at hl 5 rfl) ?_
  refine lv_iconst (v := (4 : Int32)) F.1 F.2.1 dL_law_1020 (by decide) ?_
  refine lv_iadd F.1 F.2.1 dL_law_1021 ?_
  refine va_sld F.1 F.2.1 hX hbl hbA hr.2.1 hin4 dL_law_1022 ?_
  rw [hva4]
  refine lv_i2l F.1 F.2.1 dL_law_1023 rfl ?_
  refine lv_ldc2 (v := (4294967295)) F.1 F.2.1 F.2.2.2.1 (F.2.2.2.2.1 _ zq_3153) dL_law_1024 ?_
  refine lv_land F.1 F.2.1 dL_law_1027 ?_
  refine lv_lor F.1 F.2.1 dL_law_1028 ?_
  refine lv_aload_n F.1 F.2.1 dL_law_1029 rfl (lv_at hl 1 rfl) ?_
  refine lv_iload F.1 F.2.1 dL_law_1030 (lv_at hl 5 rfl) ?_
  refine lv_iconst (v := (5 : Int32)) F.1 F.2.1 dL_law_1032 (by decide) ?_
  refine lv_iadd F.1 F.2.1 dL_law_1033 ?_
  refine va_sld F.1 F.2.1 hX hbl hbA hr.2.1 hin5 dL_law_1034 ?_
  rw [hva5]
  replace h := zc_some h
  obtain ⟨r5, z6, hc7, h⟩ := h
  refine zr_calli (zrun_V (As := [.int (sc 1), .int (sc 2), .long (((Int32.toInt64 (sc 3)) <<< (((32 : Int32)).toInt64 &&& 63)) ||| ((Int32.toInt64 (sc 4)) &&& (4294967295 : Int64))), .int (sc 5)]) (rest := []) zq_3016 zq_3017 zs_X19_write zq_3019 zq_4 hdX19_write (by decide) (T := TX19) (N := 32) rfl (okX19_write l D cy B ids hst N 0 h19 (sc 1)  (sc 2)  (((Int32.toInt64 (sc 3)) <<< (((32 : Int32)).toInt64 &&& 63)) ||| ((Int32.toInt64 (sc 4)) &&& (4294967295 : Int64)))  (sc 5)  hr.2.2 hc7) F hr h19 hl.1 rfl (by decide) dL_law_1035 rfl rfl hroL_X19_write hg3) F hA hr (fun H locs hw8 hr => ?_)
  clear hc7
  refine lv_istore (lv' := [(6, .int r5), (5, .int k1), (0, .ref b), (1, .ref (B 11 0)), (2, .ref (B 19 0)), (3, .ref (B 193 0)), (4, .int x4)]) F.1 F.2.1 dL_law_1038 hl (by decide) rfl (fun ls hl => ?_)
  refine lv_aload_n F.1 F.2.1 dL_law_1040 rfl (lv_at hl 4 rfl) ?_
  replace h := zc_some h
  obtain ⟨r9, z10, hc11, h⟩ := h
  refine zr_calli (zrun_V (As := []) (rest := []) zq_1982 zq_1983 zs_X19_thrown zq_1985 zq_4 hdX19_thrown (by decide) (T := TX19) (N := 32) rfl (okX19_thrown l D cy B ids hst N 0 h19 hr.2.2 hc11) F hr h19 hl.1 rfl (by decide) dL_law_1041 rfl rfl hroL_X19_thrown hg3) F hA hr (fun H locs hw12 hr => ?_)
  clear hc11
  refine lv_iload F.1 F.2.1 dL_law_1044 (lv_at hl 1 rfl) ?_
  refine lv_icmp_eq (tgt := 1051) F.1 F.2.1 dL_law_1046 (by decide) (fun c13 => ?_) (fun c13 => ?_)
  · replace h := zi_t c13 h
    refine lv_iload F.1 F.2.1 dL_law_1051 (lv_at hl 1 rfl) ?_
    refine lv_if_ne (tgt := 1068) F.1 F.2.1 dL_law_1053 (by decide) (fun c14 => ?_) (fun c14 => ?_)
    · replace h := zi_t c14 h
      refine lv_goto (tgt := 2079) F.1 F.2.1 dL_law_1068 (by decide) ?_
      obtain ⟨rfl, rfl, rfl, rfl⟩ := zret4 h
      exact K _ H locs ls hst h9 F h11 h19 h193 hg3 hr (lv_sub hl [2, 3, 4, 5, 6] rfl)
    · replace h := zi_f (fun q => q c14) h
      refine lv_aload_n F.1 F.2.1 dL_law_1056 rfl (lv_at hl 5 rfl) ?_
      refine lv_iconst (v := (0 : Int32)) F.1 F.2.1 dL_law_1057 (by decide) ?_
      refine zr_lald (k := 193) (by decide) rfl (by decide) F h193 hr dL_law_1058 (by unfold vp_in; decide) ?_
      refine lv_iload F.1 F.2.1 dL_law_1059 (lv_at hl 0 rfl) ?_
      refine lv_i2l F.1 F.2.1 dL_law_1061 rfl ?_
      refine W.lcmp F.1 F.2.1 dL_law_1062 ?_
      refine lv_if_eq (tgt := 1068) F.1 F.2.1 dL_law_1063 (by decide) (fun c16 => ?_) (fun c16 => ?_)
      · replace h := zi_t c16 h
        refine lv_goto (tgt := 2079) F.1 F.2.1 dL_law_1068 (by decide) ?_
        obtain ⟨rfl, rfl, rfl, rfl⟩ := zret4 h
        exact K _ H locs ls hst h9 F h11 h19 h193 hg3 hr (lv_sub hl [2, 3, 4, 5, 6] rfl)
      · replace h := zi_f c16 h
        refine lv_iconst (v := (0 : Int32)) F.1 F.2.1 dL_law_1066 (by decide) ?_
        cases h
  · replace h := zi_f c13 h
    refine lv_iconst (v := (0 : Int32)) F.1 F.2.1 dL_law_1049 (by decide) ?_
    cases h
noncomputable def fLaw_11 (N : Nat) (sc : Nat → Int32) (ids : List (Nat × Nat)) (cc ss : Nat) (z : St) : Option (St × List (Nat × Nat) × Nat × Nat) := zqc ((cc + (rmL_fill).cells) ≤ room_1.cells ∧ (ss + (rmL_fill).slots) ≤ room_1.slots) <| zc (fL_fill N 0 (sc 1) (sc 2) (sc 3) (sc 4) (sc 5) 0 z) fun k1 z2 => zc (fX19_fill N 0 (sc 1) (sc 2) (sc 3) (sc 4) (sc 5) z2) fun r5 z6 => zc (fX19_thrown N 0 z6) fun r9 z10 => if r9 = k1 then (if ¬ k1 = 0 then (some (z10, ids, (cc + (rmL_fill).cells), (ss + (rmL_fill).slots))) else (if (lg_cmp (zgL z10 193 0 (Int32.toNatClampNeg (0 : Int32))) (Int32.toInt64 r5)) = 0 then (some (z10, ids, (cc + (rmL_fill).cells), (ss + (rmL_fill).slots))) else (none))) else (none)
set_option maxHeartbeats 8000000 in
set_option maxRecDepth 100000 in
theorem cLaw_11 (hst : zSt B ids) (h9 : zI9 ids) (F : zFx p m c cL_law 7 s args RL D cy B ids A) (hA : ∀ q : Nat, s.heap.size ≤ q → A q) (hlf : l.stackTraces = false) (hXK : zXK A s s.heap) (hLK : zLK s) (hAO : zAO s) (hX : va_X b L xs s s.heap) (hbl : b < s.heap.size) (hbA : ¬ A b) (h11 : (11, 0) ∈ ids) (h19 : (19, 0) ∈ ids) (h193 : (193, 0) ∈ ids) {N : Nat} {sc : Nat → Int32} {x4 : Int32} (hin0 : vp_in x4 L) (hva0 : xs (Int32.toNatClampNeg x4) = sc 0) (hin1 : vp_in (x4 + (1 : Int32)) L) (hva1 : xs (Int32.toNatClampNeg (x4 + (1 : Int32))) = sc 1) (hin2 : vp_in (x4 + (2 : Int32)) L) (hva2 : xs (Int32.toNatClampNeg (x4 + (2 : Int32))) = sc 2) (hin3 : vp_in (x4 + (3 : Int32)) L) (hva3 : xs (Int32.toNatClampNeg (x4 + (3 : Int32))) = sc 3) (hin4 : vp_in (x4 + (4 : Int32)) L) (hva4 : xs (Int32.toNatClampNeg (x4 + (4 : Int32))) = sc 4) (hin5 : vp_in (x4 + (5 : Int32)) L) (hva5 : xs (Int32.toNatClampNeg (x4 + (5 : Int32))) = sc 5) {cc ss : Nat} (hcs : cc ≤ room_1.cells ∧ ss ≤ room_1.slots) {z z' : St} {I' : List (Nat × Nat)} {c' s' : Nat} {H : Heap} {locs : List Loc} {ls : Array Slot} (hr : zRep D cy B ids A s.heap z H locs) (hl : lv_has ls 7 [(0, .ref b), (1, .ref (B 11 0)), (2, .ref (B 19 0)), (3, .ref (B 193 0)), (4, .int x4)])
    (K : ∀ (B1 : Nat → Nat → Nat) (H : Heap) (locs : List Loc) (ls : Array Slot), zSt B1 I' → zI9 I' → zFx p m c cL_law 7 s args RL D cy B1 I' A → (11, 0) ∈ I' → (19, 0) ∈ I' → (193, 0) ∈ I' → c' ≤ room_1.cells ∧ s' ≤ room_1.slots → zRep D cy B1 I' A s.heap z' H locs → lv_has ls 7 [(0, .ref b), (1, .ref (B1 11 0)), (2, .ref (B1 19 0)), (3, .ref (B1 193 0)), (4, .int x4)] → W p l e room_1 s m args below meth c H locs c' s' Q (F0 m 2079 ls []))
    (h : fLaw_11 N sc ids cc ss z = some (z', I', c', s')) : W p l e room_1 s m args below meth c H locs cc ss Q (F0 m 1071 ls []) := by
  unfold fLaw_11 at h
  refine lv_aload_n F.1 F.2.1 dL_law_1071 rfl (lv_at hl 1 rfl) ?_
  refine lv_aload_n F.1 F.2.1 dL_law_1072 rfl (lv_at hl 0 rfl) ?_
  refine lv_iload F.1 F.2.1 dL_law_1073 (lv_at hl 4 rfl) ?_
  refine lv_iconst (v := (1 : Int32)) F.1 F.2.1 dL_law_1075 (by decide) ?_
  refine lv_iadd F.1 F.2.1 dL_law_1076 ?_
  refine va_sld F.1 F.2.1 hX hbl hbA hr.2.1 hin1 dL_law_1077 ?_
  rw [hva1]
  refine lv_aload_n F.1 F.2.1 dL_law_1078 rfl (lv_at hl 0 rfl) ?_
  refine lv_iload F.1 F.2.1 dL_law_1079 (lv_at hl 4 rfl) ?_
  refine lv_iconst (v := (2 : Int32)) F.1 F.2.1 dL_law_1081 (by decide) ?_
  refine lv_iadd F.1 F.2.1 dL_law_1082 ?_
  refine va_sld F.1 F.2.1 hX hbl hbA hr.2.1 hin2 dL_law_1083 ?_
  rw [hva2]
  refine lv_aload_n F.1 F.2.1 dL_law_1084 rfl (lv_at hl 0 rfl) ?_
  refine lv_iload F.1 F.2.1 dL_law_1085 (lv_at hl 4 rfl) ?_
  refine lv_iconst (v := (3 : Int32)) F.1 F.2.1 dL_law_1087 (by decide) ?_
  refine lv_iadd F.1 F.2.1 dL_law_1088 ?_
  refine va_sld F.1 F.2.1 hX hbl hbA hr.2.1 hin3 dL_law_1089 ?_
  rw [hva3]
  refine lv_aload_n F.1 F.2.1 dL_law_1090 rfl (lv_at hl 0 rfl) ?_
  refine lv_iload F.1 F.2.1 dL_law_1091 (lv_at hl 4 rfl) ?_
  refine lv_iconst (v := (4 : Int32)) F.1 F.2.1 dL_law_1093 (by decide) ?_
  refine lv_iadd F.1 F.2.1 dL_law_1094 ?_
  refine va_sld F.1 F.2.1 hX hbl hbA hr.2.1 hin4 dL_law_1095 ?_
  rw [hva4]
  refine lv_aload_n F.1 F.2.1 dL_law_1096 rfl (lv_at hl 0 rfl) ?_
  refine lv_iload F.1 F.2.1 dL_law_1097 (lv_at hl 4 rfl) ?_
  refine lv_iconst (v := (5 : Int32)) F.1 F.2.1 dL_law_1099 (by decide) ?_
  refine lv_iadd F.1 F.2.1 dL_law_1100 ?_
  refine va_sld F.1 F.2.1 hX hbl hbA hr.2.1 hin5 dL_law_1101 ?_
  rw [hva5]
  refine lv_aload_n F.1 F.2.1 dL_law_1102 rfl (lv_at hl 3 rfl) ?_
  replace h := zqc_some h
  obtain ⟨hg3, h⟩ := h
  replace h := zc_some h
  obtain ⟨k1, z2, hc4, h⟩ := h
  refine zr_callLi (zrun_L hXK hLK hA (As := [.ref (B 11 0), .int (sc 1), .int (sc 2), .int (sc 3), .int (sc 4), .int (sc 5), .ref (B 193 0)]) (rest := []) zq_1753 zq_1754 zq_1755 zq_0 hdL_fill (okL_fill l hlf D cy B ids hst N 0 h11 (sc 1) (sc 2) (sc 3) (sc 4) (sc 5) 0 h193 hr.2.2 hc4) F hr hl.1 rfl (by decide) dL_law_1103 hroL_L_fill hg3) F hA hr (fun H locs hr => ?_)
  refine lv_istore (lv' := [(5, .int k1), (0, .ref b), (1, .ref (B 11 0)), (2, .ref (B 19 0)), (3, .ref (B 193 0)), (4, .int x4)]) F.1 F.2.1 dL_law_1106 hl (by decide) rfl (fun ls hl => ?_)
  refine lv_aload_n F.1 F.2.1 dL_law_1108 rfl (lv_at hl 3 rfl) ?_
  refine lv_aload_n F.1 F.2.1 dL_law_1109 rfl (lv_at hl 1 rfl) ?_
  refine lv_iload F.1 F.2.1 dL_law_1110 (lv_at hl 5 rfl) ?_
  refine lv_iconst (v := (1 : Int32)) F.1 F.2.1 dL_law_1112 (by decide) ?_
  refine lv_iadd F.1 F.2.1 dL_law_1113 ?_
  refine va_sld F.1 F.2.1 hX hbl hbA hr.2.1 hin1 dL_law_1114 ?_
  rw [hva1]
  refine lv_aload_n F.1 F.2.1 dL_law_1115 rfl (lv_at hl 1 rfl) ?_
  refine lv_iload F.1 F.2.1 dL_law_1116 (lv_at hl 5 rfl) ?_
  refine lv_iconst (v := (2 : Int32)) F.1 F.2.1 dL_law_1118 (by decide) ?_
  refine lv_iadd F.1 F.2.1 dL_law_1119 ?_
  refine va_sld F.1 F.2.1 hX hbl hbA hr.2.1 hin2 dL_law_1120 ?_
  rw [hva2]
  refine lv_aload_n F.1 F.2.1 dL_law_1121 rfl (lv_at hl 1 rfl) ?_
  refine lv_iload F.1 F.2.1 dL_law_1122 (lv_at hl 5 rfl) ?_
  refine lv_iconst (v := (3 : Int32)) F.1 F.2.1 dL_law_1124 (by decide) ?_
  refine lv_iadd F.1 F.2.1 dL_law_1125 ?_
  refine va_sld F.1 F.2.1 hX hbl hbA hr.2.1 hin3 dL_law_1126 ?_
  rw [hva3]
  refine lv_aload_n F.1 F.2.1 dL_law_1127 rfl (lv_at hl 1 rfl) ?_
  refine lv_iload F.1 F.2.1 dL_law_1128 (lv_at hl 5 rfl) ?_
  refine lv_iconst (v := (4 : Int32)) F.1 F.2.1 dL_law_1130 (by decide) ?_
  refine lv_iadd F.1 F.2.1 dL_law_1131 ?_
  refine va_sld F.1 F.2.1 hX hbl hbA hr.2.1 hin4 dL_law_1132 ?_
  rw [hva4]
  refine lv_aload_n F.1 F.2.1 dL_law_1133 rfl (lv_at hl 1 rfl) ?_
  refine lv_iload F.1 F.2.1 dL_law_1134 (lv_at hl 5 rfl) ?_
  refine lv_iconst (v := (5 : Int32)) F.1 F.2.1 dL_law_1136 (by decide) ?_
  refine lv_iadd F.1 F.2.1 dL_law_1137 ?_
  refine va_sld F.1 F.2.1 hX hbl hbA hr.2.1 hin5 dL_law_1138 ?_
  rw [hva5]
  replace h := zc_some h
  obtain ⟨r5, z6, hc7, h⟩ := h
  refine zr_calli (zrun_V (As := [.int (sc 1), .int (sc 2), .int (sc 3), .int (sc 4), .int (sc 5)]) (rest := []) zq_3041 zq_3042 zs_X19_fill zq_3044 zq_4 hdX19_fill (by decide) (T := TX19) (N := 32) rfl (okX19_fill l D cy B ids hst N 0 h19 (sc 1)  (sc 2)  (sc 3)  (sc 4)  (sc 5)  hr.2.2 hc7) F hr h19 hl.1 rfl (by decide) dL_law_1139 rfl rfl hroL_X19_fill hg3) F hA hr (fun H locs hw8 hr => ?_)
  clear hc7
  refine lv_istore (lv' := [(6, .int r5), (5, .int k1), (0, .ref b), (1, .ref (B 11 0)), (2, .ref (B 19 0)), (3, .ref (B 193 0)), (4, .int x4)]) F.1 F.2.1 dL_law_1142 hl (by decide) rfl (fun ls hl => ?_)
  refine lv_aload_n F.1 F.2.1 dL_law_1144 rfl (lv_at hl 4 rfl) ?_
  replace h := zc_some h
  obtain ⟨r9, z10, hc11, h⟩ := h
  refine zr_calli (zrun_V (As := []) (rest := []) zq_1982 zq_1983 zs_X19_thrown zq_1985 zq_4 hdX19_thrown (by decide) (T := TX19) (N := 32) rfl (okX19_thrown l D cy B ids hst N 0 h19 hr.2.2 hc11) F hr h19 hl.1 rfl (by decide) dL_law_1145 rfl rfl hroL_X19_thrown hg3) F hA hr (fun H locs hw12 hr => ?_)
  clear hc11
  refine lv_iload F.1 F.2.1 dL_law_1148 (lv_at hl 1 rfl) ?_
  refine lv_icmp_eq (tgt := 1155) F.1 F.2.1 dL_law_1150 (by decide) (fun c13 => ?_) (fun c13 => ?_)
  · replace h := zi_t c13 h
    refine lv_iload F.1 F.2.1 dL_law_1155 (lv_at hl 1 rfl) ?_
    refine lv_if_ne (tgt := 1172) F.1 F.2.1 dL_law_1157 (by decide) (fun c14 => ?_) (fun c14 => ?_)
    · replace h := zi_t c14 h
      refine lv_goto (tgt := 2079) F.1 F.2.1 dL_law_1172 (by decide) ?_
      obtain ⟨rfl, rfl, rfl, rfl⟩ := zret4 h
      exact K _ H locs ls hst h9 F h11 h19 h193 hg3 hr (lv_sub hl [2, 3, 4, 5, 6] rfl)
    · replace h := zi_f (fun q => q c14) h
      refine lv_aload_n F.1 F.2.1 dL_law_1160 rfl (lv_at hl 5 rfl) ?_
      refine lv_iconst (v := (0 : Int32)) F.1 F.2.1 dL_law_1161 (by decide) ?_
      refine zr_lald (k := 193) (by decide) rfl (by decide) F h193 hr dL_law_1162 (by unfold vp_in; decide) ?_
      refine lv_iload F.1 F.2.1 dL_law_1163 (lv_at hl 0 rfl) ?_
      refine lv_i2l F.1 F.2.1 dL_law_1165 rfl ?_
      refine W.lcmp F.1 F.2.1 dL_law_1166 ?_
      refine lv_if_eq (tgt := 1172) F.1 F.2.1 dL_law_1167 (by decide) (fun c16 => ?_) (fun c16 => ?_)
      · replace h := zi_t c16 h
        refine lv_goto (tgt := 2079) F.1 F.2.1 dL_law_1172 (by decide) ?_
        obtain ⟨rfl, rfl, rfl, rfl⟩ := zret4 h
        exact K _ H locs ls hst h9 F h11 h19 h193 hg3 hr (lv_sub hl [2, 3, 4, 5, 6] rfl)
      · replace h := zi_f c16 h
        refine lv_iconst (v := (0 : Int32)) F.1 F.2.1 dL_law_1170 (by decide) ?_
        cases h
  · replace h := zi_f c13 h
    refine lv_iconst (v := (0 : Int32)) F.1 F.2.1 dL_law_1153 (by decide) ?_
    cases h
end SLAW1
