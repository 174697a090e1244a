section SLAW2
variable {p : Program} {l : Launch} {e : Env} {s : State} {m : MethodId} {args : Array Value} {below : List Frame} {meth : Method} {c : Code} {Q : State → Prop} {D : va_G} {cy : Nat → ClassId} {B : Nat → Nat → Nat} {ids : List (Nat × Nat)} {A : Nat → Prop} {b L : Nat} {xs : Nat → Int32}
noncomputable def fLaw_12 (N : Nat) (sc : Nat → Int32) (ids : List (Nat × Nat)) (cc ss : Nat) (z : St) : Option (St × List (Nat × Nat) × Nat × Nat) := zqc ((cc + (rmL_read).cells) ≤ room_1.cells ∧ (ss + (rmL_read).slots) ≤ room_1.slots) <| zc (fL_read N 0 (sc 1) (sc 2) 0 z) fun k1 z2 => zc (fX19_read_ N 0 (sc 1) (sc 2) z2) fun r5 z6 => zc (fX19_thrown N 0 z6) fun r9 z10 => if r9 = k1 then (if ¬ k1 = 0 then (some (z10, ids, (cc + (rmL_read).cells), (ss + (rmL_read).slots))) else (if (lg_cmp (zgL z10 193 0 (Int32.toNatClampNeg (0 : Int32))) (Int32.toInt64 r5)) = 0 then (some (z10, ids, (cc + (rmL_read).cells), (ss + (rmL_read).slots))) else (none))) else (none)
set_option maxHeartbeats 8000000 in
set_option maxRecDepth 100000 in
theorem cLaw_12 (hst : zSt B ids) (h9 : zI9 ids) (F : zFx p m c cL_law 7 s args RL D cy B ids A) (hA : ∀ q : Nat, s.heap.size ≤ q → A q) (hlf : l.stackTraces = false) (hXK : zXK A s s.heap) (hLK : zLK s) (hAO : zAO s) (hX : va_X b L xs s s.heap) (hbl : b < s.heap.size) (hbA : ¬ A b) (h11 : (11, 0) ∈ ids) (h19 : (19, 0) ∈ ids) (h193 : (193, 0) ∈ ids) {N : Nat} {sc : Nat → Int32} {x4 : Int32} (hin0 : vp_in x4 L) (hva0 : xs (Int32.toNatClampNeg x4) = sc 0) (hin1 : vp_in (x4 + (1 : Int32)) L) (hva1 : xs (Int32.toNatClampNeg (x4 + (1 : Int32))) = sc 1) (hin2 : vp_in (x4 + (2 : Int32)) L) (hva2 : xs (Int32.toNatClampNeg (x4 + (2 : Int32))) = sc 2) (hin3 : vp_in (x4 + (3 : Int32)) L) (hva3 : xs (Int32.toNatClampNeg (x4 + (3 : Int32))) = sc 3) (hin4 : vp_in (x4 + (4 : Int32)) L) (hva4 : xs (Int32.toNatClampNeg (x4 + (4 : Int32))) = sc 4) (hin5 : vp_in (x4 + (5 : Int32)) L) (hva5 : xs (Int32.toNatClampNeg (x4 + (5 : Int32))) = sc 5) {cc ss : Nat} (hcs : cc ≤ room_1.cells ∧ ss ≤ room_1.slots) {z z' : St} {I' : List (Nat × Nat)} {c' s' : Nat} {H : Heap} {locs : List Loc} {ls : Array Slot} (hr : zRep D cy B ids A s.heap z H locs) (hl : lv_has ls 7 [(0, .ref b), (1, .ref (B 11 0)), (2, .ref (B 19 0)), (3, .ref (B 193 0)), (4, .int x4)])
    (K : ∀ (B1 : Nat → Nat → Nat) (H : Heap) (locs : List Loc) (ls : Array Slot), zSt B1 I' → zI9 I' → zFx p m c cL_law 7 s args RL D cy B1 I' A → (11, 0) ∈ I' → (19, 0) ∈ I' → (193, 0) ∈ I' → c' ≤ room_1.cells ∧ s' ≤ room_1.slots → zRep D cy B1 I' A s.heap z' H locs → lv_has ls 7 [(0, .ref b), (1, .ref (B1 11 0)), (2, .ref (B1 19 0)), (3, .ref (B1 193 0)), (4, .int x4)] → W p l e room_1 s m args below meth c H locs c' s' Q (F0 m 2079 ls []))
    (h : fLaw_12 N sc ids cc ss z = some (z', I', c', s')) : W p l e room_1 s m args below meth c H locs cc ss Q (F0 m 1175 ls []) := by
  unfold fLaw_12 at h
  refine lv_aload_n F.1 F.2.1 dL_law_1175 rfl (lv_at hl 1 rfl) ?_
  refine lv_aload_n F.1 F.2.1 dL_law_1176 rfl (lv_at hl 0 rfl) ?_
  refine lv_iload F.1 F.2.1 dL_law_1177 (lv_at hl 4 rfl) ?_
  refine lv_iconst (v := (1 : Int32)) F.1 F.2.1 dL_law_1179 (by decide) ?_
  refine lv_iadd F.1 F.2.1 dL_law_1180 ?_
  refine va_sld F.1 F.2.1 hX hbl hbA hr.2.1 hin1 dL_law_1181 ?_
  rw [hva1]
  refine lv_aload_n F.1 F.2.1 dL_law_1182 rfl (lv_at hl 0 rfl) ?_
  refine lv_iload F.1 F.2.1 dL_law_1183 (lv_at hl 4 rfl) ?_
  refine lv_iconst (v := (2 : Int32)) F.1 F.2.1 dL_law_1185 (by decide) ?_
  refine lv_iadd F.1 F.2.1 dL_law_1186 ?_
  refine va_sld F.1 F.2.1 hX hbl hbA hr.2.1 hin2 dL_law_1187 ?_
  rw [hva2]
  refine lv_aload_n F.1 F.2.1 dL_law_1188 rfl (lv_at hl 3 rfl) ?_
  replace h := zqc_some h
  obtain ⟨hg3, h⟩ := h
  replace h := zc_some h
  obtain ⟨k1, z2, hc4, h⟩ := h
  refine zr_callLi (zrun_L hXK hLK hA (As := [.ref (B 11 0), .int (sc 1), .int (sc 2), .ref (B 193 0)]) (rest := []) zq_1761 zq_1762 zq_1763 zq_0 hdL_read (okL_read l hlf D cy B ids hst N 0 h11 (sc 1) (sc 2) 0 h193 hr.2.2 hc4) F hr hl.1 rfl (by decide) dL_law_1189 hroL_L_read hg3) F hA hr (fun H locs hr => ?_)
  refine lv_istore (lv' := [(5, .int k1), (0, .ref b), (1, .ref (B 11 0)), (2, .ref (B 19 0)), (3, .ref (B 193 0)), (4, .int x4)]) F.1 F.2.1 dL_law_1192 hl (by decide) rfl (fun ls hl => ?_)
  refine lv_aload_n F.1 F.2.1 dL_law_1194 rfl (lv_at hl 3 rfl) ?_
  refine lv_aload_n F.1 F.2.1 dL_law_1195 rfl (lv_at hl 1 rfl) ?_
  refine lv_iload F.1 F.2.1 dL_law_1196 (lv_at hl 5 rfl) ?_
  refine lv_iconst (v := (1 : Int32)) F.1 F.2.1 dL_law_1198 (by decide) ?_
  refine lv_iadd F.1 F.2.1 dL_law_1199 ?_
  refine va_sld F.1 F.2.1 hX hbl hbA hr.2.1 hin1 dL_law_1200 ?_
  rw [hva1]
  refine lv_aload_n F.1 F.2.1 dL_law_1201 rfl (lv_at hl 1 rfl) ?_
  refine lv_iload F.1 F.2.1 dL_law_1202 (lv_at hl 5 rfl) ?_
  refine lv_iconst (v := (2 : Int32)) F.1 F.2.1 dL_law_1204 (by decide) ?_
  refine lv_iadd F.1 F.2.1 dL_law_1205 ?_
  refine va_sld F.1 F.2.1 hX hbl hbA hr.2.1 hin2 dL_law_1206 ?_
  rw [hva2]
  replace h := zc_some h
  obtain ⟨r5, z6, hc7, h⟩ := h
  refine zr_calli (zrun_V (As := [.int (sc 1), .int (sc 2)]) (rest := []) zq_3045 zq_3046 zs_X19_read_ zq_3048 zq_4 hdX19_read_ (by decide) (T := TX19) (N := 32) rfl (okX19_read_ l D cy B ids hst N 0 h19 (sc 1)  (sc 2)  hr.2.2 hc7) F hr h19 hl.1 rfl (by decide) dL_law_1207 rfl rfl hroL_X19_read_ hg3) F hA hr (fun H locs hw8 hr => ?_)
  clear hc7
  refine lv_istore (lv' := [(6, .int r5), (5, .int k1), (0, .ref b), (1, .ref (B 11 0)), (2, .ref (B 19 0)), (3, .ref (B 193 0)), (4, .int x4)]) F.1 F.2.1 dL_law_1210 hl (by decide) rfl (fun ls hl => ?_)
  refine lv_aload_n F.1 F.2.1 dL_law_1212 rfl (lv_at hl 4 rfl) ?_
  replace h := zc_some h
  obtain ⟨r9, z10, hc11, h⟩ := h
  refine zr_calli (zrun_V (As := []) (rest := []) zq_1982 zq_1983 zs_X19_thrown zq_1985 zq_4 hdX19_thrown (by decide) (T := TX19) (N := 32) rfl (okX19_thrown l D cy B ids hst N 0 h19 hr.2.2 hc11) F hr h19 hl.1 rfl (by decide) dL_law_1213 rfl rfl hroL_X19_thrown hg3) F hA hr (fun H locs hw12 hr => ?_)
  clear hc11
  refine lv_iload F.1 F.2.1 dL_law_1216 (lv_at hl 1 rfl) ?_
  refine lv_icmp_eq (tgt := 1223) F.1 F.2.1 dL_law_1218 (by decide) (fun c13 => ?_) (fun c13 => ?_)
  · replace h := zi_t c13 h
    refine lv_iload F.1 F.2.1 dL_law_1223 (lv_at hl 1 rfl) ?_
    refine lv_if_ne (tgt := 1240) F.1 F.2.1 dL_law_1225 (by decide) (fun c14 => ?_) (fun c14 => ?_)
    · replace h := zi_t c14 h
      refine lv_goto (tgt := 2079) F.1 F.2.1 dL_law_1240 (by decide) ?_
      obtain ⟨rfl, rfl, rfl, rfl⟩ := zret4 h
      exact K _ H locs ls hst h9 F h11 h19 h193 hg3 hr (lv_sub hl [2, 3, 4, 5, 6] rfl)
    · replace h := zi_f (fun q => q c14) h
      refine lv_aload_n F.1 F.2.1 dL_law_1228 rfl (lv_at hl 5 rfl) ?_
      refine lv_iconst (v := (0 : Int32)) F.1 F.2.1 dL_law_1229 (by decide) ?_
      refine zr_lald (k := 193) (by decide) rfl (by decide) F h193 hr dL_law_1230 (by unfold vp_in; decide) ?_
      refine lv_iload F.1 F.2.1 dL_law_1231 (lv_at hl 0 rfl) ?_
      refine lv_i2l F.1 F.2.1 dL_law_1233 rfl ?_
      refine W.lcmp F.1 F.2.1 dL_law_1234 ?_
      refine lv_if_eq (tgt := 1240) F.1 F.2.1 dL_law_1235 (by decide) (fun c16 => ?_) (fun c16 => ?_)
      · replace h := zi_t c16 h
        refine lv_goto (tgt := 2079) F.1 F.2.1 dL_law_1240 (by decide) ?_
        obtain ⟨rfl, rfl, rfl, rfl⟩ := zret4 h
        exact K _ H locs ls hst h9 F h11 h19 h193 hg3 hr (lv_sub hl [2, 3, 4, 5, 6] rfl)
      · replace h := zi_f c16 h
        refine lv_iconst (v := (0 : Int32)) F.1 F.2.1 dL_law_1238 (by decide) ?_
        cases h
  · replace h := zi_f c13 h
    refine lv_iconst (v := (0 : Int32)) F.1 F.2.1 dL_law_1221 (by decide) ?_
    cases h
noncomputable def fLaw_13 (N : Nat) (sc : Nat → Int32) (ids : List (Nat × Nat)) (cc ss : Nat) (z : St) : Option (St × List (Nat × Nat) × Nat × Nat) := zqc ((cc + (rmL_readAll).cells) ≤ room_1.cells ∧ (ss + (rmL_readAll).slots) ≤ room_1.slots) <| zc (fL_readAll N 0 (sc 1) (sc 2) (sc 3) 0 z) fun k1 z2 => zc (fX19_readAll N 0 (sc 1) (sc 2) (sc 3) z2) fun r5 z6 => zc (fX19_thrown N 0 z6) fun r9 z10 => if r9 = k1 then (if ¬ k1 = 0 then (some (z10, ids, (cc + (rmL_readAll).cells), (ss + (rmL_readAll).slots))) else (if (lg_cmp (zgL z10 193 0 (Int32.toNatClampNeg (0 : Int32))) (Int32.toInt64 r5)) = 0 then (some (z10, ids, (cc + (rmL_readAll).cells), (ss + (rmL_readAll).slots))) else (none))) else (none)
set_option maxHeartbeats 8000000 in
set_option maxRecDepth 100000 in
theorem cLaw_13 (hst : zSt B ids) (h9 : zI9 ids) (F : zFx p m c cL_law 7 s args RL D cy B ids A) (hA : ∀ q : Nat, s.heap.size ≤ q → A q) (hlf : l.stackTraces = false) (hXK : zXK A s s.heap) (hLK : zLK s) (hAO : zAO s) (hX : va_X b L xs s s.heap) (hbl : b < s.heap.size) (hbA : ¬ A b) (h11 : (11, 0) ∈ ids) (h19 : (19, 0) ∈ ids) (h193 : (193, 0) ∈ ids) {N : Nat} {sc : Nat → Int32} {x4 : Int32} (hin0 : vp_in x4 L) (hva0 : xs (Int32.toNatClampNeg x4) = sc 0) (hin1 : vp_in (x4 + (1 : Int32)) L) (hva1 : xs (Int32.toNatClampNeg (x4 + (1 : Int32))) = sc 1) (hin2 : vp_in (x4 + (2 : Int32)) L) (hva2 : xs (Int32.toNatClampNeg (x4 + (2 : Int32))) = sc 2) (hin3 : vp_in (x4 + (3 : Int32)) L) (hva3 : xs (Int32.toNatClampNeg (x4 + (3 : Int32))) = sc 3) (hin4 : vp_in (x4 + (4 : Int32)) L) (hva4 : xs (Int32.toNatClampNeg (x4 + (4 : Int32))) = sc 4) (hin5 : vp_in (x4 + (5 : Int32)) L) (hva5 : xs (Int32.toNatClampNeg (x4 + (5 : Int32))) = sc 5) {cc ss : Nat} (hcs : cc ≤ room_1.cells ∧ ss ≤ room_1.slots) {z z' : St} {I' : List (Nat × Nat)} {c' s' : Nat} {H : Heap} {locs : List Loc} {ls : Array Slot} (hr : zRep D cy B ids A s.heap z H locs) (hl : lv_has ls 7 [(0, .ref b), (1, .ref (B 11 0)), (2, .ref (B 19 0)), (3, .ref (B 193 0)), (4, .int x4)])
    (K : ∀ (B1 : Nat → Nat → Nat) (H : Heap) (locs : List Loc) (ls : Array Slot), zSt B1 I' → zI9 I' → zFx p m c cL_law 7 s args RL D cy B1 I' A → (11, 0) ∈ I' → (19, 0) ∈ I' → (193, 0) ∈ I' → c' ≤ room_1.cells ∧ s' ≤ room_1.slots → zRep D cy B1 I' A s.heap z' H locs → lv_has ls 7 [(0, .ref b), (1, .ref (B1 11 0)), (2, .ref (B1 19 0)), (3, .ref (B1 193 0)), (4, .int x4)] → W p l e room_1 s m args below meth c H locs c' s' Q (F0 m 2079 ls []))
    (h : fLaw_13 N sc ids cc ss z = some (z', I', c', s')) : W p l e room_1 s m args below meth c H locs cc ss Q (F0 m 1243 ls []) := by
  unfold fLaw_13 at h
  refine lv_aload_n F.1 F.2.1 dL_law_1243 rfl (lv_at hl 1 rfl) ?_
  refine lv_aload_n F.1 F.2.1 dL_law_1244 rfl (lv_at hl 0 rfl) ?_
  refine lv_iload F.1 F.2.1 dL_law_1245 (lv_at hl 4 rfl) ?_
  refine lv_iconst (v := (1 : Int32)) F.1 F.2.1 dL_law_1247 (by decide) ?_
  refine lv_iadd F.1 F.2.1 dL_law_1248 ?_
  refine va_sld F.1 F.2.1 hX hbl hbA hr.2.1 hin1 dL_law_1249 ?_
  rw [hva1]
  refine lv_aload_n F.1 F.2.1 dL_law_1250 rfl (lv_at hl 0 rfl) ?_
  refine lv_iload F.1 F.2.1 dL_law_1251 (lv_at hl 4 rfl) ?_
  refine lv_iconst (v := (2 : Int32)) F.1 F.2.1 dL_law_1253 (by decide) ?_
  refine lv_iadd F.1 F.2.1 dL_law_1254 ?_
  refine va_sld F.1 F.2.1 hX hbl hbA hr.2.1 hin2 dL_law_1255 ?_
  rw [hva2]
  refine lv_aload_n F.1 F.2.1 dL_law_1256 rfl (lv_at hl 0 rfl) ?_
  refine lv_iload F.1 F.2.1 dL_law_1257 (lv_at hl 4 rfl) ?_
  refine lv_iconst (v := (3 : Int32)) F.1 F.2.1 dL_law_1259 (by decide) ?_
  refine lv_iadd F.1 F.2.1 dL_law_1260 ?_
  refine va_sld F.1 F.2.1 hX hbl hbA hr.2.1 hin3 dL_law_1261 ?_
  rw [hva3]
  refine lv_aload_n F.1 F.2.1 dL_law_1262 rfl (lv_at hl 3 rfl) ?_
  replace h := zqc_some h
  obtain ⟨hg3, h⟩ := h
  replace h := zc_some h
  obtain ⟨k1, z2, hc4, h⟩ := h
  refine zr_callLi (zrun_L hXK hLK hA (As := [.ref (B 11 0), .int (sc 1), .int (sc 2), .int (sc 3), .ref (B 193 0)]) (rest := []) zq_1774 zq_1775 zq_1776 zq_0 hdL_readAll (okL_readAll l hlf D cy B ids hst N 0 h11 (sc 1) (sc 2) (sc 3) 0 h193 hr.2.2 hc4) F hr hl.1 rfl (by decide) dL_law_1263 hroL_L_readAll hg3) F hA hr (fun H locs hr => ?_)
  refine lv_istore (lv' := [(5, .int k1), (0, .ref b), (1, .ref (B 11 0)), (2, .ref (B 19 0)), (3, .ref (B 193 0)), (4, .int x4)]) F.1 F.2.1 dL_law_1266 hl (by decide) rfl (fun ls hl => ?_)
  refine lv_aload_n F.1 F.2.1 dL_law_1268 rfl (lv_at hl 3 rfl) ?_
  refine lv_aload_n F.1 F.2.1 dL_law_1269 rfl (lv_at hl 1 rfl) ?_
  refine lv_iload F.1 F.2.1 dL_law_1270 (lv_at hl 5 rfl) ?_
  refine lv_iconst (v := (1 : Int32)) F.1 F.2.1 dL_law_1272 (by decide) ?_
  refine lv_iadd F.1 F.2.1 dL_law_1273 ?_
  refine va_sld F.1 F.2.1 hX hbl hbA hr.2.1 hin1 dL_law_1274 ?_
  rw [hva1]
  refine lv_aload_n F.1 F.2.1 dL_law_1275 rfl (lv_at hl 1 rfl) ?_
  refine lv_iload F.1 F.2.1 dL_law_1276 (lv_at hl 5 rfl) ?_
  refine lv_iconst (v := (2 : Int32)) F.1 F.2.1 dL_law_1278 (by decide) ?_
  refine lv_iadd F.1 F.2.1 dL_law_1279 ?_
  refine va_sld F.1 F.2.1 hX hbl hbA hr.2.1 hin2 dL_law_1280 ?_
  rw [hva2]
  refine lv_aload_n F.1 F.2.1 dL_law_1281 rfl (lv_at hl 1 rfl) ?_
  refine lv_iload F.1 F.2.1 dL_law_1282 (lv_at hl 5 rfl) ?_
  refine lv_iconst (v := (3 : Int32)) F.1 F.2.1 dL_law_1284 (by decide) ?_
  refine lv_iadd F.1 F.2.1 dL_law_1285 ?_
  refine va_sld F.1 F.2.1 hX hbl hbA hr.2.1 hin3 dL_law_1286 ?_
  rw [hva3]
  replace h := zc_some h
  obtain ⟨r5, z6, hc7, h⟩ := h
  refine zr_calli (zrun_V (As := [.int (sc 1), .int (sc 2), .int (sc 3)]) (rest := []) zq_3052 zq_3053 zs_X19_readAll zq_3055 zq_4 hdX19_readAll (by decide) (T := TX19) (N := 32) rfl (okX19_readAll l D cy B ids hst N 0 h19 (sc 1)  (sc 2)  (sc 3)  hr.2.2 hc7) F hr h19 hl.1 rfl (by decide) dL_law_1287 rfl rfl hroL_X19_readAll hg3) F hA hr (fun H locs hw8 hr => ?_)
  clear hc7
  refine lv_istore (lv' := [(6, .int r5), (5, .int k1), (0, .ref b), (1, .ref (B 11 0)), (2, .ref (B 19 0)), (3, .ref (B 193 0)), (4, .int x4)]) F.1 F.2.1 dL_law_1290 hl (by decide) rfl (fun ls hl => ?_)
  refine lv_aload_n F.1 F.2.1 dL_law_1292 rfl (lv_at hl 4 rfl) ?_
  replace h := zc_some h
  obtain ⟨r9, z10, hc11, h⟩ := h
  refine zr_calli (zrun_V (As := []) (rest := []) zq_1982 zq_1983 zs_X19_thrown zq_1985 zq_4 hdX19_thrown (by decide) (T := TX19) (N := 32) rfl (okX19_thrown l D cy B ids hst N 0 h19 hr.2.2 hc11) F hr h19 hl.1 rfl (by decide) dL_law_1293 rfl rfl hroL_X19_thrown hg3) F hA hr (fun H locs hw12 hr => ?_)
  clear hc11
  refine lv_iload F.1 F.2.1 dL_law_1296 (lv_at hl 1 rfl) ?_
  refine lv_icmp_eq (tgt := 1303) F.1 F.2.1 dL_law_1298 (by decide) (fun c13 => ?_) (fun c13 => ?_)
  · replace h := zi_t c13 h
    refine lv_iload F.1 F.2.1 dL_law_1303 (lv_at hl 1 rfl) ?_
    refine lv_if_ne (tgt := 1320) F.1 F.2.1 dL_law_1305 (by decide) (fun c14 => ?_) (fun c14 => ?_)
    · replace h := zi_t c14 h
      refine lv_goto (tgt := 2079) F.1 F.2.1 dL_law_1320 (by decide) ?_
      obtain ⟨rfl, rfl, rfl, rfl⟩ := zret4 h
      exact K _ H locs ls hst h9 F h11 h19 h193 hg3 hr (lv_sub hl [2, 3, 4, 5, 6] rfl)
    · replace h := zi_f (fun q => q c14) h
      refine lv_aload_n F.1 F.2.1 dL_law_1308 rfl (lv_at hl 5 rfl) ?_
      refine lv_iconst (v := (0 : Int32)) F.1 F.2.1 dL_law_1309 (by decide) ?_
      refine zr_lald (k := 193) (by decide) rfl (by decide) F h193 hr dL_law_1310 (by unfold vp_in; decide) ?_
      refine lv_iload F.1 F.2.1 dL_law_1311 (lv_at hl 0 rfl) ?_
      refine lv_i2l F.1 F.2.1 dL_law_1313 rfl ?_
      refine W.lcmp F.1 F.2.1 dL_law_1314 ?_
      refine lv_if_eq (tgt := 1320) F.1 F.2.1 dL_law_1315 (by decide) (fun c16 => ?_) (fun c16 => ?_)
      · replace h := zi_t c16 h
        refine lv_goto (tgt := 2079) F.1 F.2.1 dL_law_1320 (by decide) ?_
        obtain ⟨rfl, rfl, rfl, rfl⟩ := zret4 h
        exact K _ H locs ls hst h9 F h11 h19 h193 hg3 hr (lv_sub hl [2, 3, 4, 5, 6] rfl)
      · replace h := zi_f c16 h
        refine lv_iconst (v := (0 : Int32)) F.1 F.2.1 dL_law_1318 (by decide) ?_
        cases h
  · replace h := zi_f c13 h
    refine lv_iconst (v := (0 : Int32)) F.1 F.2.1 dL_law_1301 (by decide) ?_
    cases h
noncomputable def fLaw_14 (N : Nat) (sc : Nat → Int32) (ids : List (Nat × Nat)) (cc ss : Nat) (z : St) : Option (St × List (Nat × Nat) × Nat × Nat) := zqc ((cc + (rmL_close).cells) ≤ room_1.cells ∧ (ss + (rmL_close).slots) ≤ room_1.slots) <| zc (fL_close N 0 (sc 1) (sc 2) z) fun k1 z2 => zc (fX19_close N 0 (sc 1) (sc 2) z2) fun _ z6 => zc (fX19_thrown N 0 z6) fun r9 z10 => if r9 = k1 then (some (z10, ids, (cc + (rmL_close).cells), (ss + (rmL_close).slots))) else (none)
set_option maxHeartbeats 8000000 in
set_option maxRecDepth 100000 in
theorem cLaw_14 (hst : zSt B ids) (h9 : zI9 ids) (F : zFx p m c cL_law 7 s args RL D cy B ids A) (hA : ∀ q : Nat, s.heap.size ≤ q → A q) (hlf : l.stackTraces = false) (hXK : zXK A s s.heap) (hLK : zLK s) (hAO : zAO s) (hX : va_X b L xs s s.heap) (hbl : b < s.heap.size) (hbA : ¬ A b) (h11 : (11, 0) ∈ ids) (h19 : (19, 0) ∈ ids) (h193 : (193, 0) ∈ ids) {N : Nat} {sc : Nat → Int32} {x4 : Int32} (hin0 : vp_in x4 L) (hva0 : xs (Int32.toNatClampNeg x4) = sc 0) (hin1 : vp_in (x4 + (1 : Int32)) L) (hva1 : xs (Int32.toNatClampNeg (x4 + (1 : Int32))) = sc 1) (hin2 : vp_in (x4 + (2 : Int32)) L) (hva2 : xs (Int32.toNatClampNeg (x4 + (2 : Int32))) = sc 2) (hin3 : vp_in (x4 + (3 : Int32)) L) (hva3 : xs (Int32.toNatClampNeg (x4 + (3 : Int32))) = sc 3) (hin4 : vp_in (x4 + (4 : Int32)) L) (hva4 : xs (Int32.toNatClampNeg (x4 + (4 : Int32))) = sc 4) (hin5 : vp_in (x4 + (5 : Int32)) L) (hva5 : xs (Int32.toNatClampNeg (x4 + (5 : Int32))) = sc 5) {cc ss : Nat} (hcs : cc ≤ room_1.cells ∧ ss ≤ room_1.slots) {z z' : St} {I' : List (Nat × Nat)} {c' s' : Nat} {H : Heap} {locs : List Loc} {ls : Array Slot} (hr : zRep D cy B ids A s.heap z H locs) (hl : lv_has ls 7 [(0, .ref b), (1, .ref (B 11 0)), (2, .ref (B 19 0)), (3, .ref (B 193 0)), (4, .int x4)])
    (K : ∀ (B1 : Nat → Nat → Nat) (H : Heap) (locs : List Loc) (ls : Array Slot), zSt B1 I' → zI9 I' → zFx p m c cL_law 7 s args RL D cy B1 I' A → (11, 0) ∈ I' → (19, 0) ∈ I' → (193, 0) ∈ I' → c' ≤ room_1.cells ∧ s' ≤ room_1.slots → zRep D cy B1 I' A s.heap z' H locs → lv_has ls 7 [(0, .ref b), (1, .ref (B1 11 0)), (2, .ref (B1 19 0)), (3, .ref (B1 193 0)), (4, .int x4)] → W p l e room_1 s m args below meth c H locs c' s' Q (F0 m 2079 ls []))
    (h : fLaw_14 N sc ids cc ss z = some (z', I', c', s')) : W p l e room_1 s m args below meth c H locs cc ss Q (F0 m 1323 ls []) := by
  unfold fLaw_14 at h
  refine lv_aload_n F.1 F.2.1 dL_law_1323 rfl (lv_at hl 1 rfl) ?_
  refine lv_aload_n F.1 F.2.1 dL_law_1324 rfl (lv_at hl 0 rfl) ?_
  refine lv_iload F.1 F.2.1 dL_law_1325 (lv_at hl 4 rfl) ?_
  refine lv_iconst (v := (1 : Int32)) F.1 F.2.1 dL_law_1327 (by decide) ?_
  refine lv_iadd F.1 F.2.1 dL_law_1328 ?_
  refine va_sld F.1 F.2.1 hX hbl hbA hr.2.1 hin1 dL_law_1329 ?_
  rw [hva1]
  refine lv_aload_n F.1 F.2.1 dL_law_1330 rfl (lv_at hl 0 rfl) ?_
  refine lv_iload F.1 F.2.1 dL_law_1331 (lv_at hl 4 rfl) ?_
  refine lv_iconst (v := (2 : Int32)) F.1 F.2.1 dL_law_1333 (by decide) ?_
  refine lv_iadd F.1 F.2.1 dL_law_1334 ?_
  refine va_sld F.1 F.2.1 hX hbl hbA hr.2.1 hin2 dL_law_1335 ?_
  rw [hva2]
  replace h := zqc_some h
  obtain ⟨hg3, h⟩ := h
  replace h := zc_some h
  obtain ⟨k1, z2, hc4, h⟩ := h
  refine zr_callLi (zrun_L hXK hLK hA (As := [.ref (B 11 0), .int (sc 1), .int (sc 2)]) (rest := []) zq_1781 zq_1782 zq_1783 zq_0 hdL_close (okL_close l hlf D cy B ids hst N 0 h11 (sc 1) (sc 2) hr.2.2 hc4) F hr hl.1 rfl (by decide) dL_law_1336 hroL_L_close hg3) F hA hr (fun H locs hr => ?_)
  refine lv_istore (lv' := [(5, .int k1), (0, .ref b), (1, .ref (B 11 0)), (2, .ref (B 19 0)), (3, .ref (B 193 0)), (4, .int x4)]) F.1 F.2.1 dL_law_1339 hl (by decide) rfl (fun ls hl => ?_)
  refine lv_aload_n F.1 F.2.1 dL_law_1341 rfl (lv_at hl 3 rfl) ?_
  refine lv_aload_n F.1 F.2.1 dL_law_1342 rfl (lv_at hl 1 rfl) ?_
  refine lv_iload F.1 F.2.1 dL_law_1343 (lv_at hl 5 rfl) ?_
  refine lv_iconst (v := (1 : Int32)) F.1 F.2.1 dL_law_1345 (by decide) ?_
  refine lv_iadd F.1 F.2.1 dL_law_1346 ?_
  refine va_sld F.1 F.2.1 hX hbl hbA hr.2.1 hin1 dL_law_1347 ?_
  rw [hva1]
  refine lv_aload_n F.1 F.2.1 dL_law_1348 rfl (lv_at hl 1 rfl) ?_
  refine lv_iload F.1 F.2.1 dL_law_1349 (lv_at hl 5 rfl) ?_
  refine lv_iconst (v := (2 : Int32)) F.1 F.2.1 dL_law_1351 (by decide) ?_
  refine lv_iadd F.1 F.2.1 dL_law_1352 ?_
  refine va_sld F.1 F.2.1 hX hbl hbA hr.2.1 hin2 dL_law_1353 ?_
  rw [hva2]
  replace h := zc_some h
  obtain ⟨r5, z6, hc7, h⟩ := h
  refine zr_callv (zrun_V (As := [.int (sc 1), .int (sc 2)]) (rest := []) zq_3056 zq_3057 zs_X19_close zq_3059 zq_4 hdX19_close (by decide) (T := TX19) (N := 32) rfl (okX19_close l D cy B ids hst N 0 h19 (sc 1)  (sc 2)  hr.2.2 hc7) F hr h19 hl.1 rfl (by decide) dL_law_1354 rfl rfl hroL_X19_close hg3) F hA hr (fun H locs hw8 hr => ?_)
  clear hc7
  refine lv_aload_n F.1 F.2.1 dL_law_1357 rfl (lv_at hl 3 rfl) ?_
  replace h := zc_some h
  obtain ⟨r9, z10, hc11, h⟩ := h
  refine zr_calli (zrun_V (As := []) (rest := []) zq_1982 zq_1983 zs_X19_thrown zq_1985 zq_4 hdX19_thrown (by decide) (T := TX19) (N := 32) rfl (okX19_thrown l D cy B ids hst N 0 h19 hr.2.2 hc11) F hr h19 hl.1 rfl (by decide) dL_law_1358 rfl rfl hroL_X19_thrown hg3) F hA hr (fun H locs hw12 hr => ?_)
  clear hc11
  refine lv_iload F.1 F.2.1 dL_law_1361 (lv_at hl 0 rfl) ?_
  refine lv_icmp_eq (tgt := 1368) F.1 F.2.1 dL_law_1363 (by decide) (fun c13 => ?_) (fun c13 => ?_)
  · replace h := zi_t c13 h
    refine lv_goto (tgt := 2079) F.1 F.2.1 dL_law_1368 (by decide) ?_
    obtain ⟨rfl, rfl, rfl, rfl⟩ := zret4 h
    exact K _ H locs ls hst h9 F h11 h19 h193 hg3 hr (lv_sub hl [1, 2, 3, 4, 5] rfl)
  · replace h := zi_f c13 h
    refine lv_iconst (v := (0 : Int32)) F.1 F.2.1 dL_law_1366 (by decide) ?_
    cases h
noncomputable def fLaw_15 (N : Nat) (sc : Nat → Int32) (ids : List (Nat × Nat)) (cc ss : Nat) (z : St) : Option (St × List (Nat × Nat) × Nat × Nat) := zqc ((cc + (rmL_abort).cells) ≤ room_1.cells ∧ (ss + (rmL_abort).slots) ≤ room_1.slots) <| zc (fL_abort N 0 (sc 1) (sc 2) z) fun k1 z2 => zc (fX19_abort N 0 (sc 1) (sc 2) z2) fun _ z6 => zc (fX19_thrown N 0 z6) fun r9 z10 => if r9 = k1 then (some (z10, ids, (cc + (rmL_abort).cells), (ss + (rmL_abort).slots))) else (none)
set_option maxHeartbeats 8000000 in
set_option maxRecDepth 100000 in
theorem cLaw_15 (hst : zSt B ids) (h9 : zI9 ids) (F : zFx p m c cL_law 7 s args RL D cy B ids A) (hA : ∀ q : Nat, s.heap.size ≤ q → A q) (hlf : l.stackTraces = false) (hXK : zXK A s s.heap) (hLK : zLK s) (hAO : zAO s) (hX : va_X b L xs s s.heap) (hbl : b < s.heap.size) (hbA : ¬ A b) (h11 : (11, 0) ∈ ids) (h19 : (19, 0) ∈ ids) (h193 : (193, 0) ∈ ids) {N : Nat} {sc : Nat → Int32} {x4 : Int32} (hin0 : vp_in x4 L) (hva0 : xs (Int32.toNatClampNeg x4) = sc 0) (hin1 : vp_in (x4 + (1 : Int32)) L) (hva1 : xs (Int32.toNatClampNeg (x4 + (1 : Int32))) = sc 1) (hin2 : vp_in (x4 + (2 : Int32)) L) (hva2 : xs (Int32.toNatClampNeg (x4 + (2 : Int32))) = sc 2) (hin3 : vp_in (x4 + (3 : Int32)) L) (hva3 : xs (Int32.toNatClampNeg (x4 + (3 : Int32))) = sc 3) (hin4 : vp_in (x4 + (4 : Int32)) L) (hva4 : xs (Int32.toNatClampNeg (x4 + (4 : Int32))) = sc 4) (hin5 : vp_in (x4 + (5 : Int32)) L) (hva5 : xs (Int32.toNatClampNeg (x4 + (5 : Int32))) = sc 5) {cc ss : Nat} (hcs : cc ≤ room_1.cells ∧ ss ≤ room_1.slots) {z z' : St} {I' : List (Nat × Nat)} {c' s' : Nat} {H : Heap} {locs : List Loc} {ls : Array Slot} (hr : zRep D cy B ids A s.heap z H locs) (hl : lv_has ls 7 [(0, .ref b), (1, .ref (B 11 0)), (2, .ref (B 19 0)), (3, .ref (B 193 0)), (4, .int x4)])
    (K : ∀ (B1 : Nat → Nat → Nat) (H : Heap) (locs : List Loc) (ls : Array Slot), zSt B1 I' → zI9 I' → zFx p m c cL_law 7 s args RL D cy B1 I' A → (11, 0) ∈ I' → (19, 0) ∈ I' → (193, 0) ∈ I' → c' ≤ room_1.cells ∧ s' ≤ room_1.slots → zRep D cy B1 I' A s.heap z' H locs → lv_has ls 7 [(0, .ref b), (1, .ref (B1 11 0)), (2, .ref (B1 19 0)), (3, .ref (B1 193 0)), (4, .int x4)] → W p l e room_1 s m args below meth c H locs c' s' Q (F0 m 2079 ls []))
    (h : fLaw_15 N sc ids cc ss z = some (z', I', c', s')) : W p l e room_1 s m args below meth c H locs cc ss Q (F0 m 1371 ls []) := by
  unfold fLaw_15 at h
  refine lv_aload_n F.1 F.2.1 dL_law_1371 rfl (lv_at hl 1 rfl) ?_
  refine lv_aload_n F.1 F.2.1 dL_law_1372 rfl (lv_at hl 0 rfl) ?_
  refine lv_iload F.1 F.2.1 dL_law_1373 (lv_at hl 4 rfl) ?_
  refine lv_iconst (v := (1 : Int32)) F.1 F.2.1 dL_law_1375 (by decide) ?_
  refine lv_iadd F.1 F.2.1 dL_law_1376 ?_
  refine va_sld F.1 F.2.1 hX hbl hbA hr.2.1 hin1 dL_law_1377 ?_
  rw [hva1]
  refine lv_aload_n F.1 F.2.1 dL_law_1378 rfl (lv_at hl 0 rfl) ?_
  refine lv_iload F.1 F.2.1 dL_law_1379 (lv_at hl 4 rfl) ?_
  refine lv_iconst (v := (2 : Int32)) F.1 F.2.1 dL_law_1381 (by decide) ?_
  refine lv_iadd F.1 F.2.1 dL_law_1382 ?_
  refine va_sld F.1 F.2.1 hX hbl hbA hr.2.1 hin2 dL_law_1383 ?_
  rw [hva2]
  replace h := zqc_some h
  obtain ⟨hg3, h⟩ := h
  replace h := zc_some h
  obtain ⟨k1, z2, hc4, h⟩ := h
  refine zr_callLi (zrun_L hXK hLK hA (As := [.ref (B 11 0), .int (sc 1), .int (sc 2)]) (rest := []) zq_1802 zq_1803 zq_1804 zq_0 hdL_abort (okL_abort l hlf D cy B ids hst N 0 h11 (sc 1) (sc 2) hr.2.2 hc4) F hr hl.1 rfl (by decide) dL_law_1384 hroL_L_abort hg3) F hA hr (fun H locs hr => ?_)
  refine lv_istore (lv' := [(5, .int k1), (0, .ref b), (1, .ref (B 11 0)), (2, .ref (B 19 0)), (3, .ref (B 193 0)), (4, .int x4)]) F.1 F.2.1 dL_law_1387 hl (by decide) rfl (fun ls hl => ?_)
  refine lv_aload_n F.1 F.2.1 dL_law_1389 rfl (lv_at hl 3 rfl) ?_
  refine lv_aload_n F.1 F.2.1 dL_law_1390 rfl (lv_at hl 1 rfl) ?_
  refine lv_iload F.1 F.2.1 dL_law_1391 (lv_at hl 5 rfl) ?_
  refine lv_iconst (v := (1 : Int32)) F.1 F.2.1 dL_law_1393 (by decide) ?_
  refine lv_iadd F.1 F.2.1 dL_law_1394 ?_
  refine va_sld F.1 F.2.1 hX hbl hbA hr.2.1 hin1 dL_law_1395 ?_
  rw [hva1]
  refine lv_aload_n F.1 F.2.1 dL_law_1396 rfl (lv_at hl 1 rfl) ?_
  refine lv_iload F.1 F.2.1 dL_law_1397 (lv_at hl 5 rfl) ?_
  refine lv_iconst (v := (2 : Int32)) F.1 F.2.1 dL_law_1399 (by decide) ?_
  refine lv_iadd F.1 F.2.1 dL_law_1400 ?_
  refine va_sld F.1 F.2.1 hX hbl hbA hr.2.1 hin2 dL_law_1401 ?_
  rw [hva2]
  replace h := zc_some h
  obtain ⟨r5, z6, hc7, h⟩ := h
  refine zr_callv (zrun_V (As := [.int (sc 1), .int (sc 2)]) (rest := []) zq_3069 zq_3070 zs_X19_abort zq_3072 zq_4 hdX19_abort (by decide) (T := TX19) (N := 32) rfl (okX19_abort l D cy B ids hst N 0 h19 (sc 1)  (sc 2)  hr.2.2 hc7) F hr h19 hl.1 rfl (by decide) dL_law_1402 rfl rfl hroL_X19_abort hg3) F hA hr (fun H locs hw8 hr => ?_)
  clear hc7
  refine lv_aload_n F.1 F.2.1 dL_law_1405 rfl (lv_at hl 3 rfl) ?_
  replace h := zc_some h
  obtain ⟨r9, z10, hc11, h⟩ := h
  refine zr_calli (zrun_V (As := []) (rest := []) zq_1982 zq_1983 zs_X19_thrown zq_1985 zq_4 hdX19_thrown (by decide) (T := TX19) (N := 32) rfl (okX19_thrown l D cy B ids hst N 0 h19 hr.2.2 hc11) F hr h19 hl.1 rfl (by decide) dL_law_1406 rfl rfl hroL_X19_thrown hg3) F hA hr (fun H locs hw12 hr => ?_)
  clear hc11
  refine lv_iload F.1 F.2.1 dL_law_1409 (lv_at hl 0 rfl) ?_
  refine lv_icmp_eq (tgt := 1416) F.1 F.2.1 dL_law_1411 (by decide) (fun c13 => ?_) (fun c13 => ?_)
  · replace h := zi_t c13 h
    refine lv_goto (tgt := 2079) F.1 F.2.1 dL_law_1416 (by decide) ?_
    obtain ⟨rfl, rfl, rfl, rfl⟩ := zret4 h
    exact K _ H locs ls hst h9 F h11 h19 h193 hg3 hr (lv_sub hl [1, 2, 3, 4, 5] rfl)
  · replace h := zi_f c13 h
    refine lv_iconst (v := (0 : Int32)) F.1 F.2.1 dL_law_1414 (by decide) ?_
    cases h
noncomputable def fLaw_16 (N : Nat) (sc : Nat → Int32) (ids : List (Nat × Nat)) (cc ss : Nat) (z : St) : Option (St × List (Nat × Nat) × Nat × Nat) := zqc ((cc + (rmL_door).cells) ≤ room_1.cells ∧ (ss + (rmL_door).slots) ≤ room_1.slots) <| zc (fL_door N 0 (sc 1) (sc 2) (sc 3) 0 z) fun k1 z2 => zc (fX19_door N 0 (sc 1) (sc 2) (sc 3) z2) fun r5 z6 => zc (fX19_thrown N 0 z6) fun r9 z10 => if r9 = k1 then (if ¬ k1 = 0 then (some (z10, ids, (cc + (rmL_door).cells), (ss + (rmL_door).slots))) else (if (lg_cmp (zgL z10 193 0 (Int32.toNatClampNeg (0 : Int32))) (Int32.toInt64 r5)) = 0 then (some (z10, ids, (cc + (rmL_door).cells), (ss + (rmL_door).slots))) else (none))) else (none)
set_option maxHeartbeats 8000000 in
set_option maxRecDepth 100000 in
theorem cLaw_16 (hst : zSt B ids) (h9 : zI9 ids) (F : zFx p m c cL_law 7 s args RL D cy B ids A) (hA : ∀ q : Nat, s.heap.size ≤ q → A q) (hlf : l.stackTraces = false) (hXK : zXK A s s.heap) (hLK : zLK s) (hAO : zAO s) (hX : va_X b L xs s s.heap) (hbl : b < s.heap.size) (hbA : ¬ A b) (h11 : (11, 0) ∈ ids) (h19 : (19, 0) ∈ ids) (h193 : (193, 0) ∈ ids) {N : Nat} {sc : Nat → Int32} {x4 : Int32} (hin0 : vp_in x4 L) (hva0 : xs (Int32.toNatClampNeg x4) = sc 0) (hin1 : vp_in (x4 + (1 : Int32)) L) (hva1 : xs (Int32.toNatClampNeg (x4 + (1 : Int32))) = sc 1) (hin2 : vp_in (x4 + (2 : Int32)) L) (hva2 : xs (Int32.toNatClampNeg (x4 + (2 : Int32))) = sc 2) (hin3 : vp_in (x4 + (3 : Int32)) L) (hva3 : xs (Int32.toNatClampNeg (x4 + (3 : Int32))) = sc 3) (hin4 : vp_in (x4 + (4 : Int32)) L) (hva4 : xs (Int32.toNatClampNeg (x4 + (4 : Int32))) = sc 4) (hin5 : vp_in (x4 + (5 : Int32)) L) (hva5 : xs (Int32.toNatClampNeg (x4 + (5 : Int32))) = sc 5) {cc ss : Nat} (hcs : cc ≤ room_1.cells ∧ ss ≤ room_1.slots) {z z' : St} {I' : List (Nat × Nat)} {c' s' : Nat} {H : Heap} {locs : List Loc} {ls : Array Slot} (hr : zRep D cy B ids A s.heap z H locs) (hl : lv_has ls 7 [(0, .ref b), (1, .ref (B 11 0)), (2, .ref (B 19 0)), (3, .ref (B 193 0)), (4, .int x4)])
    (K : ∀ (B1 : Nat → Nat → Nat) (H : Heap) (locs : List Loc) (ls : Array Slot), zSt B1 I' → zI9 I' → zFx p m c cL_law 7 s args RL D cy B1 I' A → (11, 0) ∈ I' → (19, 0) ∈ I' → (193, 0) ∈ I' → c' ≤ room_1.cells ∧ s' ≤ room_1.slots → zRep D cy B1 I' A s.heap z' H locs → lv_has ls 7 [(0, .ref b), (1, .ref (B1 11 0)), (2, .ref (B1 19 0)), (3, .ref (B1 193 0)), (4, .int x4)] → W p l e room_1 s m args below meth c H locs c' s' Q (F0 m 2079 ls []))
    (h : fLaw_16 N sc ids cc ss z = some (z', I', c', s')) : W p l e room_1 s m args below meth c H locs cc ss Q (F0 m 1419 ls []) := by
  unfold fLaw_16 at h
  refine lv_aload_n F.1 F.2.1 dL_law_1419 rfl (lv_at hl 1 rfl) ?_
  refine lv_aload_n F.1 F.2.1 dL_law_1420 rfl (lv_at hl 0 rfl) ?_
  refine lv_iload F.1 F.2.1 dL_law_1421 (lv_at hl 4 rfl) ?_
  refine lv_iconst (v := (1 : Int32)) F.1 F.2.1 dL_law_1423 (by decide) ?_
  refine lv_iadd F.1 F.2.1 dL_law_1424 ?_
  refine va_sld F.1 F.2.1 hX hbl hbA hr.2.1 hin1 dL_law_1425 ?_
  rw [hva1]
  refine lv_aload_n F.1 F.2.1 dL_law_1426 rfl (lv_at hl 0 rfl) ?_
  refine lv_iload F.1 F.2.1 dL_law_1427 (lv_at hl 4 rfl) ?_
  refine lv_iconst (v := (2 : Int32)) F.1 F.2.1 dL_law_1429 (by decide) ?_
  refine lv_iadd F.1 F.2.1 dL_law_1430 ?_
  refine va_sld F.1 F.2.1 hX hbl hbA hr.2.1 hin2 dL_law_1431 ?_
  rw [hva2]
  refine lv_aload_n F.1 F.2.1 dL_law_1432 rfl (lv_at hl 0 rfl) ?_
  refine lv_iload F.1 F.2.1 dL_law_1433 (lv_at hl 4 rfl) ?_
  refine lv_iconst (v := (3 : Int32)) F.1 F.2.1 dL_law_1435 (by decide) ?_
  refine lv_iadd F.1 F.2.1 dL_law_1436 ?_
  refine va_sld F.1 F.2.1 hX hbl hbA hr.2.1 hin3 dL_law_1437 ?_
  rw [hva3]
  refine lv_aload_n F.1 F.2.1 dL_law_1438 rfl (lv_at hl 3 rfl) ?_
  replace h := zqc_some h
  obtain ⟨hg3, h⟩ := h
  replace h := zc_some h
  obtain ⟨k1, z2, hc4, h⟩ := h
  refine zr_callLi (zrun_L hXK hLK hA (As := [.ref (B 11 0), .int (sc 1), .int (sc 2), .int (sc 3), .ref (B 193 0)]) (rest := []) zq_1810 zq_1811 zq_1812 zq_0 hdL_door (okL_door l hlf D cy B ids hst N 0 h11 (sc 1) (sc 2) (sc 3) 0 h193 hr.2.2 hc4) F hr hl.1 rfl (by decide) dL_law_1439 hroL_L_door hg3) F hA hr (fun H locs hr => ?_)
  refine lv_istore (lv' := [(5, .int k1), (0, .ref b), (1, .ref (B 11 0)), (2, .ref (B 19 0)), (3, .ref (B 193 0)), (4, .int x4)]) F.1 F.2.1 dL_law_1442 hl (by decide) rfl (fun ls hl => ?_)
  refine lv_aload_n F.1 F.2.1 dL_law_1444 rfl (lv_at hl 3 rfl) ?_
  refine lv_aload_n F.1 F.2.1 dL_law_1445 rfl (lv_at hl 1 rfl) ?_
  refine lv_iload F.1 F.2.1 dL_law_1446 (lv_at hl 5 rfl) ?_
  refine lv_iconst (v := (1 : Int32)) F.1 F.2.1 dL_law_1448 (by decide) ?_
  refine lv_iadd F.1 F.2.1 dL_law_1449 ?_
  refine va_sld F.1 F.2.1 hX hbl hbA hr.2.1 hin1 dL_law_1450 ?_
  rw [hva1]
  refine lv_aload_n F.1 F.2.1 dL_law_1451 rfl (lv_at hl 1 rfl) ?_
  refine lv_iload F.1 F.2.1 dL_law_1452 (lv_at hl 5 rfl) ?_
  refine lv_iconst (v := (2 : Int32)) F.1 F.2.1 dL_law_1454 (by decide) ?_
  refine lv_iadd F.1 F.2.1 dL_law_1455 ?_
  refine va_sld F.1 F.2.1 hX hbl hbA hr.2.1 hin2 dL_law_1456 ?_
  rw [hva2]
  refine lv_aload_n F.1 F.2.1 dL_law_1457 rfl (lv_at hl 1 rfl) ?_
  refine lv_iload F.1 F.2.1 dL_law_1458 (lv_at hl 5 rfl) ?_
  refine lv_iconst (v := (3 : Int32)) F.1 F.2.1 dL_law_1460 (by decide) ?_
  refine lv_iadd F.1 F.2.1 dL_law_1461 ?_
  refine va_sld F.1 F.2.1 hX hbl hbA hr.2.1 hin3 dL_law_1462 ?_
  rw [hva3]
  replace h := zc_some h
  obtain ⟨r5, z6, hc7, h⟩ := h
  refine zr_calli (zrun_V (As := [.int (sc 1), .int (sc 2), .int (sc 3)]) (rest := []) zq_3073 zq_3074 zs_X19_door zq_3076 zq_4 hdX19_door (by decide) (T := TX19) (N := 32) rfl (okX19_door l D cy B ids hst N 0 h19 (sc 1)  (sc 2)  (sc 3)  hr.2.2 hc7) F hr h19 hl.1 rfl (by decide) dL_law_1463 rfl rfl hroL_X19_door hg3) F hA hr (fun H locs hw8 hr => ?_)
  clear hc7
  refine lv_istore (lv' := [(6, .int r5), (5, .int k1), (0, .ref b), (1, .ref (B 11 0)), (2, .ref (B 19 0)), (3, .ref (B 193 0)), (4, .int x4)]) F.1 F.2.1 dL_law_1466 hl (by decide) rfl (fun ls hl => ?_)
  refine lv_aload_n F.1 F.2.1 dL_law_1468 rfl (lv_at hl 4 rfl) ?_
  replace h := zc_some h
  obtain ⟨r9, z10, hc11, h⟩ := h
  refine zr_calli (zrun_V (As := []) (rest := []) zq_1982 zq_1983 zs_X19_thrown zq_1985 zq_4 hdX19_thrown (by decide) (T := TX19) (N := 32) rfl (okX19_thrown l D cy B ids hst N 0 h19 hr.2.2 hc11) F hr h19 hl.1 rfl (by decide) dL_law_1469 rfl rfl hroL_X19_thrown hg3) F hA hr (fun H locs hw12 hr => ?_)
  clear hc11
  refine lv_iload F.1 F.2.1 dL_law_1472 (lv_at hl 1 rfl) ?_
  refine lv_icmp_eq (tgt := 1479) F.1 F.2.1 dL_law_1474 (by decide) (fun c13 => ?_) (fun c13 => ?_)
  · replace h := zi_t c13 h
    refine lv_iload F.1 F.2.1 dL_law_1479 (lv_at hl 1 rfl) ?_
    refine lv_if_ne (tgt := 1496) F.1 F.2.1 dL_law_1481 (by decide) (fun c14 => ?_) (fun c14 => ?_)
    · replace h := zi_t c14 h
      refine lv_goto (tgt := 2079) F.1 F.2.1 dL_law_1496 (by decide) ?_
      obtain ⟨rfl, rfl, rfl, rfl⟩ := zret4 h
      exact K _ H locs ls hst h9 F h11 h19 h193 hg3 hr (lv_sub hl [2, 3, 4, 5, 6] rfl)
    · replace h := zi_f (fun q => q c14) h
      refine lv_aload_n F.1 F.2.1 dL_law_1484 rfl (lv_at hl 5 rfl) ?_
      refine lv_iconst (v := (0 : Int32)) F.1 F.2.1 dL_law_1485 (by decide) ?_
      refine zr_lald (k := 193) (by decide) rfl (by decide) F h193 hr dL_law_1486 (by unfold vp_in; decide) ?_
      refine lv_iload F.1 F.2.1 dL_law_1487 (lv_at hl 0 rfl) ?_
      refine lv_i2l F.1 F.2.1 dL_law_1489 rfl ?_
      refine W.lcmp F.1 F.2.1 dL_law_1490 ?_
      refine lv_if_eq (tgt := 1496) F.1 F.2.1 dL_law_1491 (by decide) (fun c16 => ?_) (fun c16 => ?_)
      · replace h := zi_t c16 h
        refine lv_goto (tgt := 2079) F.1 F.2.1 dL_law_1496 (by decide) ?_
        obtain ⟨rfl, rfl, rfl, rfl⟩ := zret4 h
        exact K _ H locs ls hst h9 F h11 h19 h193 hg3 hr (lv_sub hl [2, 3, 4, 5, 6] rfl)
      · replace h := zi_f c16 h
        refine lv_iconst (v := (0 : Int32)) F.1 F.2.1 dL_law_1494 (by decide) ?_
        cases h
  · replace h := zi_f c13 h
    refine lv_iconst (v := (0 : Int32)) F.1 F.2.1 dL_law_1477 (by decide) ?_
    cases h
noncomputable def fLaw_17 (N : Nat) (sc : Nat → Int32) (ids : List (Nat × Nat)) (cc ss : Nat) (z : St) : Option (St × List (Nat × Nat) × Nat × Nat) := zqc ((cc + (rmL_way).cells) ≤ room_1.cells ∧ (ss + (rmL_way).slots) ≤ room_1.slots) <| zc (fL_way N 0 (sc 1) (sc 2) (sc 3) 0 z) fun k1 z2 => zc (fX19_way N 0 (sc 1) (sc 2) (sc 3) z2) fun r5 z6 => zc (fX19_thrown N 0 z6) fun r9 z10 => if r9 = k1 then (if ¬ k1 = 0 then (some (z10, ids, (cc + (rmL_way).cells), (ss + (rmL_way).slots))) else (if (lg_cmp (zgL z10 193 0 (Int32.toNatClampNeg (0 : Int32))) (Int32.toInt64 r5)) = 0 then (some (z10, ids, (cc + (rmL_way).cells), (ss + (rmL_way).slots))) else (none))) else (none)
set_option maxHeartbeats 8000000 in
set_option maxRecDepth 100000 in
theorem cLaw_17 (hst : zSt B ids) (h9 : zI9 ids) (F : zFx p m c cL_law 7 s args RL D cy B ids A) (hA : ∀ q : Nat, s.heap.size ≤ q → A q) (hlf : l.stackTraces = false) (hXK : zXK A s s.heap) (hLK : zLK s) (hAO : zAO s) (hX : va_X b L xs s s.heap) (hbl : b < s.heap.size) (hbA : ¬ A b) (h11 : (11, 0) ∈ ids) (h19 : (19, 0) ∈ ids) (h193 : (193, 0) ∈ ids) {N : Nat} {sc : Nat → Int32} {x4 : Int32} (hin0 : vp_in x4 L) (hva0 : xs (Int32.toNatClampNeg x4) = sc 0) (hin1 : vp_in (x4 + (1 : Int32)) L) (hva1 : xs (Int32.toNatClampNeg (x4 + (1 : Int32))) = sc 1) (hin2 : vp_in (x4 + (2 : Int32)) L) (hva2 : xs (Int32.toNatClampNeg (x4 + (2 : Int32))) = sc 2) (hin3 : vp_in (x4 + (3 : Int32)) L) (hva3 : xs (Int32.toNatClampNeg (x4 + (3 : Int32))) = sc 3) (hin4 : vp_in (x4 + (4 : Int32)) L) (hva4 : xs (Int32.toNatClampNeg (x4 + (4 : Int32))) = sc 4) (hin5 : vp_in (x4 + (5 : Int32)) L) (hva5 : xs (Int32.toNatClampNeg (x4 + (5 : Int32))) = sc 5) {cc ss : Nat} (hcs : cc ≤ room_1.cells ∧ ss ≤ room_1.slots) {z z' : St} {I' : List (Nat × Nat)} {c' s' : Nat} {H : Heap} {locs : List Loc} {ls : Array Slot} (hr : zRep D cy B ids A s.heap z H locs) (hl : lv_has ls 7 [(0, .ref b), (1, .ref (B 11 0)), (2, .ref (B 19 0)), (3, .ref (B 193 0)), (4, .int x4)])
    (K : ∀ (B1 : Nat → Nat → Nat) (H : Heap) (locs : List Loc) (ls : Array Slot), zSt B1 I' → zI9 I' → zFx p m c cL_law 7 s args RL D cy B1 I' A → (11, 0) ∈ I' → (19, 0) ∈ I' → (193, 0) ∈ I' → c' ≤ room_1.cells ∧ s' ≤ room_1.slots → zRep D cy B1 I' A s.heap z' H locs → lv_has ls 7 [(0, .ref b), (1, .ref (B1 11 0)), (2, .ref (B1 19 0)), (3, .ref (B1 193 0)), (4, .int x4)] → W p l e room_1 s m args below meth c H locs c' s' Q (F0 m 2079 ls []))
    (h : fLaw_17 N sc ids cc ss z = some (z', I', c', s')) : W p l e room_1 s m args below meth c H locs cc ss Q (F0 m 1499 ls []) := by
  unfold fLaw_17 at h
  refine lv_aload_n F.1 F.2.1 dL_law_1499 rfl (lv_at hl 1 rfl) ?_
  refine lv_aload_n F.1 F.2.1 dL_law_1500 rfl (lv_at hl 0 rfl) ?_
  refine lv_iload F.1 F.2.1 dL_law_1501 (lv_at hl 4 rfl) ?_
  refine lv_iconst (v := (1 : Int32)) F.1 F.2.1 dL_law_1503 (by decide) ?_
  refine lv_iadd F.1 F.2.1 dL_law_1504 ?_
  refine va_sld F.1 F.2.1 hX hbl hbA hr.2.1 hin1 dL_law_1505 ?_
  rw [hva1]
  refine lv_aload_n F.1 F.2.1 dL_law_1506 rfl (lv_at hl 0 rfl) ?_
  refine lv_iload F.1 F.2.1 dL_law_1507 (lv_at hl 4 rfl) ?_
  refine lv_iconst (v := (2 : Int32)) F.1 F.2.1 dL_law_1509 (by decide) ?_
  refine lv_iadd F.1 F.2.1 dL_law_1510 ?_
  refine va_sld F.1 F.2.1 hX hbl hbA hr.2.1 hin2 dL_law_1511 ?_
  rw [hva2]
  refine lv_aload_n F.1 F.2.1 dL_law_1512 rfl (lv_at hl 0 rfl) ?_
  refine lv_iload F.1 F.2.1 dL_law_1513 (lv_at hl 4 rfl) ?_
  refine lv_iconst (v := (3 : Int32)) F.1 F.2.1 dL_law_1515 (by decide) ?_
  refine lv_iadd F.1 F.2.1 dL_law_1516 ?_
  refine va_sld F.1 F.2.1 hX hbl hbA hr.2.1 hin3 dL_law_1517 ?_
  rw [hva3]
  refine lv_aload_n F.1 F.2.1 dL_law_1518 rfl (lv_at hl 3 rfl) ?_
  replace h := zqc_some h
  obtain ⟨hg3, h⟩ := h
  replace h := zc_some h
  obtain ⟨k1, z2, hc4, h⟩ := h
  refine zr_callLi (zrun_L hXK hLK hA (As := [.ref (B 11 0), .int (sc 1), .int (sc 2), .int (sc 3), .ref (B 193 0)]) (rest := []) zq_1818 zq_1819 zq_1820 zq_0 hdL_way (okL_way l hlf D cy B ids hst N 0 h11 (sc 1) (sc 2) (sc 3) 0 h193 hr.2.2 hc4) F hr hl.1 rfl (by decide) dL_law_1519 hroL_L_way hg3) F hA hr (fun H locs hr => ?_)
  refine lv_istore (lv' := [(5, .int k1), (0, .ref b), (1, .ref (B 11 0)), (2, .ref (B 19 0)), (3, .ref (B 193 0)), (4, .int x4)]) F.1 F.2.1 dL_law_1522 hl (by decide) rfl (fun ls hl => ?_)
  refine lv_aload_n F.1 F.2.1 dL_law_1524 rfl (lv_at hl 3 rfl) ?_
  refine lv_aload_n F.1 F.2.1 dL_law_1525 rfl (lv_at hl 1 rfl) ?_
  refine lv_iload F.1 F.2.1 dL_law_1526 (lv_at hl 5 rfl) ?_
  refine lv_iconst (v := (1 : Int32)) F.1 F.2.1 dL_law_1528 (by decide) ?_
  refine lv_iadd F.1 F.2.1 dL_law_1529 ?_
  refine va_sld F.1 F.2.1 hX hbl hbA hr.2.1 hin1 dL_law_1530 ?_
  rw [hva1]
  refine lv_aload_n F.1 F.2.1 dL_law_1531 rfl (lv_at hl 1 rfl) ?_
  refine lv_iload F.1 F.2.1 dL_law_1532 (lv_at hl 5 rfl) ?_
  refine lv_iconst (v := (2 : Int32)) F.1 F.2.1 dL_law_1534 (by decide) ?_
  refine lv_iadd F.1 F.2.1 dL_law_1535 ?_
  refine va_sld F.1 F.2.1 hX hbl hbA hr.2.1 hin2 dL_law_1536 ?_
  rw [hva2]
  refine lv_aload_n F.1 F.2.1 dL_law_1537 rfl (lv_at hl 1 rfl) ?_
  refine lv_iload F.1 F.2.1 dL_law_1538 (lv_at hl 5 rfl) ?_
  refine lv_iconst (v := (3 : Int32)) F.1 F.2.1 dL_law_1540 (by decide) ?_
  refine lv_iadd F.1 F.2.1 dL_law_1541 ?_
  refine va_sld F.1 F.2.1 hX hbl hbA hr.2.1 hin3 dL_law_1542 ?_
  rw [hva3]
  replace h := zc_some h
  obtain ⟨r5, z6, hc7, h⟩ := h
  refine zr_calli (zrun_V (As := [.int (sc 1), .int (sc 2), .int (sc 3)]) (rest := []) zq_3077 zq_3078 zs_X19_way zq_3080 zq_4 hdX19_way (by decide) (T := TX19) (N := 32) rfl (okX19_way l D cy B ids hst N 0 h19 (sc 1)  (sc 2)  (sc 3)  hr.2.2 hc7) F hr h19 hl.1 rfl (by decide) dL_law_1543 rfl rfl hroL_X19_way hg3) F hA hr (fun H locs hw8 hr => ?_)
  clear hc7
  refine lv_istore (lv' := [(6, .int r5), (5, .int k1), (0, .ref b), (1, .ref (B 11 0)), (2, .ref (B 19 0)), (3, .ref (B 193 0)), (4, .int x4)]) F.1 F.2.1 dL_law_1546 hl (by decide) rfl (fun ls hl => ?_)
  refine lv_aload_n F.1 F.2.1 dL_law_1548 rfl (lv_at hl 4 rfl) ?_
  replace h := zc_some h
  obtain ⟨r9, z10, hc11, h⟩ := h
  refine zr_calli (zrun_V (As := []) (rest := []) zq_1982 zq_1983 zs_X19_thrown zq_1985 zq_4 hdX19_thrown (by decide) (T := TX19) (N := 32) rfl (okX19_thrown l D cy B ids hst N 0 h19 hr.2.2 hc11) F hr h19 hl.1 rfl (by decide) dL_law_1549 rfl rfl hroL_X19_thrown hg3) F hA hr (fun H locs hw12 hr => ?_)
  clear hc11
  refine lv_iload F.1 F.2.1 dL_law_1552 (lv_at hl 1 rfl) ?_
  refine lv_icmp_eq (tgt := 1559) F.1 F.2.1 dL_law_1554 (by decide) (fun c13 => ?_) (fun c13 => ?_)
  · replace h := zi_t c13 h
    refine lv_iload F.1 F.2.1 dL_law_1559 (lv_at hl 1 rfl) ?_
    refine lv_if_ne (tgt := 1576) F.1 F.2.1 dL_law_1561 (by decide) (fun c14 => ?_) (fun c14 => ?_)
    · replace h := zi_t c14 h
      refine lv_goto (tgt := 2079) F.1 F.2.1 dL_law_1576 (by decide) ?_
      obtain ⟨rfl, rfl, rfl, rfl⟩ := zret4 h
      exact K _ H locs ls hst h9 F h11 h19 h193 hg3 hr (lv_sub hl [2, 3, 4, 5, 6] rfl)
    · replace h := zi_f (fun q => q c14) h
      refine lv_aload_n F.1 F.2.1 dL_law_1564 rfl (lv_at hl 5 rfl) ?_
      refine lv_iconst (v := (0 : Int32)) F.1 F.2.1 dL_law_1565 (by decide) ?_
      refine zr_lald (k := 193) (by decide) rfl (by decide) F h193 hr dL_law_1566 (by unfold vp_in; decide) ?_
      refine lv_iload F.1 F.2.1 dL_law_1567 (lv_at hl 0 rfl) ?_
      refine lv_i2l F.1 F.2.1 dL_law_1569 rfl ?_
      refine W.lcmp F.1 F.2.1 dL_law_1570 ?_
      refine lv_if_eq (tgt := 1576) F.1 F.2.1 dL_law_1571 (by decide) (fun c16 => ?_) (fun c16 => ?_)
      · replace h := zi_t c16 h
        refine lv_goto (tgt := 2079) F.1 F.2.1 dL_law_1576 (by decide) ?_
        obtain ⟨rfl, rfl, rfl, rfl⟩ := zret4 h
        exact K _ H locs ls hst h9 F h11 h19 h193 hg3 hr (lv_sub hl [2, 3, 4, 5, 6] rfl)
      · replace h := zi_f c16 h
        refine lv_iconst (v := (0 : Int32)) F.1 F.2.1 dL_law_1574 (by decide) ?_
        cases h
  · replace h := zi_f c13 h
    refine lv_iconst (v := (0 : Int32)) F.1 F.2.1 dL_law_1557 (by decide) ?_
    cases h
noncomputable def fLaw_18 (N : Nat) (sc : Nat → Int32) (ids : List (Nat × Nat)) (cc ss : Nat) (z : St) : Option (St × List (Nat × Nat) × Nat × Nat) := zqc ((cc + (rmL_friends).cells) ≤ room_1.cells ∧ (ss + (rmL_friends).slots) ≤ room_1.slots) <| zc (fL_friends N 0 (sc 1) (sc 2) (sc 3) 0 z) fun k1 z2 => zc (fX19_friends N 0 (sc 1) (sc 2) (sc 3) z2) fun r5 z6 => zc (fX19_thrown N 0 z6) fun r9 z10 => if r9 = k1 then (if ¬ k1 = 0 then (some (z10, ids, (cc + (rmL_friends).cells), (ss + (rmL_friends).slots))) else (if r5 = 0 then (if (lg_cmp (zgL z10 193 0 (Int32.toNatClampNeg (0 : Int32))) (0 : Int64)) = 0 then (some (z10, ids, (cc + (rmL_friends).cells), (ss + (rmL_friends).slots))) else (none)) else (if (lg_cmp (zgL z10 193 0 (Int32.toNatClampNeg (0 : Int32))) (1 : Int64)) = 0 then (some (z10, ids, (cc + (rmL_friends).cells), (ss + (rmL_friends).slots))) else (none)))) else (none)
set_option maxHeartbeats 8000000 in
set_option maxRecDepth 100000 in
theorem cLaw_18 (hst : zSt B ids) (h9 : zI9 ids) (F : zFx p m c cL_law 7 s args RL D cy B ids A) (hA : ∀ q : Nat, s.heap.size ≤ q → A q) (hlf : l.stackTraces = false) (hXK : zXK A s s.heap) (hLK : zLK s) (hAO : zAO s) (hX : va_X b L xs s s.heap) (hbl : b < s.heap.size) (hbA : ¬ A b) (h11 : (11, 0) ∈ ids) (h19 : (19, 0) ∈ ids) (h193 : (193, 0) ∈ ids) {N : Nat} {sc : Nat → Int32} {x4 : Int32} (hin0 : vp_in x4 L) (hva0 : xs (Int32.toNatClampNeg x4) = sc 0) (hin1 : vp_in (x4 + (1 : Int32)) L) (hva1 : xs (Int32.toNatClampNeg (x4 + (1 : Int32))) = sc 1) (hin2 : vp_in (x4 + (2 : Int32)) L) (hva2 : xs (Int32.toNatClampNeg (x4 + (2 : Int32))) = sc 2) (hin3 : vp_in (x4 + (3 : Int32)) L) (hva3 : xs (Int32.toNatClampNeg (x4 + (3 : Int32))) = sc 3) (hin4 : vp_in (x4 + (4 : Int32)) L) (hva4 : xs (Int32.toNatClampNeg (x4 + (4 : Int32))) = sc 4) (hin5 : vp_in (x4 + (5 : Int32)) L) (hva5 : xs (Int32.toNatClampNeg (x4 + (5 : Int32))) = sc 5) {cc ss : Nat} (hcs : cc ≤ room_1.cells ∧ ss ≤ room_1.slots) {z z' : St} {I' : List (Nat × Nat)} {c' s' : Nat} {H : Heap} {locs : List Loc} {ls : Array Slot} (hr : zRep D cy B ids A s.heap z H locs) (hl : lv_has ls 7 [(0, .ref b), (1, .ref (B 11 0)), (2, .ref (B 19 0)), (3, .ref (B 193 0)), (4, .int x4)])
    (K : ∀ (B1 : Nat → Nat → Nat) (H : Heap) (locs : List Loc) (ls : Array Slot), zSt B1 I' → zI9 I' → zFx p m c cL_law 7 s args RL D cy B1 I' A → (11, 0) ∈ I' → (19, 0) ∈ I' → (193, 0) ∈ I' → c' ≤ room_1.cells ∧ s' ≤ room_1.slots → zRep D cy B1 I' A s.heap z' H locs → lv_has ls 7 [(0, .ref b), (1, .ref (B1 11 0)), (2, .ref (B1 19 0)), (3, .ref (B1 193 0)), (4, .int x4)] → W p l e room_1 s m args below meth c H locs c' s' Q (F0 m 2079 ls []))
    (h : fLaw_18 N sc ids cc ss z = some (z', I', c', s')) : W p l e room_1 s m args below meth c H locs cc ss Q (F0 m 1579 ls []) := by
  unfold fLaw_18 at h
  refine lv_aload_n F.1 F.2.1 dL_law_1579 rfl (lv_at hl 1 rfl) ?_
  refine lv_aload_n F.1 F.2.1 dL_law_1580 rfl (lv_at hl 0 rfl) ?_
  refine lv_iload F.1 F.2.1 dL_law_1581 (lv_at hl 4 rfl) ?_
  refine lv_iconst (v := (1 : Int32)) F.1 F.2.1 dL_law_1583 (by decide) ?_
  refine lv_iadd F.1 F.2.1 dL_law_1584 ?_
  refine va_sld F.1 F.2.1 hX hbl hbA hr.2.1 hin1 dL_law_1585 ?_
  rw [hva1]
  refine lv_aload_n F.1 F.2.1 dL_law_1586 rfl (lv_at hl 0 rfl) ?_
  refine lv_iload F.1 F.2.1 dL_law_1587 (lv_at hl 4 rfl) ?_
  refine lv_iconst (v := (2 : Int32)) F.1 F.2.1 dL_law_1589 (by decide) ?_
  refine lv_iadd F.1 F.2.1 dL_law_1590 ?_
  refine va_sld F.1 F.2.1 hX hbl hbA hr.2.1 hin2 dL_law_1591 ?_
  rw [hva2]
  refine lv_aload_n F.1 F.2.1 dL_law_1592 rfl (lv_at hl 0 rfl) ?_
  refine lv_iload F.1 F.2.1 dL_law_1593 (lv_at hl 4 rfl) ?_
  refine lv_iconst (v := (3 : Int32)) F.1 F.2.1 dL_law_1595 (by decide) ?_
  refine lv_iadd F.1 F.2.1 dL_law_1596 ?_
  refine va_sld F.1 F.2.1 hX hbl hbA hr.2.1 hin3 dL_law_1597 ?_
  rw [hva3]
  refine lv_aload_n F.1 F.2.1 dL_law_1598 rfl (lv_at hl 3 rfl) ?_
  replace h := zqc_some h
  obtain ⟨hg3, h⟩ := h
  replace h := zc_some h
  obtain ⟨k1, z2, hc4, h⟩ := h
  refine zr_callLi (zrun_L hXK hLK hA (As := [.ref (B 11 0), .int (sc 1), .int (sc 2), .int (sc 3), .ref (B 193 0)]) (rest := []) zq_1826 zq_1827 zq_1828 zq_0 hdL_friends (okL_friends l hlf D cy B ids hst N 0 h11 (sc 1) (sc 2) (sc 3) 0 h193 hr.2.2 hc4) F hr hl.1 rfl (by decide) dL_law_1599 hroL_L_friends hg3) F hA hr (fun H locs hr => ?_)
  refine lv_istore (lv' := [(5, .int k1), (0, .ref b), (1, .ref (B 11 0)), (2, .ref (B 19 0)), (3, .ref (B 193 0)), (4, .int x4)]) F.1 F.2.1 dL_law_1602 hl (by decide) rfl (fun ls hl => ?_)
  refine lv_aload_n F.1 F.2.1 dL_law_1604 rfl (lv_at hl 3 rfl) ?_
  refine lv_aload_n F.1 F.2.1 dL_law_1605 rfl (lv_at hl 1 rfl) ?_
  refine lv_iload F.1 F.2.1 dL_law_1606 (lv_at hl 5 rfl) ?_
  refine lv_iconst (v := (1 : Int32)) F.1 F.2.1 dL_law_1608 (by decide) ?_
  refine lv_iadd F.1 F.2.1 dL_law_1609 ?_
  refine va_sld F.1 F.2.1 hX hbl hbA hr.2.1 hin1 dL_law_1610 ?_
  rw [hva1]
  refine lv_aload_n F.1 F.2.1 dL_law_1611 rfl (lv_at hl 1 rfl) ?_
  refine lv_iload F.1 F.2.1 dL_law_1612 (lv_at hl 5 rfl) ?_
  refine lv_iconst (v := (2 : Int32)) F.1 F.2.1 dL_law_1614 (by decide) ?_
  refine lv_iadd F.1 F.2.1 dL_law_1615 ?_
  refine va_sld F.1 F.2.1 hX hbl hbA hr.2.1 hin2 dL_law_1616 ?_
  rw [hva2]
  refine lv_aload_n F.1 F.2.1 dL_law_1617 rfl (lv_at hl 1 rfl) ?_
  refine lv_iload F.1 F.2.1 dL_law_1618 (lv_at hl 5 rfl) ?_
  refine lv_iconst (v := (3 : Int32)) F.1 F.2.1 dL_law_1620 (by decide) ?_
  refine lv_iadd F.1 F.2.1 dL_law_1621 ?_
  refine va_sld F.1 F.2.1 hX hbl hbA hr.2.1 hin3 dL_law_1622 ?_
  rw [hva3]
  replace h := zc_some h
  obtain ⟨r5, z6, hc7, h⟩ := h
  refine zr_calli (zrun_V (As := [.int (sc 1), .int (sc 2), .int (sc 3)]) (rest := []) zq_3081 zq_3082 zs_X19_friends zq_3084 zq_4 hdX19_friends (by decide) (T := TX19) (N := 32) rfl (okX19_friends l D cy B ids hst N 0 h19 (sc 1)  (sc 2)  (sc 3)  hr.2.2 hc7) F hr h19 hl.1 rfl (by decide) dL_law_1623 rfl rfl hroL_X19_friends hg3) F hA hr (fun H locs hw8 hr => ?_)
  clear hc7
  refine lv_istore (lv' := [(6, .int r5), (5, .int k1), (0, .ref b), (1, .ref (B 11 0)), (2, .ref (B 19 0)), (3, .ref (B 193 0)), (4, .int x4)]) F.1 F.2.1 dL_law_1626 hl (by decide) rfl (fun ls hl => ?_)
  refine lv_aload_n F.1 F.2.1 dL_law_1628 rfl (lv_at hl 4 rfl) ?_
  replace h := zc_some h
  obtain ⟨r9, z10, hc11, h⟩ := h
  refine zr_calli (zrun_V (As := []) (rest := []) zq_1982 zq_1983 zs_X19_thrown zq_1985 zq_4 hdX19_thrown (by decide) (T := TX19) (N := 32) rfl (okX19_thrown l D cy B ids hst N 0 h19 hr.2.2 hc11) F hr h19 hl.1 rfl (by decide) dL_law_1629 rfl rfl hroL_X19_thrown hg3) F hA hr (fun H locs hw12 hr => ?_)
  clear hc11
  refine lv_iload F.1 F.2.1 dL_law_1632 (lv_at hl 1 rfl) ?_
  refine lv_icmp_eq (tgt := 1639) F.1 F.2.1 dL_law_1634 (by decide) (fun c13 => ?_) (fun c13 => ?_)
  · replace h := zi_t c13 h
    refine lv_iload F.1 F.2.1 dL_law_1639 (lv_at hl 1 rfl) ?_
    refine lv_if_ne (tgt := 1663) F.1 F.2.1 dL_law_1641 (by decide) (fun c14 => ?_) (fun c14 => ?_)
    · replace h := zi_t c14 h
      refine lv_goto (tgt := 2079) F.1 F.2.1 dL_law_1663 (by decide) ?_
      obtain ⟨rfl, rfl, rfl, rfl⟩ := zret4 h
      exact K _ H locs ls hst h9 F h11 h19 h193 hg3 hr (lv_sub hl [2, 3, 4, 5, 6] rfl)
    · replace h := zi_f (fun q => q c14) h
      refine lv_aload_n F.1 F.2.1 dL_law_1644 rfl (lv_at hl 5 rfl) ?_
      refine lv_iconst (v := (0 : Int32)) F.1 F.2.1 dL_law_1645 (by decide) ?_
      refine zr_lald (k := 193) (by decide) rfl (by decide) F h193 hr dL_law_1646 (by unfold vp_in; decide) ?_
      refine lv_iload F.1 F.2.1 dL_law_1647 (lv_at hl 0 rfl) ?_
      refine lv_if_eq (tgt := 1656) F.1 F.2.1 dL_law_1649 (by decide) (fun c16 => ?_) (fun c16 => ?_)
      · replace h := zi_t c16 h
        refine lv_lconst (v := (0 : Int64)) F.1 F.2.1 dL_law_1656 (by decide) ?_
        refine W.lcmp F.1 F.2.1 dL_law_1657 ?_
        refine lv_if_eq (tgt := 1663) F.1 F.2.1 dL_law_1658 (by decide) (fun c17 => ?_) (fun c17 => ?_)
        · replace h := zi_t c17 h
          refine lv_goto (tgt := 2079) F.1 F.2.1 dL_law_1663 (by decide) ?_
          obtain ⟨rfl, rfl, rfl, rfl⟩ := zret4 h
          exact K _ H locs ls hst h9 F h11 h19 h193 hg3 hr (lv_sub hl [2, 3, 4, 5, 6] rfl)
        · replace h := zi_f c17 h
          refine lv_iconst (v := (0 : Int32)) F.1 F.2.1 dL_law_1661 (by decide) ?_
          cases h
      · replace h := zi_f c16 h
        refine lv_lconst (v := (1 : Int64)) F.1 F.2.1 dL_law_1652 (by decide) ?_
        refine lv_goto (tgt := 1657) F.1 F.2.1 dL_law_1653 (by decide) ?_
        refine W.lcmp F.1 F.2.1 dL_law_1657 ?_
        refine lv_if_eq (tgt := 1663) F.1 F.2.1 dL_law_1658 (by decide) (fun c18 => ?_) (fun c18 => ?_)
        · replace h := zi_t c18 h
          refine lv_goto (tgt := 2079) F.1 F.2.1 dL_law_1663 (by decide) ?_
          obtain ⟨rfl, rfl, rfl, rfl⟩ := zret4 h
          exact K _ H locs ls hst h9 F h11 h19 h193 hg3 hr (lv_sub hl [2, 3, 4, 5, 6] rfl)
        · replace h := zi_f c18 h
          refine lv_iconst (v := (0 : Int32)) F.1 F.2.1 dL_law_1661 (by decide) ?_
          cases h
  · replace h := zi_f c13 h
    refine lv_iconst (v := (0 : Int32)) F.1 F.2.1 dL_law_1637 (by decide) ?_
    cases h
noncomputable def fLaw_19 (N : Nat) (sc : Nat → Int32) (ids : List (Nat × Nat)) (cc ss : Nat) (z : St) : Option (St × List (Nat × Nat) × Nat × Nat) := zqc ((cc + (rmL_advert).cells) ≤ room_1.cells ∧ (ss + (rmL_advert).slots) ≤ room_1.slots) <| zc (fL_advert N 0 (sc 1) (sc 2) 0 z) fun k1 z2 => zc (fX19_advert N 0 (sc 1) (sc 2) z2) fun r5 z6 => zc (fX19_thrown N 0 z6) fun r9 z10 => if r9 = k1 then (if ¬ k1 = 0 then (some (z10, ids, (cc + (rmL_advert).cells), (ss + (rmL_advert).slots))) else (if (lg_cmp (zgL z10 193 0 (Int32.toNatClampNeg (0 : Int32))) (Int32.toInt64 r5)) = 0 then (some (z10, ids, (cc + (rmL_advert).cells), (ss + (rmL_advert).slots))) else (none))) else (none)
set_option maxHeartbeats 8000000 in
set_option maxRecDepth 100000 in
theorem cLaw_19 (hst : zSt B ids) (h9 : zI9 ids) (F : zFx p m c cL_law 7 s args RL D cy B ids A) (hA : ∀ q : Nat, s.heap.size ≤ q → A q) (hlf : l.stackTraces = false) (hXK : zXK A s s.heap) (hLK : zLK s) (hAO : zAO s) (hX : va_X b L xs s s.heap) (hbl : b < s.heap.size) (hbA : ¬ A b) (h11 : (11, 0) ∈ ids) (h19 : (19, 0) ∈ ids) (h193 : (193, 0) ∈ ids) {N : Nat} {sc : Nat → Int32} {x4 : Int32} (hin0 : vp_in x4 L) (hva0 : xs (Int32.toNatClampNeg x4) = sc 0) (hin1 : vp_in (x4 + (1 : Int32)) L) (hva1 : xs (Int32.toNatClampNeg (x4 + (1 : Int32))) = sc 1) (hin2 : vp_in (x4 + (2 : Int32)) L) (hva2 : xs (Int32.toNatClampNeg (x4 + (2 : Int32))) = sc 2) (hin3 : vp_in (x4 + (3 : Int32)) L) (hva3 : xs (Int32.toNatClampNeg (x4 + (3 : Int32))) = sc 3) (hin4 : vp_in (x4 + (4 : Int32)) L) (hva4 : xs (Int32.toNatClampNeg (x4 + (4 : Int32))) = sc 4) (hin5 : vp_in (x4 + (5 : Int32)) L) (hva5 : xs (Int32.toNatClampNeg (x4 + (5 : Int32))) = sc 5) {cc ss : Nat} (hcs : cc ≤ room_1.cells ∧ ss ≤ room_1.slots) {z z' : St} {I' : List (Nat × Nat)} {c' s' : Nat} {H : Heap} {locs : List Loc} {ls : Array Slot} (hr : zRep D cy B ids A s.heap z H locs) (hl : lv_has ls 7 [(0, .ref b), (1, .ref (B 11 0)), (2, .ref (B 19 0)), (3, .ref (B 193 0)), (4, .int x4)])
    (K : ∀ (B1 : Nat → Nat → Nat) (H : Heap) (locs : List Loc) (ls : Array Slot), zSt B1 I' → zI9 I' → zFx p m c cL_law 7 s args RL D cy B1 I' A → (11, 0) ∈ I' → (19, 0) ∈ I' → (193, 0) ∈ I' → c' ≤ room_1.cells ∧ s' ≤ room_1.slots → zRep D cy B1 I' A s.heap z' H locs → lv_has ls 7 [(0, .ref b), (1, .ref (B1 11 0)), (2, .ref (B1 19 0)), (3, .ref (B1 193 0)), (4, .int x4)] → W p l e room_1 s m args below meth c H locs c' s' Q (F0 m 2079 ls []))
    (h : fLaw_19 N sc ids cc ss z = some (z', I', c', s')) : W p l e room_1 s m args below meth c H locs cc ss Q (F0 m 1666 ls []) := by
  unfold fLaw_19 at h
  refine lv_aload_n F.1 F.2.1 dL_law_1666 rfl (lv_at hl 1 rfl) ?_
  refine lv_aload_n F.1 F.2.1 dL_law_1667 rfl (lv_at hl 0 rfl) ?_
  refine lv_iload F.1 F.2.1 dL_law_1668 (lv_at hl 4 rfl) ?_
  refine lv_iconst (v := (1 : Int32)) F.1 F.2.1 dL_law_1670 (by decide) ?_
  refine lv_iadd F.1 F.2.1 dL_law_1671 ?_
  refine va_sld F.1 F.2.1 hX hbl hbA hr.2.1 hin1 dL_law_1672 ?_
  rw [hva1]
  refine lv_aload_n F.1 F.2.1 dL_law_1673 rfl (lv_at hl 0 rfl) ?_
  refine lv_iload F.1 F.2.1 dL_law_1674 (lv_at hl 4 rfl) ?_
  refine lv_iconst (v := (2 : Int32)) F.1 F.2.1 dL_law_1676 (by decide) ?_
  refine lv_iadd F.1 F.2.1 dL_law_1677 ?_
  refine va_sld F.1 F.2.1 hX hbl hbA hr.2.1 hin2 dL_law_1678 ?_
  rw [hva2]
  refine lv_aload_n F.1 F.2.1 dL_law_1679 rfl (lv_at hl 3 rfl) ?_
  replace h := zqc_some h
  obtain ⟨hg3, h⟩ := h
  replace h := zc_some h
  obtain ⟨k1, z2, hc4, h⟩ := h
  refine zr_callLi (zrun_L hXK hLK hA (As := [.ref (B 11 0), .int (sc 1), .int (sc 2), .ref (B 193 0)]) (rest := []) zq_1834 zq_1835 zq_1836 zq_0 hdL_advert (okL_advert l hlf D cy B ids hst N 0 h11 (sc 1) (sc 2) 0 h193 hr.2.2 hc4) F hr hl.1 rfl (by decide) dL_law_1680 hroL_L_advert hg3) F hA hr (fun H locs hr => ?_)
  refine lv_istore (lv' := [(5, .int k1), (0, .ref b), (1, .ref (B 11 0)), (2, .ref (B 19 0)), (3, .ref (B 193 0)), (4, .int x4)]) F.1 F.2.1 dL_law_1683 hl (by decide) rfl (fun ls hl => ?_)
  refine lv_aload_n F.1 F.2.1 dL_law_1685 rfl (lv_at hl 3 rfl) ?_
  refine lv_aload_n F.1 F.2.1 dL_law_1686 rfl (lv_at hl 1 rfl) ?_
  refine lv_iload F.1 F.2.1 dL_law_1687 (lv_at hl 5 rfl) ?_
  refine lv_iconst (v := (1 : Int32)) F.1 F.2.1 dL_law_1689 (by decide) ?_
  refine lv_iadd F.1 F.2.1 dL_law_1690 ?_
  refine va_sld F.1 F.2.1 hX hbl hbA hr.2.1 hin1 dL_law_1691 ?_
  rw [hva1]
  refine lv_aload_n F.1 F.2.1 dL_law_1692 rfl (lv_at hl 1 rfl) ?_
  refine lv_iload F.1 F.2.1 dL_law_1693 (lv_at hl 5 rfl) ?_
  refine lv_iconst (v := (2 : Int32)) F.1 F.2.1 dL_law_1695 (by decide) ?_
  refine lv_iadd F.1 F.2.1 dL_law_1696 ?_
  refine va_sld F.1 F.2.1 hX hbl hbA hr.2.1 hin2 dL_law_1697 ?_
  rw [hva2]
  replace h := zc_some h
  obtain ⟨r5, z6, hc7, h⟩ := h
  refine zr_calli (zrun_V (As := [.int (sc 1), .int (sc 2)]) (rest := []) zq_3085 zq_3086 zs_X19_advert zq_3088 zq_4 hdX19_advert (by decide) (T := TX19) (N := 32) rfl (okX19_advert l D cy B ids hst N 0 h19 (sc 1)  (sc 2)  hr.2.2 hc7) F hr h19 hl.1 rfl (by decide) dL_law_1698 rfl rfl hroL_X19_advert hg3) F hA hr (fun H locs hw8 hr => ?_)
  clear hc7
  refine lv_istore (lv' := [(6, .int r5), (5, .int k1), (0, .ref b), (1, .ref (B 11 0)), (2, .ref (B 19 0)), (3, .ref (B 193 0)), (4, .int x4)]) F.1 F.2.1 dL_law_1701 hl (by decide) rfl (fun ls hl => ?_)
  refine lv_aload_n F.1 F.2.1 dL_law_1703 rfl (lv_at hl 4 rfl) ?_
  replace h := zc_some h
  obtain ⟨r9, z10, hc11, h⟩ := h
  refine zr_calli (zrun_V (As := []) (rest := []) zq_1982 zq_1983 zs_X19_thrown zq_1985 zq_4 hdX19_thrown (by decide) (T := TX19) (N := 32) rfl (okX19_thrown l D cy B ids hst N 0 h19 hr.2.2 hc11) F hr h19 hl.1 rfl (by decide) dL_law_1704 rfl rfl hroL_X19_thrown hg3) F hA hr (fun H locs hw12 hr => ?_)
  clear hc11
  refine lv_iload F.1 F.2.1 dL_law_1707 (lv_at hl 1 rfl) ?_
  refine lv_icmp_eq (tgt := 1714) F.1 F.2.1 dL_law_1709 (by decide) (fun c13 => ?_) (fun c13 => ?_)
  · replace h := zi_t c13 h
    refine lv_iload F.1 F.2.1 dL_law_1714 (lv_at hl 1 rfl) ?_
    refine lv_if_ne (tgt := 1731) F.1 F.2.1 dL_law_1716 (by decide) (fun c14 => ?_) (fun c14 => ?_)
    · replace h := zi_t c14 h
      refine lv_goto (tgt := 2079) F.1 F.2.1 dL_law_1731 (by decide) ?_
      obtain ⟨rfl, rfl, rfl, rfl⟩ := zret4 h
      exact K _ H locs ls hst h9 F h11 h19 h193 hg3 hr (lv_sub hl [2, 3, 4, 5, 6] rfl)
    · replace h := zi_f (fun q => q c14) h
      refine lv_aload_n F.1 F.2.1 dL_law_1719 rfl (lv_at hl 5 rfl) ?_
      refine lv_iconst (v := (0 : Int32)) F.1 F.2.1 dL_law_1720 (by decide) ?_
      refine zr_lald (k := 193) (by decide) rfl (by decide) F h193 hr dL_law_1721 (by unfold vp_in; decide) ?_
      refine lv_iload F.1 F.2.1 dL_law_1722 (lv_at hl 0 rfl) ?_
      refine lv_i2l F.1 F.2.1 dL_law_1724 rfl ?_
      refine W.lcmp F.1 F.2.1 dL_law_1725 ?_
      refine lv_if_eq (tgt := 1731) F.1 F.2.1 dL_law_1726 (by decide) (fun c16 => ?_) (fun c16 => ?_)
      · replace h := zi_t c16 h
        refine lv_goto (tgt := 2079) F.1 F.2.1 dL_law_1731 (by decide) ?_
        obtain ⟨rfl, rfl, rfl, rfl⟩ := zret4 h
        exact K _ H locs ls hst h9 F h11 h19 h193 hg3 hr (lv_sub hl [2, 3, 4, 5, 6] rfl)
      · replace h := zi_f c16 h
        refine lv_iconst (v := (0 : Int32)) F.1 F.2.1 dL_law_1729 (by decide) ?_
        cases h
  · replace h := zi_f c13 h
    refine lv_iconst (v := (0 : Int32)) F.1 F.2.1 dL_law_1712 (by decide) ?_
    cases h
noncomputable def fLaw_20 (N : Nat) (sc : Nat → Int32) (ids : List (Nat × Nat)) (cc ss : Nat) (z : St) : Option (St × List (Nat × Nat) × Nat × Nat) := zqc ((cc + (rmL_count).cells) ≤ room_1.cells ∧ (ss + (rmL_count).slots) ≤ room_1.slots) <| zc (fL_count N 0 (sc 1) (sc 2) 0 z) fun k1 z2 => zc (fX19_count N 0 (sc 1) (sc 2) z2) fun r5 z6 => zc (fX19_thrown N 0 z6) fun r9 z10 => if r9 = k1 then (if ¬ k1 = 0 then (some (z10, ids, (cc + (rmL_count).cells), (ss + (rmL_count).slots))) else (if (lg_cmp (zgL z10 193 0 (Int32.toNatClampNeg (0 : Int32))) (Int32.toInt64 r5)) = 0 then (some (z10, ids, (cc + (rmL_count).cells), (ss + (rmL_count).slots))) else (none))) else (none)
set_option maxHeartbeats 8000000 in
set_option maxRecDepth 100000 in
theorem cLaw_20 (hst : zSt B ids) (h9 : zI9 ids) (F : zFx p m c cL_law 7 s args RL D cy B ids A) (hA : ∀ q : Nat, s.heap.size ≤ q → A q) (hlf : l.stackTraces = false) (hXK : zXK A s s.heap) (hLK : zLK s) (hAO : zAO s) (hX : va_X b L xs s s.heap) (hbl : b < s.heap.size) (hbA : ¬ A b) (h11 : (11, 0) ∈ ids) (h19 : (19, 0) ∈ ids) (h193 : (193, 0) ∈ ids) {N : Nat} {sc : Nat → Int32} {x4 : Int32} (hin0 : vp_in x4 L) (hva0 : xs (Int32.toNatClampNeg x4) = sc 0) (hin1 : vp_in (x4 + (1 : Int32)) L) (hva1 : xs (Int32.toNatClampNeg (x4 + (1 : Int32))) = sc 1) (hin2 : vp_in (x4 + (2 : Int32)) L) (hva2 : xs (Int32.toNatClampNeg (x4 + (2 : Int32))) = sc 2) (hin3 : vp_in (x4 + (3 : Int32)) L) (hva3 : xs (Int32.toNatClampNeg (x4 + (3 : Int32))) = sc 3) (hin4 : vp_in (x4 + (4 : Int32)) L) (hva4 : xs (Int32.toNatClampNeg (x4 + (4 : Int32))) = sc 4) (hin5 : vp_in (x4 + (5 : Int32)) L) (hva5 : xs (Int32.toNatClampNeg (x4 + (5 : Int32))) = sc 5) {cc ss : Nat} (hcs : cc ≤ room_1.cells ∧ ss ≤ room_1.slots) {z z' : St} {I' : List (Nat × Nat)} {c' s' : Nat} {H : Heap} {locs : List Loc} {ls : Array Slot} (hr : zRep D cy B ids A s.heap z H locs) (hl : lv_has ls 7 [(0, .ref b), (1, .ref (B 11 0)), (2, .ref (B 19 0)), (3, .ref (B 193 0)), (4, .int x4)])
    (K : ∀ (B1 : Nat → Nat → Nat) (H : Heap) (locs : List Loc) (ls : Array Slot), zSt B1 I' → zI9 I' → zFx p m c cL_law 7 s args RL D cy B1 I' A → (11, 0) ∈ I' → (19, 0) ∈ I' → (193, 0) ∈ I' → c' ≤ room_1.cells ∧ s' ≤ room_1.slots → zRep D cy B1 I' A s.heap z' H locs → lv_has ls 7 [(0, .ref b), (1, .ref (B1 11 0)), (2, .ref (B1 19 0)), (3, .ref (B1 193 0)), (4, .int x4)] → W p l e room_1 s m args below meth c H locs c' s' Q (F0 m 2079 ls []))
    (h : fLaw_20 N sc ids cc ss z = some (z', I', c', s')) : W p l e room_1 s m args below meth c H locs cc ss Q (F0 m 1734 ls []) := by
  unfold fLaw_20 at h
  refine lv_aload_n F.1 F.2.1 dL_law_1734 rfl (lv_at hl 1 rfl) ?_
  refine lv_aload_n F.1 F.2.1 dL_law_1735 rfl (lv_at hl 0 rfl) ?_
  refine lv_iload F.1 F.2.1 dL_law_1736 (lv_at hl 4 rfl) ?_
  refine lv_iconst (v := (1 : Int32)) F.1 F.2.1 dL_law_1738 (by decide) ?_
  refine lv_iadd F.1 F.2.1 dL_law_1739 ?_
  refine va_sld F.1 F.2.1 hX hbl hbA hr.2.1 hin1 dL_law_1740 ?_
  rw [hva1]
  refine lv_aload_n F.1 F.2.1 dL_law_1741 rfl (lv_at hl 0 rfl) ?_
  refine lv_iload F.1 F.2.1 dL_law_1742 (lv_at hl 4 rfl) ?_
  refine lv_iconst (v := (2 : Int32)) F.1 F.2.1 dL_law_1744 (by decide) ?_
  refine lv_iadd F.1 F.2.1 dL_law_1745 ?_
  refine va_sld F.1 F.2.1 hX hbl hbA hr.2.1 hin2 dL_law_1746 ?_
  rw [hva2]
  refine lv_aload_n F.1 F.2.1 dL_law_1747 rfl (lv_at hl 3 rfl) ?_
  replace h := zqc_some h
  obtain ⟨hg3, h⟩ := h
  replace h := zc_some h
  obtain ⟨k1, z2, hc4, h⟩ := h
  refine zr_callLi (zrun_L hXK hLK hA (As := [.ref (B 11 0), .int (sc 1), .int (sc 2), .ref (B 193 0)]) (rest := []) zq_1841 zq_1842 zq_1843 zq_0 hdL_count (okL_count l hlf D cy B ids hst N 0 h11 (sc 1) (sc 2) 0 h193 hr.2.2 hc4) F hr hl.1 rfl (by decide) dL_law_1748 hroL_L_count hg3) F hA hr (fun H locs hr => ?_)
  refine lv_istore (lv' := [(5, .int k1), (0, .ref b), (1, .ref (B 11 0)), (2, .ref (B 19 0)), (3, .ref (B 193 0)), (4, .int x4)]) F.1 F.2.1 dL_law_1751 hl (by decide) rfl (fun ls hl => ?_)
  refine lv_aload_n F.1 F.2.1 dL_law_1753 rfl (lv_at hl 3 rfl) ?_
  refine lv_aload_n F.1 F.2.1 dL_law_1754 rfl (lv_at hl 1 rfl) ?_
  refine lv_iload F.1 F.2.1 dL_law_1755 (lv_at hl 5 rfl) ?_
  refine lv_iconst (v := (1 : Int32)) F.1 F.2.1 dL_law_1757 (by decide) ?_
  refine lv_iadd F.1 F.2.1 dL_law_1758 ?_
  refine va_sld F.1 F.2.1 hX hbl hbA hr.2.1 hin1 dL_law_1759 ?_
  rw [hva1]
  refine lv_aload_n F.1 F.2.1 dL_law_1760 rfl (lv_at hl 1 rfl) ?_
  refine lv_iload F.1 F.2.1 dL_law_1761 (lv_at hl 5 rfl) ?_
  refine lv_iconst (v := (2 : Int32)) F.1 F.2.1 dL_law_1763 (by decide) ?_
  refine lv_iadd F.1 F.2.1 dL_law_1764 ?_
  refine va_sld F.1 F.2.1 hX hbl hbA hr.2.1 hin2 dL_law_1765 ?_
  rw [hva2]
  replace h := zc_some h
  obtain ⟨r5, z6, hc7, h⟩ := h
  refine zr_calli (zrun_V (As := [.int (sc 1), .int (sc 2)]) (rest := []) zq_3089 zq_3090 zs_X19_count zq_3092 zq_4 hdX19_count (by decide) (T := TX19) (N := 32) rfl (okX19_count l D cy B ids hst N 0 h19 (sc 1)  (sc 2)  hr.2.2 hc7) F hr h19 hl.1 rfl (by decide) dL_law_1766 rfl rfl hroL_X19_count hg3) F hA hr (fun H locs hw8 hr => ?_)
  clear hc7
  refine lv_istore (lv' := [(6, .int r5), (5, .int k1), (0, .ref b), (1, .ref (B 11 0)), (2, .ref (B 19 0)), (3, .ref (B 193 0)), (4, .int x4)]) F.1 F.2.1 dL_law_1769 hl (by decide) rfl (fun ls hl => ?_)
  refine lv_aload_n F.1 F.2.1 dL_law_1771 rfl (lv_at hl 4 rfl) ?_
  replace h := zc_some h
  obtain ⟨r9, z10, hc11, h⟩ := h
  refine zr_calli (zrun_V (As := []) (rest := []) zq_1982 zq_1983 zs_X19_thrown zq_1985 zq_4 hdX19_thrown (by decide) (T := TX19) (N := 32) rfl (okX19_thrown l D cy B ids hst N 0 h19 hr.2.2 hc11) F hr h19 hl.1 rfl (by decide) dL_law_1772 rfl rfl hroL_X19_thrown hg3) F hA hr (fun H locs hw12 hr => ?_)
  clear hc11
  refine lv_iload F.1 F.2.1 dL_law_1775 (lv_at hl 1 rfl) ?_
  refine lv_icmp_eq (tgt := 1782) F.1 F.2.1 dL_law_1777 (by decide) (fun c13 => ?_) (fun c13 => ?_)
  · replace h := zi_t c13 h
    refine lv_iload F.1 F.2.1 dL_law_1782 (lv_at hl 1 rfl) ?_
    refine lv_if_ne (tgt := 1799) F.1 F.2.1 dL_law_1784 (by decide) (fun c14 => ?_) (fun c14 => ?_)
    · replace h := zi_t c14 h
      refine lv_goto (tgt := 2079) F.1 F.2.1 dL_law_1799 (by decide) ?_
      obtain ⟨rfl, rfl, rfl, rfl⟩ := zret4 h
      exact K _ H locs ls hst h9 F h11 h19 h193 hg3 hr (lv_sub hl [2, 3, 4, 5, 6] rfl)
    · replace h := zi_f (fun q => q c14) h
      refine lv_aload_n F.1 F.2.1 dL_law_1787 rfl (lv_at hl 5 rfl) ?_
      refine lv_iconst (v := (0 : Int32)) F.1 F.2.1 dL_law_1788 (by decide) ?_
      refine zr_lald (k := 193) (by decide) rfl (by decide) F h193 hr dL_law_1789 (by unfold vp_in; decide) ?_
      refine lv_iload F.1 F.2.1 dL_law_1790 (lv_at hl 0 rfl) ?_
      refine lv_i2l F.1 F.2.1 dL_law_1792 rfl ?_
      refine W.lcmp F.1 F.2.1 dL_law_1793 ?_
      refine lv_if_eq (tgt := 1799) F.1 F.2.1 dL_law_1794 (by decide) (fun c16 => ?_) (fun c16 => ?_)
      · replace h := zi_t c16 h
        refine lv_goto (tgt := 2079) F.1 F.2.1 dL_law_1799 (by decide) ?_
        obtain ⟨rfl, rfl, rfl, rfl⟩ := zret4 h
        exact K _ H locs ls hst h9 F h11 h19 h193 hg3 hr (lv_sub hl [2, 3, 4, 5, 6] rfl)
      · replace h := zi_f c16 h
        refine lv_iconst (v := (0 : Int32)) F.1 F.2.1 dL_law_1797 (by decide) ?_
        cases h
  · replace h := zi_f c13 h
    refine lv_iconst (v := (0 : Int32)) F.1 F.2.1 dL_law_1780 (by decide) ?_
    cases h
noncomputable def fLaw_21 (N : Nat) (sc : Nat → Int32) (ids : List (Nat × Nat)) (cc ss : Nat) (z : St) : Option (St × List (Nat × Nat) × Nat × Nat) := zc (fX11_underWay N 0 z) fun r1 z2 => zc (fX19_underWay N 0 z2) fun r5 z6 => if r1 = r5 then (some (z6, ids, cc, ss)) else (none)
set_option maxHeartbeats 8000000 in
set_option maxRecDepth 100000 in
theorem cLaw_21 (hst : zSt B ids) (h9 : zI9 ids) (F : zFx p m c cL_law 7 s args RL D cy B ids A) (hA : ∀ q : Nat, s.heap.size ≤ q → A q) (hlf : l.stackTraces = false) (hXK : zXK A s s.heap) (hLK : zLK s) (hAO : zAO s) (hX : va_X b L xs s s.heap) (hbl : b < s.heap.size) (hbA : ¬ A b) (h11 : (11, 0) ∈ ids) (h19 : (19, 0) ∈ ids) (h193 : (193, 0) ∈ ids) {N : Nat} {sc : Nat → Int32} {x4 : Int32} (hin0 : vp_in x4 L) (hva0 : xs (Int32.toNatClampNeg x4) = sc 0) (hin1 : vp_in (x4 + (1 : Int32)) L) (hva1 : xs (Int32.toNatClampNeg (x4 + (1 : Int32))) = sc 1) (hin2 : vp_in (x4 + (2 : Int32)) L) (hva2 : xs (Int32.toNatClampNeg (x4 + (2 : Int32))) = sc 2) (hin3 : vp_in (x4 + (3 : Int32)) L) (hva3 : xs (Int32.toNatClampNeg (x4 + (3 : Int32))) = sc 3) (hin4 : vp_in (x4 + (4 : Int32)) L) (hva4 : xs (Int32.toNatClampNeg (x4 + (4 : Int32))) = sc 4) (hin5 : vp_in (x4 + (5 : Int32)) L) (hva5 : xs (Int32.toNatClampNeg (x4 + (5 : Int32))) = sc 5) {cc ss : Nat} (hcs : cc ≤ room_1.cells ∧ ss ≤ room_1.slots) {z z' : St} {I' : List (Nat × Nat)} {c' s' : Nat} {H : Heap} {locs : List Loc} {ls : Array Slot} (hr : zRep D cy B ids A s.heap z H locs) (hl : lv_has ls 7 [(0, .ref b), (1, .ref (B 11 0)), (2, .ref (B 19 0)), (3, .ref (B 193 0)), (4, .int x4)])
    (K : ∀ (B1 : Nat → Nat → Nat) (H : Heap) (locs : List Loc) (ls : Array Slot), zSt B1 I' → zI9 I' → zFx p m c cL_law 7 s args RL D cy B1 I' A → (11, 0) ∈ I' → (19, 0) ∈ I' → (193, 0) ∈ I' → c' ≤ room_1.cells ∧ s' ≤ room_1.slots → zRep D cy B1 I' A s.heap z' H locs → lv_has ls 7 [(0, .ref b), (1, .ref (B1 11 0)), (2, .ref (B1 19 0)), (3, .ref (B1 193 0)), (4, .int x4)] → W p l e room_1 s m args below meth c H locs c' s' Q (F0 m 2079 ls []))
    (h : fLaw_21 N sc ids cc ss z = some (z', I', c', s')) : W p l e room_1 s m args below meth c H locs cc ss Q (F0 m 1802 ls []) := by
  unfold fLaw_21 at h
  refine lv_aload_n F.1 F.2.1 dL_law_1802 rfl (lv_at hl 1 rfl) ?_
  replace h := zc_some h
  obtain ⟨r1, z2, hc3, h⟩ := h
  refine zr_calli (zrun_V (As := []) (rest := []) zq_258 zq_259 zs_X11_underWay zq_261 zq_1 hdX11_underWay (by decide) (T := TX11) (N := 21) rfl (okX11_underWay l D cy B ids hst N 0 h11 hr.2.2 hc3) F hr h11 hl.1 rfl (by decide) dL_law_1803 rfl rfl hroL_X11_underWay hcs) F hA hr (fun H locs hw4 hr => ?_)
  clear hc3
  refine lv_aload_n F.1 F.2.1 dL_law_1806 rfl (lv_at hl 2 rfl) ?_
  replace h := zc_some h
  obtain ⟨r5, z6, hc7, h⟩ := h
  refine zr_calli (zrun_V (As := []) (rest := [.int r1]) zq_3093 zq_3094 zs_X19_underWay zq_3096 zq_4 hdX19_underWay (by decide) (T := TX19) (N := 32) rfl (okX19_underWay l D cy B ids hst N 0 h19 hr.2.2 hc7) F hr h19 hl.1 rfl (Nat.le_of_ble_eq_true rfl) dL_law_1807 rfl rfl hroL_X19_underWay hcs) F hA hr (fun H locs hw8 hr => ?_)
  clear hc7
  refine lv_icmp_eq (tgt := 2079) F.1 F.2.1 dL_law_1810 (by decide) (fun c9 => ?_) (fun c9 => ?_)
  · replace h := zi_t c9 h
    obtain ⟨rfl, rfl, rfl, rfl⟩ := zret4 h
    exact K _ H locs ls hst h9 F h11 h19 h193 hcs hr (lv_sub hl [0, 1, 2, 3, 4] rfl)
  · replace h := zi_f c9 h
    refine lv_iconst (v := (0 : Int32)) F.1 F.2.1 dL_law_1813 (by decide) ?_
    cases h
noncomputable def fLaw_22 (N : Nat) (sc : Nat → Int32) (ids : List (Nat × Nat)) (cc ss : Nat) (z : St) : Option (St × List (Nat × Nat) × Nat × Nat) := zc (fX11_time N 0 z) fun r1 z2 => zc (fX19_time N 0 z2) fun r5 z6 => if r1 = r5 then (some (z6, ids, cc, ss)) else (none)
set_option maxHeartbeats 8000000 in
set_option maxRecDepth 100000 in
theorem cLaw_22 (hst : zSt B ids) (h9 : zI9 ids) (F : zFx p m c cL_law 7 s args RL D cy B ids A) (hA : ∀ q : Nat, s.heap.size ≤ q → A q) (hlf : l.stackTraces = false) (hXK : zXK A s s.heap) (hLK : zLK s) (hAO : zAO s) (hX : va_X b L xs s s.heap) (hbl : b < s.heap.size) (hbA : ¬ A b) (h11 : (11, 0) ∈ ids) (h19 : (19, 0) ∈ ids) (h193 : (193, 0) ∈ ids) {N : Nat} {sc : Nat → Int32} {x4 : Int32} (hin0 : vp_in x4 L) (hva0 : xs (Int32.toNatClampNeg x4) = sc 0) (hin1 : vp_in (x4 + (1 : Int32)) L) (hva1 : xs (Int32.toNatClampNeg (x4 + (1 : Int32))) = sc 1) (hin2 : vp_in (x4 + (2 : Int32)) L) (hva2 : xs (Int32.toNatClampNeg (x4 + (2 : Int32))) = sc 2) (hin3 : vp_in (x4 + (3 : Int32)) L) (hva3 : xs (Int32.toNatClampNeg (x4 + (3 : Int32))) = sc 3) (hin4 : vp_in (x4 + (4 : Int32)) L) (hva4 : xs (Int32.toNatClampNeg (x4 + (4 : Int32))) = sc 4) (hin5 : vp_in (x4 + (5 : Int32)) L) (hva5 : xs (Int32.toNatClampNeg (x4 + (5 : Int32))) = sc 5) {cc ss : Nat} (hcs : cc ≤ room_1.cells ∧ ss ≤ room_1.slots) {z z' : St} {I' : List (Nat × Nat)} {c' s' : Nat} {H : Heap} {locs : List Loc} {ls : Array Slot} (hr : zRep D cy B ids A s.heap z H locs) (hl : lv_has ls 7 [(0, .ref b), (1, .ref (B 11 0)), (2, .ref (B 19 0)), (3, .ref (B 193 0)), (4, .int x4)])
    (K : ∀ (B1 : Nat → Nat → Nat) (H : Heap) (locs : List Loc) (ls : Array Slot), zSt B1 I' → zI9 I' → zFx p m c cL_law 7 s args RL D cy B1 I' A → (11, 0) ∈ I' → (19, 0) ∈ I' → (193, 0) ∈ I' → c' ≤ room_1.cells ∧ s' ≤ room_1.slots → zRep D cy B1 I' A s.heap z' H locs → lv_has ls 7 [(0, .ref b), (1, .ref (B1 11 0)), (2, .ref (B1 19 0)), (3, .ref (B1 193 0)), (4, .int x4)] → W p l e room_1 s m args below meth c H locs c' s' Q (F0 m 2079 ls []))
    (h : fLaw_22 N sc ids cc ss z = some (z', I', c', s')) : W p l e room_1 s m args below meth c H locs cc ss Q (F0 m 1815 ls []) := by
  unfold fLaw_22 at h
  refine lv_aload_n F.1 F.2.1 dL_law_1815 rfl (lv_at hl 1 rfl) ?_
  replace h := zc_some h
  obtain ⟨r1, z2, hc3, h⟩ := h
  refine zr_calli (zrun_V (As := []) (rest := []) zq_262 zq_263 zs_X11_time zq_265 zq_1 hdX11_time (by decide) (T := TX11) (N := 21) rfl (okX11_time l D cy B ids hst N 0 h11 hr.2.2 hc3) F hr h11 hl.1 rfl (by decide) dL_law_1816 rfl rfl hroL_X11_time hcs) F hA hr (fun H locs hw4 hr => ?_)
  clear hc3
  refine lv_aload_n F.1 F.2.1 dL_law_1819 rfl (lv_at hl 2 rfl) ?_
  replace h := zc_some h
  obtain ⟨r5, z6, hc7, h⟩ := h
  refine zr_calli (zrun_V (As := []) (rest := [.int r1]) zq_3097 zq_3098 zs_X19_time zq_3100 zq_4 hdX19_time (by decide) (T := TX19) (N := 32) rfl (okX19_time l D cy B ids hst N 0 h19 hr.2.2 hc7) F hr h19 hl.1 rfl (Nat.le_of_ble_eq_true rfl) dL_law_1820 rfl rfl hroL_X19_time hcs) F hA hr (fun H locs hw8 hr => ?_)
  clear hc7
  refine lv_icmp_eq (tgt := 2079) F.1 F.2.1 dL_law_1823 (by decide) (fun c9 => ?_) (fun c9 => ?_)
  · replace h := zi_t c9 h
    obtain ⟨rfl, rfl, rfl, rfl⟩ := zret4 h
    exact K _ H locs ls hst h9 F h11 h19 h193 hcs hr (lv_sub hl [0, 1, 2, 3, 4] rfl)
  · replace h := zi_f c9 h
    refine lv_iconst (v := (0 : Int32)) F.1 F.2.1 dL_law_1826 (by decide) ?_
    cases h
noncomputable def fLaw_23 (N : Nat) (sc : Nat → Int32) (ids : List (Nat × Nat)) (cc ss : Nat) (z : St) : Option (St × List (Nat × Nat) × Nat × Nat) := zqc ((cc + (rmL_shouldCost).cells) ≤ room_1.cells ∧ (ss + (rmL_shouldCost).slots) ≤ room_1.slots) <| zc (fL_shouldCost N 0 (sc 1) (sc 2) 0 z) fun k1 z2 => zc (fX19_shouldCost N 0 (sc 1) (sc 2) z2) fun r5 z6 => zc (fX19_thrown N 0 z6) fun r9 z10 => if r9 = k1 then (if ¬ k1 = 0 then (some (z10, ids, (cc + (rmL_shouldCost).cells), (ss + (rmL_shouldCost).slots))) else (if (lg_cmp (zgL z10 193 0 (Int32.toNatClampNeg (0 : Int32))) (Int32.toInt64 r5)) = 0 then (some (z10, ids, (cc + (rmL_shouldCost).cells), (ss + (rmL_shouldCost).slots))) else (none))) else (none)
set_option maxHeartbeats 8000000 in
set_option maxRecDepth 100000 in
theorem cLaw_23 (hst : zSt B ids) (h9 : zI9 ids) (F : zFx p m c cL_law 7 s args RL D cy B ids A) (hA : ∀ q : Nat, s.heap.size ≤ q → A q) (hlf : l.stackTraces = false) (hXK : zXK A s s.heap) (hLK : zLK s) (hAO : zAO s) (hX : va_X b L xs s s.heap) (hbl : b < s.heap.size) (hbA : ¬ A b) (h11 : (11, 0) ∈ ids) (h19 : (19, 0) ∈ ids) (h193 : (193, 0) ∈ ids) {N : Nat} {sc : Nat → Int32} {x4 : Int32} (hin0 : vp_in x4 L) (hva0 : xs (Int32.toNatClampNeg x4) = sc 0) (hin1 : vp_in (x4 + (1 : Int32)) L) (hva1 : xs (Int32.toNatClampNeg (x4 + (1 : Int32))) = sc 1) (hin2 : vp_in (x4 + (2 : Int32)) L) (hva2 : xs (Int32.toNatClampNeg (x4 + (2 : Int32))) = sc 2) (hin3 : vp_in (x4 + (3 : Int32)) L) (hva3 : xs (Int32.toNatClampNeg (x4 + (3 : Int32))) = sc 3) (hin4 : vp_in (x4 + (4 : Int32)) L) (hva4 : xs (Int32.toNatClampNeg (x4 + (4 : Int32))) = sc 4) (hin5 : vp_in (x4 + (5 : Int32)) L) (hva5 : xs (Int32.toNatClampNeg (x4 + (5 : Int32))) = sc 5) {cc ss : Nat} (hcs : cc ≤ room_1.cells ∧ ss ≤ room_1.slots) {z z' : St} {I' : List (Nat × Nat)} {c' s' : Nat} {H : Heap} {locs : List Loc} {ls : Array Slot} (hr : zRep D cy B ids A s.heap z H locs) (hl : lv_has ls 7 [(0, .ref b), (1, .ref (B 11 0)), (2, .ref (B 19 0)), (3, .ref (B 193 0)), (4, .int x4)])
    (K : ∀ (B1 : Nat → Nat → Nat) (H : Heap) (locs : List Loc) (ls : Array Slot), zSt B1 I' → zI9 I' → zFx p m c cL_law 7 s args RL D cy B1 I' A → (11, 0) ∈ I' → (19, 0) ∈ I' → (193, 0) ∈ I' → c' ≤ room_1.cells ∧ s' ≤ room_1.slots → zRep D cy B1 I' A s.heap z' H locs → lv_has ls 7 [(0, .ref b), (1, .ref (B1 11 0)), (2, .ref (B1 19 0)), (3, .ref (B1 193 0)), (4, .int x4)] → W p l e room_1 s m args below meth c H locs c' s' Q (F0 m 2079 ls []))
    (h : fLaw_23 N sc ids cc ss z = some (z', I', c', s')) : W p l e room_1 s m args below meth c H locs cc ss Q (F0 m 1828 ls []) := by
  unfold fLaw_23 at h
  refine lv_aload_n F.1 F.2.1 dL_law_1828 rfl (lv_at hl 1 rfl) ?_
  refine lv_aload_n F.1 F.2.1 dL_law_1829 rfl (lv_at hl 0 rfl) ?_
  refine lv_iload F.1 F.2.1 dL_law_1830 (lv_at hl 4 rfl) ?_
  refine lv_iconst (v := (1 : Int32)) F.1 F.2.1 dL_law_1832 (by decide) ?_
  refine lv_iadd F.1 F.2.1 dL_law_1833 ?_
  refine va_sld F.1 F.2.1 hX hbl hbA hr.2.1 hin1 dL_law_1834 ?_
  rw [hva1]
  refine lv_aload_n F.1 F.2.1 dL_law_1835 rfl (lv_at hl 0 rfl) ?_
  refine lv_iload F.1 F.2.1 dL_law_1836 (lv_at hl 4 rfl) ?_
  refine lv_iconst (v := (2 : Int32)) F.1 F.2.1 dL_law_1838 (by decide) ?_
  refine lv_iadd F.1 F.2.1 dL_law_1839 ?_
  refine va_sld F.1 F.2.1 hX hbl hbA hr.2.1 hin2 dL_law_1840 ?_
  rw [hva2]
  refine lv_aload_n F.1 F.2.1 dL_law_1841 rfl (lv_at hl 3 rfl) ?_
  replace h := zqc_some h
  obtain ⟨hg3, h⟩ := h
  replace h := zc_some h
  obtain ⟨k1, z2, hc4, h⟩ := h
  refine zr_callLi (zrun_L hXK hLK hA (As := [.ref (B 11 0), .int (sc 1), .int (sc 2), .ref (B 193 0)]) (rest := []) zq_1850 zq_1851 zq_1852 zq_0 hdL_shouldCost (okL_shouldCost l hlf D cy B ids hst N 0 h11 (sc 1) (sc 2) 0 h193 hr.2.2 hc4) F hr hl.1 rfl (by decide) dL_law_1842 hroL_L_shouldCost hg3) F hA hr (fun H locs hr => ?_)
  refine lv_istore (lv' := [(5, .int k1), (0, .ref b), (1, .ref (B 11 0)), (2, .ref (B 19 0)), (3, .ref (B 193 0)), (4, .int x4)]) F.1 F.2.1 dL_law_1845 hl (by decide) rfl (fun ls hl => ?_)
  refine lv_aload_n F.1 F.2.1 dL_law_1847 rfl (lv_at hl 3 rfl) ?_
  refine lv_aload_n F.1 F.2.1 dL_law_1848 rfl (lv_at hl 1 rfl) ?_
  refine lv_iload F.1 F.2.1 dL_law_1849 (lv_at hl 5 rfl) ?_
  refine lv_iconst (v := (1 : Int32)) F.1 F.2.1 dL_law_1851 (by decide) ?_
  refine lv_iadd F.1 F.2.1 dL_law_1852 ?_
  refine va_sld F.1 F.2.1 hX hbl hbA hr.2.1 hin1 dL_law_1853 ?_
  rw [hva1]
  refine lv_aload_n F.1 F.2.1 dL_law_1854 rfl (lv_at hl 1 rfl) ?_
  refine lv_iload F.1 F.2.1 dL_law_1855 (lv_at hl 5 rfl) ?_
  refine lv_iconst (v := (2 : Int32)) F.1 F.2.1 dL_law_1857 (by decide) ?_
  refine lv_iadd F.1 F.2.1 dL_law_1858 ?_
  refine va_sld F.1 F.2.1 hX hbl hbA hr.2.1 hin2 dL_law_1859 ?_
  rw [hva2]
  replace h := zc_some h
  obtain ⟨r5, z6, hc7, h⟩ := h
  refine zr_calli (zrun_V (As := [.int (sc 1), .int (sc 2)]) (rest := []) zq_3101 zq_3102 zs_X19_shouldCost zq_3104 zq_4 hdX19_shouldCost (by decide) (T := TX19) (N := 32) rfl (okX19_shouldCost l D cy B ids hst N 0 h19 (sc 1)  (sc 2)  hr.2.2 hc7) F hr h19 hl.1 rfl (by decide) dL_law_1860 rfl rfl hroL_X19_shouldCost hg3) F hA hr (fun H locs hw8 hr => ?_)
  clear hc7
  refine lv_istore (lv' := [(6, .int r5), (5, .int k1), (0, .ref b), (1, .ref (B 11 0)), (2, .ref (B 19 0)), (3, .ref (B 193 0)), (4, .int x4)]) F.1 F.2.1 dL_law_1863 hl (by decide) rfl (fun ls hl => ?_)
  refine lv_aload_n F.1 F.2.1 dL_law_1865 rfl (lv_at hl 4 rfl) ?_
  replace h := zc_some h
  obtain ⟨r9, z10, hc11, h⟩ := h
  refine zr_calli (zrun_V (As := []) (rest := []) zq_1982 zq_1983 zs_X19_thrown zq_1985 zq_4 hdX19_thrown (by decide) (T := TX19) (N := 32) rfl (okX19_thrown l D cy B ids hst N 0 h19 hr.2.2 hc11) F hr h19 hl.1 rfl (by decide) dL_law_1866 rfl rfl hroL_X19_thrown hg3) F hA hr (fun H locs hw12 hr => ?_)
  clear hc11
  refine lv_iload F.1 F.2.1 dL_law_1869 (lv_at hl 1 rfl) ?_
  refine lv_icmp_eq (tgt := 1876) F.1 F.2.1 dL_law_1871 (by decide) (fun c13 => ?_) (fun c13 => ?_)
  · replace h := zi_t c13 h
    refine lv_iload F.1 F.2.1 dL_law_1876 (lv_at hl 1 rfl) ?_
    refine lv_if_ne (tgt := 1893) F.1 F.2.1 dL_law_1878 (by decide) (fun c14 => ?_) (fun c14 => ?_)
    · replace h := zi_t c14 h
      refine lv_goto (tgt := 2079) F.1 F.2.1 dL_law_1893 (by decide) ?_
      obtain ⟨rfl, rfl, rfl, rfl⟩ := zret4 h
      exact K _ H locs ls hst h9 F h11 h19 h193 hg3 hr (lv_sub hl [2, 3, 4, 5, 6] rfl)
    · replace h := zi_f (fun q => q c14) h
      refine lv_aload_n F.1 F.2.1 dL_law_1881 rfl (lv_at hl 5 rfl) ?_
      refine lv_iconst (v := (0 : Int32)) F.1 F.2.1 dL_law_1882 (by decide) ?_
      refine zr_lald (k := 193) (by decide) rfl (by decide) F h193 hr dL_law_1883 (by unfold vp_in; decide) ?_
      refine lv_iload F.1 F.2.1 dL_law_1884 (lv_at hl 0 rfl) ?_
      refine lv_i2l F.1 F.2.1 dL_law_1886 rfl ?_
      refine W.lcmp F.1 F.2.1 dL_law_1887 ?_
      refine lv_if_eq (tgt := 1893) F.1 F.2.1 dL_law_1888 (by decide) (fun c16 => ?_) (fun c16 => ?_)
      · replace h := zi_t c16 h
        refine lv_goto (tgt := 2079) F.1 F.2.1 dL_law_1893 (by decide) ?_
        obtain ⟨rfl, rfl, rfl, rfl⟩ := zret4 h
        exact K _ H locs ls hst h9 F h11 h19 h193 hg3 hr (lv_sub hl [2, 3, 4, 5, 6] rfl)
      · replace h := zi_f c16 h
        refine lv_iconst (v := (0 : Int32)) F.1 F.2.1 dL_law_1891 (by decide) ?_
        cases h
  · replace h := zi_f c13 h
    refine lv_iconst (v := (0 : Int32)) F.1 F.2.1 dL_law_1874 (by decide) ?_
    cases h
noncomputable def fLaw_24 (N : Nat) (sc : Nat → Int32) (ids : List (Nat × Nat)) (cc ss : Nat) (z : St) : Option (St × List (Nat × Nat) × Nat × Nat) := zc (fX11_bound N 0 z) fun r1 z2 => zc (fX19_bound N 0 z2) fun r5 z6 => if r1 = r5 then (some (z6, ids, cc, ss)) else (none)
set_option maxHeartbeats 8000000 in
set_option maxRecDepth 100000 in
theorem cLaw_24 (hst : zSt B ids) (h9 : zI9 ids) (F : zFx p m c cL_law 7 s args RL D cy B ids A) (hA : ∀ q : Nat, s.heap.size ≤ q → A q) (hlf : l.stackTraces = false) (hXK : zXK A s s.heap) (hLK : zLK s) (hAO : zAO s) (hX : va_X b L xs s s.heap) (hbl : b < s.heap.size) (hbA : ¬ A b) (h11 : (11, 0) ∈ ids) (h19 : (19, 0) ∈ ids) (h193 : (193, 0) ∈ ids) {N : Nat} {sc : Nat → Int32} {x4 : Int32} (hin0 : vp_in x4 L) (hva0 : xs (Int32.toNatClampNeg x4) = sc 0) (hin1 : vp_in (x4 + (1 : Int32)) L) (hva1 : xs (Int32.toNatClampNeg (x4 + (1 : Int32))) = sc 1) (hin2 : vp_in (x4 + (2 : Int32)) L) (hva2 : xs (Int32.toNatClampNeg (x4 + (2 : Int32))) = sc 2) (hin3 : vp_in (x4 + (3 : Int32)) L) (hva3 : xs (Int32.toNatClampNeg (x4 + (3 : Int32))) = sc 3) (hin4 : vp_in (x4 + (4 : Int32)) L) (hva4 : xs (Int32.toNatClampNeg (x4 + (4 : Int32))) = sc 4) (hin5 : vp_in (x4 + (5 : Int32)) L) (hva5 : xs (Int32.toNatClampNeg (x4 + (5 : Int32))) = sc 5) {cc ss : Nat} (hcs : cc ≤ room_1.cells ∧ ss ≤ room_1.slots) {z z' : St} {I' : List (Nat × Nat)} {c' s' : Nat} {H : Heap} {locs : List Loc} {ls : Array Slot} (hr : zRep D cy B ids A s.heap z H locs) (hl : lv_has ls 7 [(0, .ref b), (1, .ref (B 11 0)), (2, .ref (B 19 0)), (3, .ref (B 193 0)), (4, .int x4)])
    (K : ∀ (B1 : Nat → Nat → Nat) (H : Heap) (locs : List Loc) (ls : Array Slot), zSt B1 I' → zI9 I' → zFx p m c cL_law 7 s args RL D cy B1 I' A → (11, 0) ∈ I' → (19, 0) ∈ I' → (193, 0) ∈ I' → c' ≤ room_1.cells ∧ s' ≤ room_1.slots → zRep D cy B1 I' A s.heap z' H locs → lv_has ls 7 [(0, .ref b), (1, .ref (B1 11 0)), (2, .ref (B1 19 0)), (3, .ref (B1 193 0)), (4, .int x4)] → W p l e room_1 s m args below meth c H locs c' s' Q (F0 m 2079 ls []))
    (h : fLaw_24 N sc ids cc ss z = some (z', I', c', s')) : W p l e room_1 s m args below meth c H locs cc ss Q (F0 m 1896 ls []) := by
  unfold fLaw_24 at h
  refine lv_aload_n F.1 F.2.1 dL_law_1896 rfl (lv_at hl 1 rfl) ?_
  replace h := zc_some h
  obtain ⟨r1, z2, hc3, h⟩ := h
  refine zr_calli (zrun_V (As := []) (rest := []) zq_266 zq_267 zs_X11_bound zq_269 zq_1 hdX11_bound (by decide) (T := TX11) (N := 21) rfl (okX11_bound l D cy B ids hst N 0 h11 hr.2.2 hc3) F hr h11 hl.1 rfl (by decide) dL_law_1897 rfl rfl hroL_X11_bound hcs) F hA hr (fun H locs hw4 hr => ?_)
  clear hc3
  refine lv_aload_n F.1 F.2.1 dL_law_1900 rfl (lv_at hl 2 rfl) ?_
  replace h := zc_some h
  obtain ⟨r5, z6, hc7, h⟩ := h
  refine zr_calli (zrun_V (As := []) (rest := [.int r1]) zq_3117 zq_3118 zs_X19_bound zq_3120 zq_4 hdX19_bound (by decide) (T := TX19) (N := 32) rfl (okX19_bound l D cy B ids hst N 0 h19 hr.2.2 hc7) F hr h19 hl.1 rfl (Nat.le_of_ble_eq_true rfl) dL_law_1901 rfl rfl hroL_X19_bound hcs) F hA hr (fun H locs hw8 hr => ?_)
  clear hc7
  refine lv_icmp_eq (tgt := 2079) F.1 F.2.1 dL_law_1904 (by decide) (fun c9 => ?_) (fun c9 => ?_)
  · replace h := zi_t c9 h
    obtain ⟨rfl, rfl, rfl, rfl⟩ := zret4 h
    exact K _ H locs ls hst h9 F h11 h19 h193 hcs hr (lv_sub hl [0, 1, 2, 3, 4] rfl)
  · replace h := zi_f c9 h
    refine lv_iconst (v := (0 : Int32)) F.1 F.2.1 dL_law_1907 (by decide) ?_
    cases h
noncomputable def fLaw_25 (N : Nat) (sc : Nat → Int32) (ids : List (Nat × Nat)) (cc ss : Nat) (z : St) : Option (St × List (Nat × Nat) × Nat × Nat) := if (sc 3) = 0 then (zqc ((cc + (rmL_drain).cells) ≤ room_1.cells ∧ (ss + (rmL_drain).slots) ≤ room_1.slots) <| zc (fL_drain N 0 (sc 1) (sc 2) (0 : Int32) z) fun k2 z3 => zc (fX19_drain N 0 (sc 1) (sc 2) (0 : Int32) z3) fun _ z7 => zc (fX19_thrown N 0 z7) fun r10 z11 => if r10 = k2 then (some (z11, ids, (cc + (rmL_drain).cells), (ss + (rmL_drain).slots))) else (none)) else (zqc ((cc + (rmL_drain).cells) ≤ room_1.cells ∧ (ss + (rmL_drain).slots) ≤ room_1.slots) <| zc (fL_drain N 0 (sc 1) (sc 2) (1 : Int32) z) fun k15 z16 => zc (fX19_drain N 0 (sc 1) (sc 2) (1 : Int32) z16) fun _ z20 => zc (fX19_thrown N 0 z20) fun r23 z24 => if r23 = k15 then (some (z24, ids, (cc + (rmL_drain).cells), (ss + (rmL_drain).slots))) else (none))
set_option maxHeartbeats 8000000 in
set_option maxRecDepth 100000 in
theorem cLaw_25 (hst : zSt B ids) (h9 : zI9 ids) (F : zFx p m c cL_law 7 s args RL D cy B ids A) (hA : ∀ q : Nat, s.heap.size ≤ q → A q) (hlf : l.stackTraces = false) (hXK : zXK A s s.heap) (hLK : zLK s) (hAO : zAO s) (hX : va_X b L xs s s.heap) (hbl : b < s.heap.size) (hbA : ¬ A b) (h11 : (11, 0) ∈ ids) (h19 : (19, 0) ∈ ids) (h193 : (193, 0) ∈ ids) {N : Nat} {sc : Nat → Int32} {x4 : Int32} (hin0 : vp_in x4 L) (hva0 : xs (Int32.toNatClampNeg x4) = sc 0) (hin1 : vp_in (x4 + (1 : Int32)) L) (hva1 : xs (Int32.toNatClampNeg (x4 + (1 : Int32))) = sc 1) (hin2 : vp_in (x4 + (2 : Int32)) L) (hva2 : xs (Int32.toNatClampNeg (x4 + (2 : Int32))) = sc 2) (hin3 : vp_in (x4 + (3 : Int32)) L) (hva3 : xs (Int32.toNatClampNeg (x4 + (3 : Int32))) = sc 3) (hin4 : vp_in (x4 + (4 : Int32)) L) (hva4 : xs (Int32.toNatClampNeg (x4 + (4 : Int32))) = sc 4) (hin5 : vp_in (x4 + (5 : Int32)) L) (hva5 : xs (Int32.toNatClampNeg (x4 + (5 : Int32))) = sc 5) {cc ss : Nat} (hcs : cc ≤ room_1.cells ∧ ss ≤ room_1.slots) {z z' : St} {I' : List (Nat × Nat)} {c' s' : Nat} {H : Heap} {locs : List Loc} {ls : Array Slot} (hr : zRep D cy B ids A s.heap z H locs) (hl : lv_has ls 7 [(0, .ref b), (1, .ref (B 11 0)), (2, .ref (B 19 0)), (3, .ref (B 193 0)), (4, .int x4)])
    (K : ∀ (B1 : Nat → Nat → Nat) (H : Heap) (locs : List Loc) (ls : Array Slot), zSt B1 I' → zI9 I' → zFx p m c cL_law 7 s args RL D cy B1 I' A → (11, 0) ∈ I' → (19, 0) ∈ I' → (193, 0) ∈ I' → c' ≤ room_1.cells ∧ s' ≤ room_1.slots → zRep D cy B1 I' A s.heap z' H locs → lv_has ls 7 [(0, .ref b), (1, .ref (B1 11 0)), (2, .ref (B1 19 0)), (3, .ref (B1 193 0)), (4, .int x4)] → W p l e room_1 s m args below meth c H locs c' s' Q (F0 m 2079 ls []))
    (h : fLaw_25 N sc ids cc ss z = some (z', I', c', s')) : W p l e room_1 s m args below meth c H locs cc ss Q (F0 m 1909 ls []) := by
  unfold fLaw_25 at h
  refine lv_aload_n F.1 F.2.1 dL_law_1909 rfl (lv_at hl 1 rfl) ?_
  refine lv_aload_n F.1 F.2.1 dL_law_1910 rfl (lv_at hl 0 rfl) ?_
  refine lv_iload F.1 F.2.1 dL_law_1911 (lv_at hl 4 rfl) ?_
  refine lv_iconst (v := (1 : Int32)) F.1 F.2.1 dL_law_1913 (by decide) ?_
  refine lv_iadd F.1 F.2.1 dL_law_1914 ?_
  refine va_sld F.1 F.2.1 hX hbl hbA hr.2.1 hin1 dL_law_1915 ?_
  rw [hva1]
  refine lv_aload_n F.1 F.2.1 dL_law_1916 rfl (lv_at hl 0 rfl) ?_
  refine lv_iload F.1 F.2.1 dL_law_1917 (lv_at hl 4 rfl) ?_
  refine lv_iconst (v := (2 : Int32)) F.1 F.2.1 dL_law_1919 (by decide) ?_
  refine lv_iadd F.1 F.2.1 dL_law_1920 ?_
  refine va_sld F.1 F.2.1 hX hbl hbA hr.2.1 hin2 dL_law_1921 ?_
  rw [hva2]
  refine lv_aload_n F.1 F.2.1 dL_law_1922 rfl (lv_at hl 0 rfl) ?_
  refine lv_iload F.1 F.2.1 dL_law_1923 (lv_at hl 4 rfl) ?_
  refine lv_iconst (v := (3 : Int32)) F.1 F.2.1 dL_law_1925 (by decide) ?_
  refine lv_iadd F.1 F.2.1 dL_law_1926 ?_
  refine va_sld F.1 F.2.1 hX hbl hbA hr.2.1 hin3 dL_law_1927 ?_
  rw [hva3]
  refine lv_if_eq (tgt := 1935) F.1 F.2.1 dL_law_1928 (by decide) (fun c1 => ?_) (fun c1 => ?_)
  · replace h := zi_t c1 h
    refine lv_iconst (v := (0 : Int32)) F.1 F.2.1 dL_law_1935 (by decide) ?_
    replace h := zqc_some h
    obtain ⟨hg4, h⟩ := h
    replace h := zc_some h
    obtain ⟨k2, z3, hc5, h⟩ := h
    refine zr_callLi (zrun_L hXK hLK hA (As := [.ref (B 11 0), .int (sc 1), .int (sc 2), .int (0 : Int32)]) (rest := []) zq_1857 zq_1858 zq_1859 zq_0 hdL_drain (okL_drain l hlf D cy B ids hst N 0 h11 (sc 1) (sc 2) (0 : Int32) hr.2.2 hc5) F hr hl.1 rfl (by decide) dL_law_1936 hroL_L_drain hg4) F hA hr (fun H locs hr => ?_)
    refine lv_istore (lv' := [(5, .int k2), (0, .ref b), (1, .ref (B 11 0)), (2, .ref (B 19 0)), (3, .ref (B 193 0)), (4, .int x4)]) F.1 F.2.1 dL_law_1939 hl (by decide) rfl (fun ls hl => ?_)
    refine lv_aload_n F.1 F.2.1 dL_law_1941 rfl (lv_at hl 3 rfl) ?_
    refine lv_aload_n F.1 F.2.1 dL_law_1942 rfl (lv_at hl 1 rfl) ?_
    refine lv_iload F.1 F.2.1 dL_law_1943 (lv_at hl 5 rfl) ?_
    refine lv_iconst (v := (1 : Int32)) F.1 F.2.1 dL_law_1945 (by decide) ?_
    refine lv_iadd F.1 F.2.1 dL_law_1946 ?_
    refine va_sld F.1 F.2.1 hX hbl hbA hr.2.1 hin1 dL_law_1947 ?_
    rw [hva1]
    refine lv_aload_n F.1 F.2.1 dL_law_1948 rfl (lv_at hl 1 rfl) ?_
    refine lv_iload F.1 F.2.1 dL_law_1949 (lv_at hl 5 rfl) ?_
    refine lv_iconst (v := (2 : Int32)) F.1 F.2.1 dL_law_1951 (by decide) ?_
    refine lv_iadd F.1 F.2.1 dL_law_1952 ?_
    refine va_sld F.1 F.2.1 hX hbl hbA hr.2.1 hin2 dL_law_1953 ?_
    rw [hva2]
    refine lv_aload_n F.1 F.2.1 dL_law_1954 rfl (lv_at hl 1 rfl) ?_
    refine lv_iload F.1 F.2.1 dL_law_1955 (lv_at hl 5 rfl) ?_
    refine lv_iconst (v := (3 : Int32)) F.1 F.2.1 dL_law_1957 (by decide) ?_
    refine lv_iadd F.1 F.2.1 dL_law_1958 ?_
    refine va_sld F.1 F.2.1 hX hbl hbA hr.2.1 hin3 dL_law_1959 ?_
    rw [hva3]
    refine lv_if_eq (tgt := 1967) F.1 F.2.1 dL_law_1960 (by decide) (fun _ => ?_) (fun hc => absurd c1 hc)
    refine lv_iconst (v := (0 : Int32)) F.1 F.2.1 dL_law_1967 (by decide) ?_
    replace h := zc_some h
    obtain ⟨r6, z7, hc8, h⟩ := h
    refine zr_callv (zrun_V (As := [.int (sc 1), .int (sc 2), .int (0 : Int32)]) (rest := []) zq_3125 zq_3126 zs_X19_drain zq_3128 zq_4 hdX19_drain (by decide) (T := TX19) (N := 32) rfl (okX19_drain l D cy B ids hst N 0 h19 (sc 1)  (sc 2)  (0 : Int32)  hr.2.2 hc8) F hr h19 hl.1 rfl (by decide) dL_law_1968 rfl rfl hroL_X19_drain hg4) F hA hr (fun H locs hw9 hr => ?_)
    clear hc8
    refine lv_aload_n F.1 F.2.1 dL_law_1971 rfl (lv_at hl 3 rfl) ?_
    replace h := zc_some h
    obtain ⟨r10, z11, hc12, h⟩ := h
    refine zr_calli (zrun_V (As := []) (rest := []) zq_1982 zq_1983 zs_X19_thrown zq_1985 zq_4 hdX19_thrown (by decide) (T := TX19) (N := 32) rfl (okX19_thrown l D cy B ids hst N 0 h19 hr.2.2 hc12) F hr h19 hl.1 rfl (by decide) dL_law_1972 rfl rfl hroL_X19_thrown hg4) F hA hr (fun H locs hw13 hr => ?_)
    clear hc12
    refine lv_iload F.1 F.2.1 dL_law_1975 (lv_at hl 0 rfl) ?_
    refine lv_icmp_eq (tgt := 1982) F.1 F.2.1 dL_law_1977 (by decide) (fun c14 => ?_) (fun c14 => ?_)
    · replace h := zi_t c14 h
      refine lv_goto (tgt := 2079) F.1 F.2.1 dL_law_1982 (by decide) ?_
      obtain ⟨rfl, rfl, rfl, rfl⟩ := zret4 h
      exact K _ H locs ls hst h9 F h11 h19 h193 hg4 hr (lv_sub hl [1, 2, 3, 4, 5] rfl)
    · replace h := zi_f c14 h
      refine lv_iconst (v := (0 : Int32)) F.1 F.2.1 dL_law_1980 (by decide) ?_
      cases h
  · replace h := zi_f c1 h
    refine lv_iconst (v := (1 : Int32)) F.1 F.2.1 dL_law_1931 (by decide) ?_
    refine lv_goto (tgt := 1936) F.1 F.2.1 dL_law_1932 (by decide) ?_
    replace h := zqc_some h
    obtain ⟨hg17, h⟩ := h
    replace h := zc_some h
    obtain ⟨k15, z16, hc18, h⟩ := h
    refine zr_callLi (zrun_L hXK hLK hA (As := [.ref (B 11 0), .int (sc 1), .int (sc 2), .int (1 : Int32)]) (rest := []) zq_1857 zq_1858 zq_1859 zq_0 hdL_drain (okL_drain l hlf D cy B ids hst N 0 h11 (sc 1) (sc 2) (1 : Int32) hr.2.2 hc18) F hr hl.1 rfl (by decide) dL_law_1936 hroL_L_drain hg17) F hA hr (fun H locs hr => ?_)
    refine lv_istore (lv' := [(5, .int k15), (0, .ref b), (1, .ref (B 11 0)), (2, .ref (B 19 0)), (3, .ref (B 193 0)), (4, .int x4)]) F.1 F.2.1 dL_law_1939 hl (by decide) rfl (fun ls hl => ?_)
    refine lv_aload_n F.1 F.2.1 dL_law_1941 rfl (lv_at hl 3 rfl) ?_
    refine lv_aload_n F.1 F.2.1 dL_law_1942 rfl (lv_at hl 1 rfl) ?_
    refine lv_iload F.1 F.2.1 dL_law_1943 (lv_at hl 5 rfl) ?_
    refine lv_iconst (v := (1 : Int32)) F.1 F.2.1 dL_law_1945 (by decide) ?_
    refine lv_iadd F.1 F.2.1 dL_law_1946 ?_
    refine va_sld F.1 F.2.1 hX hbl hbA hr.2.1 hin1 dL_law_1947 ?_
    rw [hva1]
    refine lv_aload_n F.1 F.2.1 dL_law_1948 rfl (lv_at hl 1 rfl) ?_
    refine lv_iload F.1 F.2.1 dL_law_1949 (lv_at hl 5 rfl) ?_
    refine lv_iconst (v := (2 : Int32)) F.1 F.2.1 dL_law_1951 (by decide) ?_
    refine lv_iadd F.1 F.2.1 dL_law_1952 ?_
    refine va_sld F.1 F.2.1 hX hbl hbA hr.2.1 hin2 dL_law_1953 ?_
    rw [hva2]
    refine lv_aload_n F.1 F.2.1 dL_law_1954 rfl (lv_at hl 1 rfl) ?_
    refine lv_iload F.1 F.2.1 dL_law_1955 (lv_at hl 5 rfl) ?_
    refine lv_iconst (v := (3 : Int32)) F.1 F.2.1 dL_law_1957 (by decide) ?_
    refine lv_iadd F.1 F.2.1 dL_law_1958 ?_
    refine va_sld F.1 F.2.1 hX hbl hbA hr.2.1 hin3 dL_law_1959 ?_
    rw [hva3]
    refine lv_if_eq (tgt := 1967) F.1 F.2.1 dL_law_1960 (by decide) (fun hc => absurd hc c1) (fun _ => ?_)
    refine lv_iconst (v := (1 : Int32)) F.1 F.2.1 dL_law_1963 (by decide) ?_
    refine lv_goto (tgt := 1968) F.1 F.2.1 dL_law_1964 (by decide) ?_
    replace h := zc_some h
    obtain ⟨r19, z20, hc21, h⟩ := h
    refine zr_callv (zrun_V (As := [.int (sc 1), .int (sc 2), .int (1 : Int32)]) (rest := []) zq_3125 zq_3126 zs_X19_drain zq_3128 zq_4 hdX19_drain (by decide) (T := TX19) (N := 32) rfl (okX19_drain l D cy B ids hst N 0 h19 (sc 1)  (sc 2)  (1 : Int32)  hr.2.2 hc21) F hr h19 hl.1 rfl (by decide) dL_law_1968 rfl rfl hroL_X19_drain hg17) F hA hr (fun H locs hw22 hr => ?_)
    clear hc21
    refine lv_aload_n F.1 F.2.1 dL_law_1971 rfl (lv_at hl 3 rfl) ?_
    replace h := zc_some h
    obtain ⟨r23, z24, hc25, h⟩ := h
    refine zr_calli (zrun_V (As := []) (rest := []) zq_1982 zq_1983 zs_X19_thrown zq_1985 zq_4 hdX19_thrown (by decide) (T := TX19) (N := 32) rfl (okX19_thrown l D cy B ids hst N 0 h19 hr.2.2 hc25) F hr h19 hl.1 rfl (by decide) dL_law_1972 rfl rfl hroL_X19_thrown hg17) F hA hr (fun H locs hw26 hr => ?_)
    clear hc25
    refine lv_iload F.1 F.2.1 dL_law_1975 (lv_at hl 0 rfl) ?_
    refine lv_icmp_eq (tgt := 1982) F.1 F.2.1 dL_law_1977 (by decide) (fun c27 => ?_) (fun c27 => ?_)
    · replace h := zi_t c27 h
      refine lv_goto (tgt := 2079) F.1 F.2.1 dL_law_1982 (by decide) ?_
      obtain ⟨rfl, rfl, rfl, rfl⟩ := zret4 h
      exact K _ H locs ls hst h9 F h11 h19 h193 hg17 hr (lv_sub hl [1, 2, 3, 4, 5] rfl)
    · replace h := zi_f c27 h
      refine lv_iconst (v := (0 : Int32)) F.1 F.2.1 dL_law_1980 (by decide) ?_
      cases h
noncomputable def fLaw_26 (N : Nat) (sc : Nat → Int32) (ids : List (Nat × Nat)) (cc ss : Nat) (z : St) : Option (St × List (Nat × Nat) × Nat × Nat) := zqc ((cc + (rmL_drained).cells) ≤ room_1.cells ∧ (ss + (rmL_drained).slots) ≤ room_1.slots) <| zc (fL_drained N 0 (sc 1) (sc 2) 0 z) fun k1 z2 => zc (fX19_drained N 0 (sc 1) (sc 2) z2) fun r5 z6 => zc (fX19_thrown N 0 z6) fun r9 z10 => if r9 = k1 then (if ¬ k1 = 0 then (some (z10, ids, (cc + (rmL_drained).cells), (ss + (rmL_drained).slots))) else (if (lg_cmp (zgL z10 193 0 (Int32.toNatClampNeg (0 : Int32))) (Int32.toInt64 r5)) = 0 then (some (z10, ids, (cc + (rmL_drained).cells), (ss + (rmL_drained).slots))) else (none))) else (none)
set_option maxHeartbeats 8000000 in
set_option maxRecDepth 100000 in
theorem cLaw_26 (hst : zSt B ids) (h9 : zI9 ids) (F : zFx p m c cL_law 7 s args RL D cy B ids A) (hA : ∀ q : Nat, s.heap.size ≤ q → A q) (hlf : l.stackTraces = false) (hXK : zXK A s s.heap) (hLK : zLK s) (hAO : zAO s) (hX : va_X b L xs s s.heap) (hbl : b < s.heap.size) (hbA : ¬ A b) (h11 : (11, 0) ∈ ids) (h19 : (19, 0) ∈ ids) (h193 : (193, 0) ∈ ids) {N : Nat} {sc : Nat → Int32} {x4 : Int32} (hin0 : vp_in x4 L) (hva0 : xs (Int32.toNatClampNeg x4) = sc 0) (hin1 : vp_in (x4 + (1 : Int32)) L) (hva1 : xs (Int32.toNatClampNeg (x4 + (1 : Int32))) = sc 1) (hin2 : vp_in (x4 + (2 : Int32)) L) (hva2 : xs (Int32.toNatClampNeg (x4 + (2 : Int32))) = sc 2) (hin3 : vp_in (x4 + (3 : Int32)) L) (hva3 : xs (Int32.toNatClampNeg (x4 + (3 : Int32))) = sc 3) (hin4 : vp_in (x4 + (4 : Int32)) L) (hva4 : xs (Int32.toNatClampNeg (x4 + (4 : Int32))) = sc 4) (hin5 : vp_in (x4 + (5 : Int32)) L) (hva5 : xs (Int32.toNatClampNeg (x4 + (5 : Int32))) = sc 5) {cc ss : Nat} (hcs : cc ≤ room_1.cells ∧ ss ≤ room_1.slots) {z z' : St} {I' : List (Nat × Nat)} {c' s' : Nat} {H : Heap} {locs : List Loc} {ls : Array Slot} (hr : zRep D cy B ids A s.heap z H locs) (hl : lv_has ls 7 [(0, .ref b), (1, .ref (B 11 0)), (2, .ref (B 19 0)), (3, .ref (B 193 0)), (4, .int x4)])
    (K : ∀ (B1 : Nat → Nat → Nat) (H : Heap) (locs : List Loc) (ls : Array Slot), zSt B1 I' → zI9 I' → zFx p m c cL_law 7 s args RL D cy B1 I' A → (11, 0) ∈ I' → (19, 0) ∈ I' → (193, 0) ∈ I' → c' ≤ room_1.cells ∧ s' ≤ room_1.slots → zRep D cy B1 I' A s.heap z' H locs → lv_has ls 7 [(0, .ref b), (1, .ref (B1 11 0)), (2, .ref (B1 19 0)), (3, .ref (B1 193 0)), (4, .int x4)] → W p l e room_1 s m args below meth c H locs c' s' Q (F0 m 2079 ls []))
    (h : fLaw_26 N sc ids cc ss z = some (z', I', c', s')) : W p l e room_1 s m args below meth c H locs cc ss Q (F0 m 1985 ls []) := by
  unfold fLaw_26 at h
  refine lv_aload_n F.1 F.2.1 dL_law_1985 rfl (lv_at hl 1 rfl) ?_
  refine lv_aload_n F.1 F.2.1 dL_law_1986 rfl (lv_at hl 0 rfl) ?_
  refine lv_iload F.1 F.2.1 dL_law_1987 (lv_at hl 4 rfl) ?_
  refine lv_iconst (v := (1 : Int32)) F.1 F.2.1 dL_law_1989 (by decide) ?_
  refine lv_iadd F.1 F.2.1 dL_law_1990 ?_
  refine va_sld F.1 F.2.1 hX hbl hbA hr.2.1 hin1 dL_law_1991 ?_
  rw [hva1]
  refine lv_aload_n F.1 F.2.1 dL_law_1992 rfl (lv_at hl 0 rfl) ?_
  refine lv_iload F.1 F.2.1 dL_law_1993 (lv_at hl 4 rfl) ?_
  refine lv_iconst (v := (2 : Int32)) F.1 F.2.1 dL_law_1995 (by decide) ?_
  refine lv_iadd F.1 F.2.1 dL_law_1996 ?_
  refine va_sld F.1 F.2.1 hX hbl hbA hr.2.1 hin2 dL_law_1997 ?_
  rw [hva2]
  refine lv_aload_n F.1 F.2.1 dL_law_1998 rfl (lv_at hl 3 rfl) ?_
  replace h := zqc_some h
  obtain ⟨hg3, h⟩ := h
  replace h := zc_some h
  obtain ⟨k1, z2, hc4, h⟩ := h
  refine zr_callLi (zrun_L hXK hLK hA (As := [.ref (B 11 0), .int (sc 1), .int (sc 2), .ref (B 193 0)]) (rest := []) zq_1864 zq_1865 zq_1866 zq_0 hdL_drained (okL_drained l hlf D cy B ids hst N 0 h11 (sc 1) (sc 2) 0 h193 hr.2.2 hc4) F hr hl.1 rfl (by decide) dL_law_1999 hroL_L_drained hg3) F hA hr (fun H locs hr => ?_)
  refine lv_istore (lv' := [(5, .int k1), (0, .ref b), (1, .ref (B 11 0)), (2, .ref (B 19 0)), (3, .ref (B 193 0)), (4, .int x4)]) F.1 F.2.1 dL_law_2002 hl (by decide) rfl (fun ls hl => ?_)
  refine lv_aload_n F.1 F.2.1 dL_law_2004 rfl (lv_at hl 3 rfl) ?_
  refine lv_aload_n F.1 F.2.1 dL_law_2005 rfl (lv_at hl 1 rfl) ?_
  refine lv_iload F.1 F.2.1 dL_law_2006 (lv_at hl 5 rfl) ?_
  refine lv_iconst (v := (1 : Int32)) F.1 F.2.1 dL_law_2008 (by decide) ?_
  refine lv_iadd F.1 F.2.1 dL_law_2009 ?_
  refine va_sld F.1 F.2.1 hX hbl hbA hr.2.1 hin1 dL_law_2010 ?_
  rw [hva1]
  refine lv_aload_n F.1 F.2.1 dL_law_2011 rfl (lv_at hl 1 rfl) ?_
  refine lv_iload F.1 F.2.1 dL_law_2012 (lv_at hl 5 rfl) ?_
  refine lv_iconst (v := (2 : Int32)) F.1 F.2.1 dL_law_2014 (by decide) ?_
  refine lv_iadd F.1 F.2.1 dL_law_2015 ?_
  refine va_sld F.1 F.2.1 hX hbl hbA hr.2.1 hin2 dL_law_2016 ?_
  rw [hva2]
  replace h := zc_some h
  obtain ⟨r5, z6, hc7, h⟩ := h
  refine zr_calli (zrun_V (As := [.int (sc 1), .int (sc 2)]) (rest := []) zq_3129 zq_3130 zs_X19_drained zq_3132 zq_4 hdX19_drained (by decide) (T := TX19) (N := 32) rfl (okX19_drained l D cy B ids hst N 0 h19 (sc 1)  (sc 2)  hr.2.2 hc7) F hr h19 hl.1 rfl (by decide) dL_law_2017 rfl rfl hroL_X19_drained hg3) F hA hr (fun H locs hw8 hr => ?_)
  clear hc7
  refine lv_istore (lv' := [(6, .int r5), (5, .int k1), (0, .ref b), (1, .ref (B 11 0)), (2, .ref (B 19 0)), (3, .ref (B 193 0)), (4, .int x4)]) F.1 F.2.1 dL_law_2020 hl (by decide) rfl (fun ls hl => ?_)
  refine lv_aload_n F.1 F.2.1 dL_law_2022 rfl (lv_at hl 4 rfl) ?_
  replace h := zc_some h
  obtain ⟨r9, z10, hc11, h⟩ := h
  refine zr_calli (zrun_V (As := []) (rest := []) zq_1982 zq_1983 zs_X19_thrown zq_1985 zq_4 hdX19_thrown (by decide) (T := TX19) (N := 32) rfl (okX19_thrown l D cy B ids hst N 0 h19 hr.2.2 hc11) F hr h19 hl.1 rfl (by decide) dL_law_2023 rfl rfl hroL_X19_thrown hg3) F hA hr (fun H locs hw12 hr => ?_)
  clear hc11
  refine lv_iload F.1 F.2.1 dL_law_2026 (lv_at hl 1 rfl) ?_
  refine lv_icmp_eq (tgt := 2033) F.1 F.2.1 dL_law_2028 (by decide) (fun c13 => ?_) (fun c13 => ?_)
  · replace h := zi_t c13 h
    refine lv_iload F.1 F.2.1 dL_law_2033 (lv_at hl 1 rfl) ?_
    refine lv_if_ne (tgt := 2050) F.1 F.2.1 dL_law_2035 (by decide) (fun c14 => ?_) (fun c14 => ?_)
    · replace h := zi_t c14 h
      refine lv_goto (tgt := 2079) F.1 F.2.1 dL_law_2050 (by decide) ?_
      obtain ⟨rfl, rfl, rfl, rfl⟩ := zret4 h
      exact K _ H locs ls hst h9 F h11 h19 h193 hg3 hr (lv_sub hl [2, 3, 4, 5, 6] rfl)
    · replace h := zi_f (fun q => q c14) h
      refine lv_aload_n F.1 F.2.1 dL_law_2038 rfl (lv_at hl 5 rfl) ?_
      refine lv_iconst (v := (0 : Int32)) F.1 F.2.1 dL_law_2039 (by decide) ?_
      refine zr_lald (k := 193) (by decide) rfl (by decide) F h193 hr dL_law_2040 (by unfold vp_in; decide) ?_
      refine lv_iload F.1 F.2.1 dL_law_2041 (lv_at hl 0 rfl) ?_
      refine lv_i2l F.1 F.2.1 dL_law_2043 rfl ?_
      refine W.lcmp F.1 F.2.1 dL_law_2044 ?_
      refine lv_if_eq (tgt := 2050) F.1 F.2.1 dL_law_2045 (by decide) (fun c16 => ?_) (fun c16 => ?_)
      · replace h := zi_t c16 h
        refine lv_goto (tgt := 2079) F.1 F.2.1 dL_law_2050 (by decide) ?_
        obtain ⟨rfl, rfl, rfl, rfl⟩ := zret4 h
        exact K _ H locs ls hst h9 F h11 h19 h193 hg3 hr (lv_sub hl [2, 3, 4, 5, 6] rfl)
      · replace h := zi_f c16 h
        refine lv_iconst (v := (0 : Int32)) F.1 F.2.1 dL_law_2048 (by decide) ?_
        cases h
  · replace h := zi_f c13 h
    refine lv_iconst (v := (0 : Int32)) F.1 F.2.1 dL_law_2031 (by decide) ?_
    cases h
noncomputable def fLaw_27 (N : Nat) (sc : Nat → Int32) (ids : List (Nat × Nat)) (cc ss : Nat) (z : St) : Option (St × List (Nat × Nat) × Nat × Nat) := zc (fX11_strays N 0 z) fun r1 z2 => zc (fX19_strays N 0 z2) fun r5 z6 => if r1 = r5 then (some (z6, ids, cc, ss)) else (none)
set_option maxHeartbeats 8000000 in
set_option maxRecDepth 100000 in
theorem cLaw_27 (hst : zSt B ids) (h9 : zI9 ids) (F : zFx p m c cL_law 7 s args RL D cy B ids A) (hA : ∀ q : Nat, s.heap.size ≤ q → A q) (hlf : l.stackTraces = false) (hXK : zXK A s s.heap) (hLK : zLK s) (hAO : zAO s) (hX : va_X b L xs s s.heap) (hbl : b < s.heap.size) (hbA : ¬ A b) (h11 : (11, 0) ∈ ids) (h19 : (19, 0) ∈ ids) (h193 : (193, 0) ∈ ids) {N : Nat} {sc : Nat → Int32} {x4 : Int32} (hin0 : vp_in x4 L) (hva0 : xs (Int32.toNatClampNeg x4) = sc 0) (hin1 : vp_in (x4 + (1 : Int32)) L) (hva1 : xs (Int32.toNatClampNeg (x4 + (1 : Int32))) = sc 1) (hin2 : vp_in (x4 + (2 : Int32)) L) (hva2 : xs (Int32.toNatClampNeg (x4 + (2 : Int32))) = sc 2) (hin3 : vp_in (x4 + (3 : Int32)) L) (hva3 : xs (Int32.toNatClampNeg (x4 + (3 : Int32))) = sc 3) (hin4 : vp_in (x4 + (4 : Int32)) L) (hva4 : xs (Int32.toNatClampNeg (x4 + (4 : Int32))) = sc 4) (hin5 : vp_in (x4 + (5 : Int32)) L) (hva5 : xs (Int32.toNatClampNeg (x4 + (5 : Int32))) = sc 5) {cc ss : Nat} (hcs : cc ≤ room_1.cells ∧ ss ≤ room_1.slots) {z z' : St} {I' : List (Nat × Nat)} {c' s' : Nat} {H : Heap} {locs : List Loc} {ls : Array Slot} (hr : zRep D cy B ids A s.heap z H locs) (hl : lv_has ls 7 [(0, .ref b), (1, .ref (B 11 0)), (2, .ref (B 19 0)), (3, .ref (B 193 0)), (4, .int x4)])
    (K : ∀ (B1 : Nat → Nat → Nat) (H : Heap) (locs : List Loc) (ls : Array Slot), zSt B1 I' → zI9 I' → zFx p m c cL_law 7 s args RL D cy B1 I' A → (11, 0) ∈ I' → (19, 0) ∈ I' → (193, 0) ∈ I' → c' ≤ room_1.cells ∧ s' ≤ room_1.slots → zRep D cy B1 I' A s.heap z' H locs → lv_has ls 7 [(0, .ref b), (1, .ref (B1 11 0)), (2, .ref (B1 19 0)), (3, .ref (B1 193 0)), (4, .int x4)] → W p l e room_1 s m args below meth c H locs c' s' Q (F0 m 2079 ls []))
    (h : fLaw_27 N sc ids cc ss z = some (z', I', c', s')) : W p l e room_1 s m args below meth c H locs cc ss Q (F0 m 2053 ls []) := by
  unfold fLaw_27 at h
  refine lv_aload_n F.1 F.2.1 dL_law_2053 rfl (lv_at hl 1 rfl) ?_
  replace h := zc_some h
  obtain ⟨r1, z2, hc3, h⟩ := h
  refine zr_calli (zrun_V (As := []) (rest := []) zq_277 zq_278 zs_X11_strays zq_280 zq_1 hdX11_strays (by decide) (T := TX11) (N := 21) rfl (okX11_strays l D cy B ids hst N 0 h11 hr.2.2 hc3) F hr h11 hl.1 rfl (by decide) dL_law_2054 rfl rfl hroL_X11_strays hcs) F hA hr (fun H locs hw4 hr => ?_)
  clear hc3
  refine lv_aload_n F.1 F.2.1 dL_law_2057 rfl (lv_at hl 2 rfl) ?_
  replace h := zc_some h
  obtain ⟨r5, z6, hc7, h⟩ := h
  refine zr_calli (zrun_V (As := []) (rest := [.int r1]) zq_3133 zq_3134 zs_X19_strays zq_3136 zq_4 hdX19_strays (by decide) (T := TX19) (N := 32) rfl (okX19_strays l D cy B ids hst N 0 h19 hr.2.2 hc7) F hr h19 hl.1 rfl (Nat.le_of_ble_eq_true rfl) dL_law_2058 rfl rfl hroL_X19_strays hcs) F hA hr (fun H locs hw8 hr => ?_)
  clear hc7
  refine lv_icmp_eq (tgt := 2079) F.1 F.2.1 dL_law_2061 (by decide) (fun c9 => ?_) (fun c9 => ?_)
  · replace h := zi_t c9 h
    obtain ⟨rfl, rfl, rfl, rfl⟩ := zret4 h
    exact K _ H locs ls hst h9 F h11 h19 h193 hcs hr (lv_sub hl [0, 1, 2, 3, 4] rfl)
  · replace h := zi_f c9 h
    refine lv_iconst (v := (0 : Int32)) F.1 F.2.1 dL_law_2064 (by decide) ?_
    cases h
noncomputable def fLaw_28 (N : Nat) (sc : Nat → Int32) (ids : List (Nat × Nat)) (cc ss : Nat) (z : St) : Option (St × List (Nat × Nat) × Nat × Nat) := zc (fX11_overdue N 0 z) fun r1 z2 => zc (fX19_overdue N 0 z2) fun r5 z6 => if r1 = r5 then (some (z6, ids, cc, ss)) else (none)
set_option maxHeartbeats 8000000 in
set_option maxRecDepth 100000 in
theorem cLaw_28 (hst : zSt B ids) (h9 : zI9 ids) (F : zFx p m c cL_law 7 s args RL D cy B ids A) (hA : ∀ q : Nat, s.heap.size ≤ q → A q) (hlf : l.stackTraces = false) (hXK : zXK A s s.heap) (hLK : zLK s) (hAO : zAO s) (hX : va_X b L xs s s.heap) (hbl : b < s.heap.size) (hbA : ¬ A b) (h11 : (11, 0) ∈ ids) (h19 : (19, 0) ∈ ids) (h193 : (193, 0) ∈ ids) {N : Nat} {sc : Nat → Int32} {x4 : Int32} (hin0 : vp_in x4 L) (hva0 : xs (Int32.toNatClampNeg x4) = sc 0) (hin1 : vp_in (x4 + (1 : Int32)) L) (hva1 : xs (Int32.toNatClampNeg (x4 + (1 : Int32))) = sc 1) (hin2 : vp_in (x4 + (2 : Int32)) L) (hva2 : xs (Int32.toNatClampNeg (x4 + (2 : Int32))) = sc 2) (hin3 : vp_in (x4 + (3 : Int32)) L) (hva3 : xs (Int32.toNatClampNeg (x4 + (3 : Int32))) = sc 3) (hin4 : vp_in (x4 + (4 : Int32)) L) (hva4 : xs (Int32.toNatClampNeg (x4 + (4 : Int32))) = sc 4) (hin5 : vp_in (x4 + (5 : Int32)) L) (hva5 : xs (Int32.toNatClampNeg (x4 + (5 : Int32))) = sc 5) {cc ss : Nat} (hcs : cc ≤ room_1.cells ∧ ss ≤ room_1.slots) {z z' : St} {I' : List (Nat × Nat)} {c' s' : Nat} {H : Heap} {locs : List Loc} {ls : Array Slot} (hr : zRep D cy B ids A s.heap z H locs) (hl : lv_has ls 7 [(0, .ref b), (1, .ref (B 11 0)), (2, .ref (B 19 0)), (3, .ref (B 193 0)), (4, .int x4)])
    (K : ∀ (B1 : Nat → Nat → Nat) (H : Heap) (locs : List Loc) (ls : Array Slot), zSt B1 I' → zI9 I' → zFx p m c cL_law 7 s args RL D cy B1 I' A → (11, 0) ∈ I' → (19, 0) ∈ I' → (193, 0) ∈ I' → c' ≤ room_1.cells ∧ s' ≤ room_1.slots → zRep D cy B1 I' A s.heap z' H locs → lv_has ls 7 [(0, .ref b), (1, .ref (B1 11 0)), (2, .ref (B1 19 0)), (3, .ref (B1 193 0)), (4, .int x4)] → W p l e room_1 s m args below meth c H locs c' s' Q (F0 m 2079 ls []))
    (h : fLaw_28 N sc ids cc ss z = some (z', I', c', s')) : W p l e room_1 s m args below meth c H locs cc ss Q (F0 m 2066 ls []) := by
  unfold fLaw_28 at h
  refine lv_aload_n F.1 F.2.1 dL_law_2066 rfl (lv_at hl 1 rfl) ?_
  replace h := zc_some h
  obtain ⟨r1, z2, hc3, h⟩ := h
  refine zr_calli (zrun_V (As := []) (rest := []) zq_281 zq_282 zs_X11_overdue zq_284 zq_1 hdX11_overdue (by decide) (T := TX11) (N := 21) rfl (okX11_overdue l D cy B ids hst N 0 h11 hr.2.2 hc3) F hr h11 hl.1 rfl (by decide) dL_law_2067 rfl rfl hroL_X11_overdue hcs) F hA hr (fun H locs hw4 hr => ?_)
  clear hc3
  refine lv_aload_n F.1 F.2.1 dL_law_2070 rfl (lv_at hl 2 rfl) ?_
  replace h := zc_some h
  obtain ⟨r5, z6, hc7, h⟩ := h
  refine zr_calli (zrun_V (As := []) (rest := [.int r1]) zq_3137 zq_3138 zs_X19_overdue zq_3140 zq_4 hdX19_overdue (by decide) (T := TX19) (N := 32) rfl (okX19_overdue l D cy B ids hst N 0 h19 hr.2.2 hc7) F hr h19 hl.1 rfl (Nat.le_of_ble_eq_true rfl) dL_law_2071 rfl rfl hroL_X19_overdue hcs) F hA hr (fun H locs hw8 hr => ?_)
  clear hc7
  refine lv_icmp_eq (tgt := 2079) F.1 F.2.1 dL_law_2074 (by decide) (fun c9 => ?_) (fun c9 => ?_)
  · replace h := zi_t c9 h
    obtain ⟨rfl, rfl, rfl, rfl⟩ := zret4 h
    exact K _ H locs ls hst h9 F h11 h19 h193 hcs hr (lv_sub hl [0, 1, 2, 3, 4] rfl)
  · replace h := zi_f c9 h
    refine lv_iconst (v := (0 : Int32)) F.1 F.2.1 dL_law_2077 (by decide) ?_
    cases h
end SLAW2
